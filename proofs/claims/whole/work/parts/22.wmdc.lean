-- MD_writes
def fMD_writes (t_length : Int32) (t_written : Nat → Int32) (x1 : Int32) : Option (Int32 × (Nat → Int32)) :=
  if bIn t_length 400 = true then
    some ((t_length + (1 : Int32)), (wrC t_written t_length ((Int32.toUInt32 x1 % 65536).toInt32)))
  else none
theorem kMD_writes_X11_writes_0 : Cond.fieldLink RX11 42 "RepeatNestsModel" "written" "[C" ∈ wsX11_writes := by decide +kernel
theorem iMD_writes_X11_writes_1 : ∀ w ∈ wsX110, w ∈ wsX11_writes := by decide +kernel
theorem kMD_writes_X11_writes_2 : Cond.fieldLink RX11 105 "RepeatNestsModel" "length" "I" ∈ wsX11_writes := by decide +kernel
set_option maxHeartbeats 4000000 in
set_option maxRecDepth 100000 in
theorem cMD_writes (l : Launch) (dC : Nat → ClassId) (dI : Nat → Nat → Nat) (cI cJ cC cS : ClassId) (h_t h_t_s h_t_was h_t_begun h_t_text h_t_wrong h_t_cost h_t_first h_t_block h_t_many h_t_stack h_t_written h_t_own h_t_levelAt h_t_itemAt h_t_times : Nat) (sz : Nat) (t_states : Int32) (t_typed : Int32) (t_height : Int32) (t_length : Int32) (t_at : Int32) (t_ownLength : Int32) (t_depth : Int32) (t_deepest : Int32) (t_letters : Int32) (t_repeats : Int32) (t_corrections : Int32) (t_mostCorrections : Int32) (t_place : Int32) (t_reason : Int32) (t_written : Nat → Int32) (x1 : Int32) (y_t_length : Int32) (y_t_written : Nat → Int32) (hres : fMD_writes t_length t_written x1 = some (y_t_length, y_t_written)) :
    Met l yX11_writes wsX11_writes ({ frames := 0, cells := 0, slots := 0, locals := 0 } : Room) (va_Pc [.ref h_t, .int x1] (fun (U : State) => U.heap.size = sz ∧ va_P (dC, dI) vwCl [(h_t, .inr (10, [.ref h_t_s, .ref h_t_was, .ref h_t_begun, .int t_states, .ref h_t_text, .int t_typed, .ref h_t_wrong, .ref h_t_cost, .ref h_t_first, .ref h_t_block, .ref h_t_many, .ref h_t_stack, .int t_height, .ref h_t_written, .int t_length, .ref h_t_own, .ref h_t_levelAt, .ref h_t_itemAt, .ref h_t_times, .int t_at, .int t_ownLength, .int t_depth, .int t_deepest, .int t_letters, .int t_repeats, .int t_corrections, .int t_mostCorrections, .int t_place, .int t_reason])), (h_t_written, .inl (cC, 400, .inl t_written))] U.heap ∧ va_K (dC, dI) vwCl (tyA cI cJ cC cS) U ∧ nwN U ∧ va_D (fun _ => True) [(h_t, .inr (10, [.ref h_t_s, .ref h_t_was, .ref h_t_begun, .int t_states, .ref h_t_text, .int t_typed, .ref h_t_wrong, .ref h_t_cost, .ref h_t_first, .ref h_t_block, .ref h_t_many, .ref h_t_stack, .int t_height, .ref h_t_written, .int t_length, .ref h_t_own, .ref h_t_levelAt, .ref h_t_itemAt, .ref h_t_times, .int t_at, .int t_ownLength, .int t_depth, .int t_deepest, .int t_letters, .int t_repeats, .int t_corrections, .int t_mostCorrections, .int t_place, .int t_reason])), (h_t_written, .inl (cC, 400, .inl t_written))])) (va_Qv (fun (_ : Unit) => True) (fun (_ : Unit) (t : State) => va_P (dC, dI) vwCl [(h_t, .inr (10, [.ref h_t_s, .ref h_t_was, .ref h_t_begun, .int t_states, .ref h_t_text, .int t_typed, .ref h_t_wrong, .ref h_t_cost, .ref h_t_first, .ref h_t_block, .ref h_t_many, .ref h_t_stack, .int t_height, .ref h_t_written, .int y_t_length, .ref h_t_own, .ref h_t_levelAt, .ref h_t_itemAt, .ref h_t_times, .int t_at, .int t_ownLength, .int t_depth, .int t_deepest, .int t_letters, .int t_repeats, .int t_corrections, .int t_mostCorrections, .int t_place, .int t_reason])), (h_t_written, .inl (cC, 400, .inl y_t_written))] t.heap ∧ va_K (dC, dI) vwCl (tyA cI cJ cC cS) t ∧ va_D (va_A [(h_t, .inr (10, [.ref h_t_s, .ref h_t_was, .ref h_t_begun, .int t_states, .ref h_t_text, .int t_typed, .ref h_t_wrong, .ref h_t_cost, .ref h_t_first, .ref h_t_block, .ref h_t_many, .ref h_t_stack, .int t_height, .ref h_t_written, .int t_length, .ref h_t_own, .ref h_t_levelAt, .ref h_t_itemAt, .ref h_t_times, .int t_at, .int t_ownLength, .int t_depth, .int t_deepest, .int t_letters, .int t_repeats, .int t_corrections, .int t_mostCorrections, .int t_place, .int t_reason])), (h_t_written, .inl (cC, 400, .inl t_written))] sz) [(h_t, .inr (10, [.ref h_t_s, .ref h_t_was, .ref h_t_begun, .int t_states, .ref h_t_text, .int t_typed, .ref h_t_wrong, .ref h_t_cost, .ref h_t_first, .ref h_t_block, .ref h_t_many, .ref h_t_stack, .int t_height, .ref h_t_written, .int y_t_length, .ref h_t_own, .ref h_t_levelAt, .ref h_t_itemAt, .ref h_t_times, .int t_at, .int t_ownLength, .int t_depth, .int t_deepest, .int t_letters, .int t_repeats, .int t_corrections, .int t_mostCorrections, .int t_place, .int t_reason])), (h_t_written, .inl (cC, 400, .inl y_t_written))]) (va_A [(h_t, .inr (10, [.ref h_t_s, .ref h_t_was, .ref h_t_begun, .int t_states, .ref h_t_text, .int t_typed, .ref h_t_wrong, .ref h_t_cost, .ref h_t_first, .ref h_t_block, .ref h_t_many, .ref h_t_stack, .int t_height, .ref h_t_written, .int t_length, .ref h_t_own, .ref h_t_levelAt, .ref h_t_itemAt, .ref h_t_times, .int t_at, .int t_ownLength, .int t_depth, .int t_deepest, .int t_letters, .int t_repeats, .int t_corrections, .int t_mostCorrections, .int t_place, .int t_reason])), (h_t_written, .inl (cC, 400, .inl t_written))] sz)) 0 0 (va_A [(h_t, .inr (10, [.ref h_t_s, .ref h_t_was, .ref h_t_begun, .int t_states, .ref h_t_text, .int t_typed, .ref h_t_wrong, .ref h_t_cost, .ref h_t_first, .ref h_t_block, .ref h_t_many, .ref h_t_stack, .int t_height, .ref h_t_written, .int t_length, .ref h_t_own, .ref h_t_levelAt, .ref h_t_itemAt, .ref h_t_times, .int t_at, .int t_ownLength, .int t_depth, .int t_deepest, .int t_letters, .int t_repeats, .int t_corrections, .int t_mostCorrections, .int t_place, .int t_reason])), (h_t_written, .inl (cC, 400, .inl t_written))] sz) := by
  refine Met.ofW (cc := cX11_writes) (maxL := 2) (ret := none) (by decide) rfl ?_
  intro p e s m args below meth c s₁ B hml hv
  obtain ⟨hargs, hsz, hP, hK, hN, hD0⟩ := hv
  have hx := B.exec
  have hb := B.bytes
  have hr := B.returns
  have hts := atoms_spec (ws := wsX11_writes) B.pre
  have hown : s.vm.findClass RX11 = some m.cls := findClass_of_methodNamed B.named
  have hlocks := B.notSynchronized
  subst hsz
  have hD := hD0.self (sz := s.heap.size)
  generalize hAe : va_A [(h_t, .inr (10, [.ref h_t_s, .ref h_t_was, .ref h_t_begun, .int t_states, .ref h_t_text, .int t_typed, .ref h_t_wrong, .ref h_t_cost, .ref h_t_first, .ref h_t_block, .ref h_t_many, .ref h_t_stack, .int t_height, .ref h_t_written, .int t_length, .ref h_t_own, .ref h_t_levelAt, .ref h_t_itemAt, .ref h_t_times, .int t_at, .int t_ownLength, .int t_depth, .int t_deepest, .int t_letters, .int t_repeats, .int t_corrections, .int t_mostCorrections, .int t_place, .int t_reason])), (h_t_written, .inl (cC, 400, .inl t_written))] s.heap.size = A at hD ⊢
  have hA : ∀ q : Nat, s.heap.size ≤ q → A q := fun q h => by rw [← hAe]; exact Or.inr h
  have hS : va_S A s.heap s.heap [] := va_S.rf
  have hP : va_P (dC, dI) vwCl [(h_t, .inr (10, [.ref h_t_s, .ref h_t_was, .ref h_t_begun, .int t_states, .ref h_t_text, .int t_typed, .ref h_t_wrong, .ref h_t_cost, .ref h_t_first, .ref h_t_block, .ref h_t_many, .ref h_t_stack, .int t_height, .ref h_t_written, .int t_length, .ref h_t_own, .ref h_t_levelAt, .ref h_t_itemAt, .ref h_t_times, .int t_at, .int t_ownLength, .int t_depth, .int t_deepest, .int t_letters, .int t_repeats, .int t_corrections, .int t_mostCorrections, .int t_place, .int t_reason])), (h_t_written, .inl (cC, 400, .inl t_written))] s.heap := hP
  have hl := lv_entry [.ref h_t, .int x1] (n := 2) (Nat.le_of_ble_eq_true rfl)
  rw [show entryFrame m args 2 = entryFrame m ([.ref h_t, .int x1] : List Value).toArray 2 from by rw [hargs], lg_entry_eq]
  generalize (lg_sl [.ref h_t, .int x1] ++ List.replicate (2 - (lg_sl [.ref h_t, .int x1]).length) Slot.unset).toArray = ls at hl ⊢
  have hl : lv_has ls 2 [(0, .ref h_t), (1, .int x1)] := hl
  generalize hQQ : MQ below (va_Qv (fun (_ : Unit) => True) (fun (_ : Unit) (t : State) => va_P (dC, dI) vwCl [(h_t, .inr (10, [.ref h_t_s, .ref h_t_was, .ref h_t_begun, .int t_states, .ref h_t_text, .int t_typed, .ref h_t_wrong, .ref h_t_cost, .ref h_t_first, .ref h_t_block, .ref h_t_many, .ref h_t_stack, .int t_height, .ref h_t_written, .int y_t_length, .ref h_t_own, .ref h_t_levelAt, .ref h_t_itemAt, .ref h_t_times, .int t_at, .int t_ownLength, .int t_depth, .int t_deepest, .int t_letters, .int t_repeats, .int t_corrections, .int t_mostCorrections, .int t_place, .int t_reason])), (h_t_written, .inl (cC, 400, .inl y_t_written))] t.heap ∧ va_K (dC, dI) vwCl (tyA cI cJ cC cS) t ∧ va_D A [(h_t, .inr (10, [.ref h_t_s, .ref h_t_was, .ref h_t_begun, .int t_states, .ref h_t_text, .int t_typed, .ref h_t_wrong, .ref h_t_cost, .ref h_t_first, .ref h_t_block, .ref h_t_many, .ref h_t_stack, .int t_height, .ref h_t_written, .int y_t_length, .ref h_t_own, .ref h_t_levelAt, .ref h_t_itemAt, .ref h_t_times, .int t_at, .int t_ownLength, .int t_depth, .int t_deepest, .int t_letters, .int t_repeats, .int t_corrections, .int t_mostCorrections, .int t_place, .int t_reason])), (h_t_written, .inl (cC, 400, .inl y_t_written))]) A) args s 0 0 A = QQ
  obtain ⟨H, hH⟩ : ∃ H : Heap, H = s.heap := ⟨_, rfl⟩
  obtain ⟨locs, hlocs⟩ : ∃ locs : List Loc, locs = [] := ⟨_, rfl⟩
  rw [← hH] at hP
  have hS : va_S A s.heap H locs := by rw [hH, hlocs]; exact hS
  suffices hZ : W p l e (headSpec wsX11_writes ({ frames := 0, cells := 0, slots := 0, locals := 0 } : Room)).room s m args below meth c H locs 0 0 QQ (F0 m 0 ls []) by rw [hH, hlocs] at hZ; exact hZ
  clear hH hlocs
  rw [fMD_writes] at hres
  refine lv_aload_n hx hb dX11_writes_0 rfl (lv_at hl 0 rfl) ?_
  refine va_get (D := (dC, dI)) (ci := 10) (v := .ref h_t_written) (C := RX11) (T := TX11) (N := 29) hx hb hts iMD_writes_X11_writes_1 hown hK hP 0 rfl rfl 13 (by decide) (hts _ kMD_writes_X11_writes_0) (fun _ h9 => h9) rfl dX11_writes_1 ?_
  refine lv_aload_n hx hb dX11_writes_4 rfl (lv_at hl 0 rfl) ?_
  refine va_get (D := (dC, dI)) (ci := 10) (v := .int t_length) (C := RX11) (T := TX11) (N := 29) hx hb hts iMD_writes_X11_writes_1 hown hK hP 0 rfl rfl 14 (by decide) (hts _ kMD_writes_X11_writes_2) (fun _ h9 => h9) rfl dX11_writes_5 ?_
  refine lv_iload_n hx hb dX11_writes_8 rfl (lv_at hl 1 rfl) ?_
  refine lv_i2c (v := (Int32.toUInt32 x1 % 65536).toInt32) hx hb dX11_writes_9 rfl ?_
  obtain ⟨c_1, hres⟩ := ck_of hres
  refine va_cast hx hb hK hP hD hS 1 2 rfl rfl c_1 dX11_writes_10 (fun H locs hP hD hS => ?_)
  have hP : va_P (dC, dI) vwCl [(h_t, .inr (10, [.ref h_t_s, .ref h_t_was, .ref h_t_begun, .int t_states, .ref h_t_text, .int t_typed, .ref h_t_wrong, .ref h_t_cost, .ref h_t_first, .ref h_t_block, .ref h_t_many, .ref h_t_stack, .int t_height, .ref h_t_written, .int t_length, .ref h_t_own, .ref h_t_levelAt, .ref h_t_itemAt, .ref h_t_times, .int t_at, .int t_ownLength, .int t_depth, .int t_deepest, .int t_letters, .int t_repeats, .int t_corrections, .int t_mostCorrections, .int t_place, .int t_reason])), (h_t_written, .inl (cC, 400, .inl (wrC t_written t_length ((Int32.toUInt32 x1 % 65536).toInt32))))] H := hP
  have hD : va_D A [(h_t, .inr (10, [.ref h_t_s, .ref h_t_was, .ref h_t_begun, .int t_states, .ref h_t_text, .int t_typed, .ref h_t_wrong, .ref h_t_cost, .ref h_t_first, .ref h_t_block, .ref h_t_many, .ref h_t_stack, .int t_height, .ref h_t_written, .int t_length, .ref h_t_own, .ref h_t_levelAt, .ref h_t_itemAt, .ref h_t_times, .int t_at, .int t_ownLength, .int t_depth, .int t_deepest, .int t_letters, .int t_repeats, .int t_corrections, .int t_mostCorrections, .int t_place, .int t_reason])), (h_t_written, .inl (cC, 400, .inl (wrC t_written t_length ((Int32.toUInt32 x1 % 65536).toInt32))))] := hD
  refine lv_aload_n hx hb dX11_writes_11 rfl (lv_at hl 0 rfl) ?_
  refine lv_dup hx hb dX11_writes_12 rfl ?_
  refine va_get (D := (dC, dI)) (ci := 10) (v := .int t_length) (C := RX11) (T := TX11) (N := 29) hx hb hts iMD_writes_X11_writes_1 hown hK hP 0 rfl rfl 14 (by decide) (hts _ kMD_writes_X11_writes_2) (fun _ h9 => h9) rfl dX11_writes_13 ?_
  refine lv_iconst (v := (1 : Int32)) hx hb dX11_writes_16 (by decide) ?_
  refine lv_iadd hx hb dX11_writes_17 ?_
  refine va_put (D := (dC, dI)) (ci := 10) (v := .int (t_length + (1 : Int32))) (ty := .int) (C := RX11) (T := TX11) (N := 29) hx hb hts iMD_writes_X11_writes_1 tyX11 tyX11_ok nmX11 hown hK hP hD hS 0 rfl rfl 14 (by decide) (hts _ kMD_writes_X11_writes_2) (fun _ h9 => h9) rfl (by decide +kernel) rfl rfl (Nat.le_of_ble_eq_true rfl) dX11_writes_18 (fun H locs hP hD hS => ?_)
  have hP : va_P (dC, dI) vwCl [(h_t, .inr (10, [.ref h_t_s, .ref h_t_was, .ref h_t_begun, .int t_states, .ref h_t_text, .int t_typed, .ref h_t_wrong, .ref h_t_cost, .ref h_t_first, .ref h_t_block, .ref h_t_many, .ref h_t_stack, .int t_height, .ref h_t_written, .int (t_length + (1 : Int32)), .ref h_t_own, .ref h_t_levelAt, .ref h_t_itemAt, .ref h_t_times, .int t_at, .int t_ownLength, .int t_depth, .int t_deepest, .int t_letters, .int t_repeats, .int t_corrections, .int t_mostCorrections, .int t_place, .int t_reason])), (h_t_written, .inl (cC, 400, .inl (wrC t_written t_length ((Int32.toUInt32 x1 % 65536).toInt32))))] H := hP
  have hD : va_D A [(h_t, .inr (10, [.ref h_t_s, .ref h_t_was, .ref h_t_begun, .int t_states, .ref h_t_text, .int t_typed, .ref h_t_wrong, .ref h_t_cost, .ref h_t_first, .ref h_t_block, .ref h_t_many, .ref h_t_stack, .int t_height, .ref h_t_written, .int (t_length + (1 : Int32)), .ref h_t_own, .ref h_t_levelAt, .ref h_t_itemAt, .ref h_t_times, .int t_at, .int t_ownLength, .int t_depth, .int t_deepest, .int t_letters, .int t_repeats, .int t_corrections, .int t_mostCorrections, .int t_place, .int t_reason])), (h_t_written, .inl (cC, 400, .inl (wrC t_written t_length ((Int32.toUInt32 x1 % 65536).toInt32))))] := hD
  obtain ⟨e9_0, e9_1⟩ := tup2 hres
  subst e9_0
  subst e9_1
  rw [← hQQ]
  exact W.vret hx hb hr (fun t ht hW => ⟨⟨(), rfl, trivial, by rw [ht]; exact hP, va_K.moved hW.alike hK, hD⟩, hS.F ht⟩) hS.2.2 dX11_writes_21

-- MD_number
def fMD_number_17 (x1 : Int32) (t_length : Int32) (t_written : Nat → Int32) : Option (Int32 × (Nat → Int32)) :=
    (fMD_writes t_length t_written ((48 : Int32) + (x1 - x1 / (10 : Int32) * (10 : Int32)))).bind fun o1 =>
      some (o1.1, o1.2)
def fMD_number (t_length : Int32) (t_written : Nat → Int32) (x1 : Int32) : Option (Int32 × (Nat → Int32)) :=
  if x1 ≤ (9 : Int32) then
    fMD_number_17 x1 t_length t_written
  else
    (fMD_writes t_length t_written ((48 : Int32) + (x1 / (10 : Int32)))).bind fun o3 =>
      fMD_number_17 x1 o3.1 o3.2
set_option maxHeartbeats 4000000 in
set_option maxRecDepth 100000 in
theorem cMD_number (l : Launch) (dC : Nat → ClassId) (dI : Nat → Nat → Nat) (cI cJ cC cS : ClassId) (h_t h_t_s h_t_was h_t_begun h_t_text h_t_wrong h_t_cost h_t_first h_t_block h_t_many h_t_stack h_t_written h_t_own h_t_levelAt h_t_itemAt h_t_times : Nat) (sz : Nat) (t_states : Int32) (t_typed : Int32) (t_height : Int32) (t_length : Int32) (t_at : Int32) (t_ownLength : Int32) (t_depth : Int32) (t_deepest : Int32) (t_letters : Int32) (t_repeats : Int32) (t_corrections : Int32) (t_mostCorrections : Int32) (t_place : Int32) (t_reason : Int32) (t_written : Nat → Int32) (x1 : Int32) (y_t_length : Int32) (y_t_written : Nat → Int32) (hres : fMD_number t_length t_written x1 = some (y_t_length, y_t_written)) :
    Met l yX11_number wsX11_number ({ frames := 1, cells := 0, slots := 0, locals := 21 } : Room) (va_Pc [.ref h_t, .int x1] (fun (U : State) => U.heap.size = sz ∧ va_P (dC, dI) vwCl [(h_t, .inr (10, [.ref h_t_s, .ref h_t_was, .ref h_t_begun, .int t_states, .ref h_t_text, .int t_typed, .ref h_t_wrong, .ref h_t_cost, .ref h_t_first, .ref h_t_block, .ref h_t_many, .ref h_t_stack, .int t_height, .ref h_t_written, .int t_length, .ref h_t_own, .ref h_t_levelAt, .ref h_t_itemAt, .ref h_t_times, .int t_at, .int t_ownLength, .int t_depth, .int t_deepest, .int t_letters, .int t_repeats, .int t_corrections, .int t_mostCorrections, .int t_place, .int t_reason])), (h_t_written, .inl (cC, 400, .inl t_written))] U.heap ∧ va_K (dC, dI) vwCl (tyA cI cJ cC cS) U ∧ nwN U ∧ va_D (fun _ => True) [(h_t, .inr (10, [.ref h_t_s, .ref h_t_was, .ref h_t_begun, .int t_states, .ref h_t_text, .int t_typed, .ref h_t_wrong, .ref h_t_cost, .ref h_t_first, .ref h_t_block, .ref h_t_many, .ref h_t_stack, .int t_height, .ref h_t_written, .int t_length, .ref h_t_own, .ref h_t_levelAt, .ref h_t_itemAt, .ref h_t_times, .int t_at, .int t_ownLength, .int t_depth, .int t_deepest, .int t_letters, .int t_repeats, .int t_corrections, .int t_mostCorrections, .int t_place, .int t_reason])), (h_t_written, .inl (cC, 400, .inl t_written))])) (va_Qv (fun (_ : Unit) => True) (fun (_ : Unit) (t : State) => va_P (dC, dI) vwCl [(h_t, .inr (10, [.ref h_t_s, .ref h_t_was, .ref h_t_begun, .int t_states, .ref h_t_text, .int t_typed, .ref h_t_wrong, .ref h_t_cost, .ref h_t_first, .ref h_t_block, .ref h_t_many, .ref h_t_stack, .int t_height, .ref h_t_written, .int y_t_length, .ref h_t_own, .ref h_t_levelAt, .ref h_t_itemAt, .ref h_t_times, .int t_at, .int t_ownLength, .int t_depth, .int t_deepest, .int t_letters, .int t_repeats, .int t_corrections, .int t_mostCorrections, .int t_place, .int t_reason])), (h_t_written, .inl (cC, 400, .inl y_t_written))] t.heap ∧ va_K (dC, dI) vwCl (tyA cI cJ cC cS) t ∧ va_D (va_A [(h_t, .inr (10, [.ref h_t_s, .ref h_t_was, .ref h_t_begun, .int t_states, .ref h_t_text, .int t_typed, .ref h_t_wrong, .ref h_t_cost, .ref h_t_first, .ref h_t_block, .ref h_t_many, .ref h_t_stack, .int t_height, .ref h_t_written, .int t_length, .ref h_t_own, .ref h_t_levelAt, .ref h_t_itemAt, .ref h_t_times, .int t_at, .int t_ownLength, .int t_depth, .int t_deepest, .int t_letters, .int t_repeats, .int t_corrections, .int t_mostCorrections, .int t_place, .int t_reason])), (h_t_written, .inl (cC, 400, .inl t_written))] sz) [(h_t, .inr (10, [.ref h_t_s, .ref h_t_was, .ref h_t_begun, .int t_states, .ref h_t_text, .int t_typed, .ref h_t_wrong, .ref h_t_cost, .ref h_t_first, .ref h_t_block, .ref h_t_many, .ref h_t_stack, .int t_height, .ref h_t_written, .int y_t_length, .ref h_t_own, .ref h_t_levelAt, .ref h_t_itemAt, .ref h_t_times, .int t_at, .int t_ownLength, .int t_depth, .int t_deepest, .int t_letters, .int t_repeats, .int t_corrections, .int t_mostCorrections, .int t_place, .int t_reason])), (h_t_written, .inl (cC, 400, .inl y_t_written))]) (va_A [(h_t, .inr (10, [.ref h_t_s, .ref h_t_was, .ref h_t_begun, .int t_states, .ref h_t_text, .int t_typed, .ref h_t_wrong, .ref h_t_cost, .ref h_t_first, .ref h_t_block, .ref h_t_many, .ref h_t_stack, .int t_height, .ref h_t_written, .int t_length, .ref h_t_own, .ref h_t_levelAt, .ref h_t_itemAt, .ref h_t_times, .int t_at, .int t_ownLength, .int t_depth, .int t_deepest, .int t_letters, .int t_repeats, .int t_corrections, .int t_mostCorrections, .int t_place, .int t_reason])), (h_t_written, .inl (cC, 400, .inl t_written))] sz)) 0 0 (va_A [(h_t, .inr (10, [.ref h_t_s, .ref h_t_was, .ref h_t_begun, .int t_states, .ref h_t_text, .int t_typed, .ref h_t_wrong, .ref h_t_cost, .ref h_t_first, .ref h_t_block, .ref h_t_many, .ref h_t_stack, .int t_height, .ref h_t_written, .int t_length, .ref h_t_own, .ref h_t_levelAt, .ref h_t_itemAt, .ref h_t_times, .int t_at, .int t_ownLength, .int t_depth, .int t_deepest, .int t_letters, .int t_repeats, .int t_corrections, .int t_mostCorrections, .int t_place, .int t_reason])), (h_t_written, .inl (cC, 400, .inl t_written))] sz) := by
  refine Met.ofW (cc := cX11_number) (maxL := 2) (ret := none) (by decide) rfl ?_
  intro p e s m args below meth c s₁ B hml hv
  obtain ⟨hargs, hsz, hP, hK, hN, hD0⟩ := hv
  have hx := B.exec
  have hb := B.bytes
  have hr := B.returns
  have hts := atoms_spec (ws := wsX11_number) B.pre
  have hown : s.vm.findClass RX11 = some m.cls := findClass_of_methodNamed B.named
  have hlocks := B.notSynchronized
  subst hsz
  have hD := hD0.self (sz := s.heap.size)
  generalize hAe : va_A [(h_t, .inr (10, [.ref h_t_s, .ref h_t_was, .ref h_t_begun, .int t_states, .ref h_t_text, .int t_typed, .ref h_t_wrong, .ref h_t_cost, .ref h_t_first, .ref h_t_block, .ref h_t_many, .ref h_t_stack, .int t_height, .ref h_t_written, .int t_length, .ref h_t_own, .ref h_t_levelAt, .ref h_t_itemAt, .ref h_t_times, .int t_at, .int t_ownLength, .int t_depth, .int t_deepest, .int t_letters, .int t_repeats, .int t_corrections, .int t_mostCorrections, .int t_place, .int t_reason])), (h_t_written, .inl (cC, 400, .inl t_written))] s.heap.size = A at hD ⊢
  have hA : ∀ q : Nat, s.heap.size ≤ q → A q := fun q h => by rw [← hAe]; exact Or.inr h
  have hS : va_S A s.heap s.heap [] := va_S.rf
  have hP : va_P (dC, dI) vwCl [(h_t, .inr (10, [.ref h_t_s, .ref h_t_was, .ref h_t_begun, .int t_states, .ref h_t_text, .int t_typed, .ref h_t_wrong, .ref h_t_cost, .ref h_t_first, .ref h_t_block, .ref h_t_many, .ref h_t_stack, .int t_height, .ref h_t_written, .int t_length, .ref h_t_own, .ref h_t_levelAt, .ref h_t_itemAt, .ref h_t_times, .int t_at, .int t_ownLength, .int t_depth, .int t_deepest, .int t_letters, .int t_repeats, .int t_corrections, .int t_mostCorrections, .int t_place, .int t_reason])), (h_t_written, .inl (cC, 400, .inl t_written))] s.heap := hP
  have hl := lv_entry [.ref h_t, .int x1] (n := 2) (Nat.le_of_ble_eq_true rfl)
  rw [show entryFrame m args 2 = entryFrame m ([.ref h_t, .int x1] : List Value).toArray 2 from by rw [hargs], lg_entry_eq]
  generalize (lg_sl [.ref h_t, .int x1] ++ List.replicate (2 - (lg_sl [.ref h_t, .int x1]).length) Slot.unset).toArray = ls at hl ⊢
  have hl : lv_has ls 2 [(0, .ref h_t), (1, .int x1)] := hl
  generalize hQQ : MQ below (va_Qv (fun (_ : Unit) => True) (fun (_ : Unit) (t : State) => va_P (dC, dI) vwCl [(h_t, .inr (10, [.ref h_t_s, .ref h_t_was, .ref h_t_begun, .int t_states, .ref h_t_text, .int t_typed, .ref h_t_wrong, .ref h_t_cost, .ref h_t_first, .ref h_t_block, .ref h_t_many, .ref h_t_stack, .int t_height, .ref h_t_written, .int y_t_length, .ref h_t_own, .ref h_t_levelAt, .ref h_t_itemAt, .ref h_t_times, .int t_at, .int t_ownLength, .int t_depth, .int t_deepest, .int t_letters, .int t_repeats, .int t_corrections, .int t_mostCorrections, .int t_place, .int t_reason])), (h_t_written, .inl (cC, 400, .inl y_t_written))] t.heap ∧ va_K (dC, dI) vwCl (tyA cI cJ cC cS) t ∧ va_D A [(h_t, .inr (10, [.ref h_t_s, .ref h_t_was, .ref h_t_begun, .int t_states, .ref h_t_text, .int t_typed, .ref h_t_wrong, .ref h_t_cost, .ref h_t_first, .ref h_t_block, .ref h_t_many, .ref h_t_stack, .int t_height, .ref h_t_written, .int y_t_length, .ref h_t_own, .ref h_t_levelAt, .ref h_t_itemAt, .ref h_t_times, .int t_at, .int t_ownLength, .int t_depth, .int t_deepest, .int t_letters, .int t_repeats, .int t_corrections, .int t_mostCorrections, .int t_place, .int t_reason])), (h_t_written, .inl (cC, 400, .inl y_t_written))]) A) args s 0 0 A = QQ
  obtain ⟨H, hH⟩ : ∃ H : Heap, H = s.heap := ⟨_, rfl⟩
  obtain ⟨locs, hlocs⟩ : ∃ locs : List Loc, locs = [] := ⟨_, rfl⟩
  rw [← hH] at hP
  have hS : va_S A s.heap H locs := by rw [hH, hlocs]; exact hS
  suffices hZ : W p l e (headSpec wsX11_number ({ frames := 1, cells := 0, slots := 0, locals := 21 } : Room)).room s m args below meth c H locs 0 0 QQ (F0 m 0 ls []) by rw [hH, hlocs] at hZ; exact hZ
  clear hH hlocs
  have hK17 : ∀ (t_length : Int32) (t_written : Nat → Int32) (H : Heap) (locs : List Loc) (ls : Array Slot), fMD_number_17 x1 t_length t_written = some (y_t_length, y_t_written) → va_P (dC, dI) vwCl [(h_t, .inr (10, [.ref h_t_s, .ref h_t_was, .ref h_t_begun, .int t_states, .ref h_t_text, .int t_typed, .ref h_t_wrong, .ref h_t_cost, .ref h_t_first, .ref h_t_block, .ref h_t_many, .ref h_t_stack, .int t_height, .ref h_t_written, .int t_length, .ref h_t_own, .ref h_t_levelAt, .ref h_t_itemAt, .ref h_t_times, .int t_at, .int t_ownLength, .int t_depth, .int t_deepest, .int t_letters, .int t_repeats, .int t_corrections, .int t_mostCorrections, .int t_place, .int t_reason])), (h_t_written, .inl (cC, 400, .inl t_written))] H → va_D A [(h_t, .inr (10, [.ref h_t_s, .ref h_t_was, .ref h_t_begun, .int t_states, .ref h_t_text, .int t_typed, .ref h_t_wrong, .ref h_t_cost, .ref h_t_first, .ref h_t_block, .ref h_t_many, .ref h_t_stack, .int t_height, .ref h_t_written, .int t_length, .ref h_t_own, .ref h_t_levelAt, .ref h_t_itemAt, .ref h_t_times, .int t_at, .int t_ownLength, .int t_depth, .int t_deepest, .int t_letters, .int t_repeats, .int t_corrections, .int t_mostCorrections, .int t_place, .int t_reason])), (h_t_written, .inl (cC, 400, .inl t_written))] → va_S A s.heap H locs → lv_has ls 2 [(0, .ref h_t), (1, .int x1)] → W p l e (headSpec wsX11_number ({ frames := 1, cells := 0, slots := 0, locals := 21 } : Room)).room s m args below meth c H locs 0 0 QQ (F0 m 17 ls []) := by
    intro t_length t_written H locs ls hres hP hD hS hl
    rw [fMD_number_17] at hres
    refine lv_aload_n hx hb dX11_number_17 rfl (lv_at hl 0 rfl) ?_
    refine lv_bipush (v := (48 : Int32)) hx hb dX11_number_18 (by decide) ?_
    refine lv_iload_n hx hb dX11_number_20 rfl (lv_at hl 1 rfl) ?_
    refine lv_bipush (v := (10 : Int32)) hx hb dX11_number_21 (by decide) ?_
    refine lv_irem hx hb dX11_number_23 (by decide) ?_
    refine lv_iadd hx hb dX11_number_24 ?_
    obtain ⟨o1, ho1, hres⟩ := bd_of hres
    have hPc := hP.sub (ws' := [(h_t, .inr (10, [.ref h_t_s, .ref h_t_was, .ref h_t_begun, .int t_states, .ref h_t_text, .int t_typed, .ref h_t_wrong, .ref h_t_cost, .ref h_t_first, .ref h_t_block, .ref h_t_many, .ref h_t_stack, .int t_height, .ref h_t_written, .int t_length, .ref h_t_own, .ref h_t_levelAt, .ref h_t_itemAt, .ref h_t_times, .int t_at, .int t_ownLength, .int t_depth, .int t_deepest, .int t_letters, .int t_repeats, .int t_corrections, .int t_mostCorrections, .int t_place, .int t_reason])), (h_t_written, .inl (cC, 400, .inl t_written))]) [0, 1] rfl
    have hDc := hD.sub (ws' := [(h_t, .inr (10, [.ref h_t_s, .ref h_t_was, .ref h_t_begun, .int t_states, .ref h_t_text, .int t_typed, .ref h_t_wrong, .ref h_t_cost, .ref h_t_first, .ref h_t_block, .ref h_t_many, .ref h_t_stack, .int t_height, .ref h_t_written, .int t_length, .ref h_t_own, .ref h_t_levelAt, .ref h_t_itemAt, .ref h_t_times, .int t_at, .int t_ownLength, .int t_depth, .int t_deepest, .int t_letters, .int t_repeats, .int t_corrections, .int t_mostCorrections, .int t_place, .int t_reason])), (h_t_written, .inl (cC, 400, .inl t_written))]) [0, 1] (by decide) rfl
    have hFc := va_free (wc := [(h_t, .inr (10, [.ref h_t_s, .ref h_t_was, .ref h_t_begun, .int t_states, .ref h_t_text, .int t_typed, .ref h_t_wrong, .ref h_t_cost, .ref h_t_first, .ref h_t_block, .ref h_t_many, .ref h_t_stack, .int t_height, .ref h_t_written, .int t_length, .ref h_t_own, .ref h_t_levelAt, .ref h_t_itemAt, .ref h_t_times, .int t_at, .int t_ownLength, .int t_depth, .int t_deepest, .int t_letters, .int t_repeats, .int t_corrections, .int t_mostCorrections, .int t_place, .int t_reason])), (h_t_written, .inl (cC, 400, .inl t_written))]) hD hS hA [0, 1] rfl
    refine va_callv (va_runV (As := [.int ((48 : Int32) + (x1 - x1 / (10 : Int32) * (10 : Int32)))]) (rest := []) ⟨hx, hb, hml, hown, hts⟩ (cMD_writes l dC dI cI cJ cC cS h_t h_t_s h_t_was h_t_begun h_t_text h_t_wrong h_t_cost h_t_first h_t_block h_t_many h_t_stack h_t_written h_t_own h_t_levelAt h_t_itemAt h_t_times H.size t_states t_typed t_height t_length t_at t_ownLength t_depth t_deepest t_letters t_repeats t_corrections t_mostCorrections t_place t_reason t_written ((48 : Int32) + (x1 - x1 / (10 : Int32) * (10 : Int32))) o1.1 o1.2 ho1) (cwV 1 hts gX11_number_X11_writes rfl rfl rfl (by decide +kernel) ⟨Nat.le_of_ble_eq_true rfl, Nat.le_of_ble_eq_true rfl⟩) ⟨fun a U g mk q => by obtain ⟨q0, q1, qP, qK, qN, qD⟩ := q; exact ⟨q0, q1, qP, va_K.moved (u := U) (U := U.calling g mk a) (Vm.Alike.refl U.vm) qK, nwS (u := U) (U := U.calling g mk a) rfl qN, qD⟩, va_recv hK hPc (ci := 10) (q0 := 0) rfl rfl, fun U hU hW => ⟨rfl, by rw [hU], by rw [hU]; exact hPc, va_K.moved hW.alike hK, nwW hW hN, hDc.weaken (fun _ _ _ _ => trivial)⟩⟩ rfl rfl hl.1 rfl (lv_room (Nat.le_of_ble_eq_true rfl)) dX11_number_25 ⟨Nat.zero_le _, Nat.zero_le _⟩) hS (fun q _ h => hFc q h) hFc (fun u9 t H1 locs ht hvm hw hB hz1 hk1 hS => ?_)
    obtain ⟨hP1, hK1, hD1⟩ := hB
    rw [ht] at hP1
    obtain ⟨hP, hD⟩ := va_join (wr := []) (w1 := [(h_t, .inr (10, [.ref h_t_s, .ref h_t_was, .ref h_t_begun, .int t_states, .ref h_t_text, .int t_typed, .ref h_t_wrong, .ref h_t_cost, .ref h_t_first, .ref h_t_block, .ref h_t_many, .ref h_t_stack, .int t_height, .ref h_t_written, .int o1.1, .ref h_t_own, .ref h_t_levelAt, .ref h_t_itemAt, .ref h_t_times, .int t_at, .int t_ownLength, .int t_depth, .int t_deepest, .int t_letters, .int t_repeats, .int t_corrections, .int t_mostCorrections, .int t_place, .int t_reason])), (h_t_written, .inl (cC, 400, .inl o1.2))]) hP hD [0, 1] [] rfl rfl (by decide) (by decide) hk1 hFc hP1 hD1
    generalize H1 = H at hP hS ⊢
    have hP : va_P (dC, dI) vwCl [(h_t, .inr (10, [.ref h_t_s, .ref h_t_was, .ref h_t_begun, .int t_states, .ref h_t_text, .int t_typed, .ref h_t_wrong, .ref h_t_cost, .ref h_t_first, .ref h_t_block, .ref h_t_many, .ref h_t_stack, .int t_height, .ref h_t_written, .int o1.1, .ref h_t_own, .ref h_t_levelAt, .ref h_t_itemAt, .ref h_t_times, .int t_at, .int t_ownLength, .int t_depth, .int t_deepest, .int t_letters, .int t_repeats, .int t_corrections, .int t_mostCorrections, .int t_place, .int t_reason])), (h_t_written, .inl (cC, 400, .inl o1.2))] H := hP
    have hD : va_D A [(h_t, .inr (10, [.ref h_t_s, .ref h_t_was, .ref h_t_begun, .int t_states, .ref h_t_text, .int t_typed, .ref h_t_wrong, .ref h_t_cost, .ref h_t_first, .ref h_t_block, .ref h_t_many, .ref h_t_stack, .int t_height, .ref h_t_written, .int o1.1, .ref h_t_own, .ref h_t_levelAt, .ref h_t_itemAt, .ref h_t_times, .int t_at, .int t_ownLength, .int t_depth, .int t_deepest, .int t_letters, .int t_repeats, .int t_corrections, .int t_mostCorrections, .int t_place, .int t_reason])), (h_t_written, .inl (cC, 400, .inl o1.2))] := hD
    obtain ⟨e9_0, e9_1⟩ := tup2 hres
    subst e9_0
    subst e9_1
    rw [← hQQ]
    exact W.vret hx hb hr (fun t ht hW => ⟨⟨(), rfl, trivial, by rw [ht]; exact hP, va_K.moved hW.alike hK, hD⟩, hS.F ht⟩) hS.2.2 dX11_number_28
  rw [fMD_number] at hres
  refine lv_iload_n hx hb dX11_number_0 rfl (lv_at hl 1 rfl) ?_
  refine lv_bipush (v := (9 : Int32)) hx hb dX11_number_1 (by decide) ?_
  refine lv_icmp_le (tgt := 17) hx hb dX11_number_3 (by decide) (fun c_2 => ?_) (fun c_2 => ?_)
  · have hres := it_of hres c_2
    exact hK17 t_length t_written H locs ls hres hP hD hS (lv_sub hl [0, 1] rfl)
  · have hres := ie_of hres c_2
    refine lv_aload_n hx hb dX11_number_6 rfl (lv_at hl 0 rfl) ?_
    refine lv_bipush (v := (48 : Int32)) hx hb dX11_number_7 (by decide) ?_
    refine lv_iload_n hx hb dX11_number_9 rfl (lv_at hl 1 rfl) ?_
    refine lv_bipush (v := (10 : Int32)) hx hb dX11_number_10 (by decide) ?_
    refine lv_idiv hx hb dX11_number_12 (by decide) ?_
    refine lv_iadd hx hb dX11_number_13 ?_
    obtain ⟨o3, ho3, hres⟩ := bd_of hres
    have hPc := hP.sub (ws' := [(h_t, .inr (10, [.ref h_t_s, .ref h_t_was, .ref h_t_begun, .int t_states, .ref h_t_text, .int t_typed, .ref h_t_wrong, .ref h_t_cost, .ref h_t_first, .ref h_t_block, .ref h_t_many, .ref h_t_stack, .int t_height, .ref h_t_written, .int t_length, .ref h_t_own, .ref h_t_levelAt, .ref h_t_itemAt, .ref h_t_times, .int t_at, .int t_ownLength, .int t_depth, .int t_deepest, .int t_letters, .int t_repeats, .int t_corrections, .int t_mostCorrections, .int t_place, .int t_reason])), (h_t_written, .inl (cC, 400, .inl t_written))]) [0, 1] rfl
    have hDc := hD.sub (ws' := [(h_t, .inr (10, [.ref h_t_s, .ref h_t_was, .ref h_t_begun, .int t_states, .ref h_t_text, .int t_typed, .ref h_t_wrong, .ref h_t_cost, .ref h_t_first, .ref h_t_block, .ref h_t_many, .ref h_t_stack, .int t_height, .ref h_t_written, .int t_length, .ref h_t_own, .ref h_t_levelAt, .ref h_t_itemAt, .ref h_t_times, .int t_at, .int t_ownLength, .int t_depth, .int t_deepest, .int t_letters, .int t_repeats, .int t_corrections, .int t_mostCorrections, .int t_place, .int t_reason])), (h_t_written, .inl (cC, 400, .inl t_written))]) [0, 1] (by decide) rfl
    have hFc := va_free (wc := [(h_t, .inr (10, [.ref h_t_s, .ref h_t_was, .ref h_t_begun, .int t_states, .ref h_t_text, .int t_typed, .ref h_t_wrong, .ref h_t_cost, .ref h_t_first, .ref h_t_block, .ref h_t_many, .ref h_t_stack, .int t_height, .ref h_t_written, .int t_length, .ref h_t_own, .ref h_t_levelAt, .ref h_t_itemAt, .ref h_t_times, .int t_at, .int t_ownLength, .int t_depth, .int t_deepest, .int t_letters, .int t_repeats, .int t_corrections, .int t_mostCorrections, .int t_place, .int t_reason])), (h_t_written, .inl (cC, 400, .inl t_written))]) hD hS hA [0, 1] rfl
    refine va_callv (va_runV (As := [.int ((48 : Int32) + (x1 / (10 : Int32)))]) (rest := []) ⟨hx, hb, hml, hown, hts⟩ (cMD_writes l dC dI cI cJ cC cS h_t h_t_s h_t_was h_t_begun h_t_text h_t_wrong h_t_cost h_t_first h_t_block h_t_many h_t_stack h_t_written h_t_own h_t_levelAt h_t_itemAt h_t_times H.size t_states t_typed t_height t_length t_at t_ownLength t_depth t_deepest t_letters t_repeats t_corrections t_mostCorrections t_place t_reason t_written ((48 : Int32) + (x1 / (10 : Int32))) o3.1 o3.2 ho3) (cwV 1 hts gX11_number_X11_writes rfl rfl rfl (by decide +kernel) ⟨Nat.le_of_ble_eq_true rfl, Nat.le_of_ble_eq_true rfl⟩) ⟨fun a U g mk q => by obtain ⟨q0, q1, qP, qK, qN, qD⟩ := q; exact ⟨q0, q1, qP, va_K.moved (u := U) (U := U.calling g mk a) (Vm.Alike.refl U.vm) qK, nwS (u := U) (U := U.calling g mk a) rfl qN, qD⟩, va_recv hK hPc (ci := 10) (q0 := 0) rfl rfl, fun U hU hW => ⟨rfl, by rw [hU], by rw [hU]; exact hPc, va_K.moved hW.alike hK, nwW hW hN, hDc.weaken (fun _ _ _ _ => trivial)⟩⟩ rfl rfl hl.1 rfl (lv_room (Nat.le_of_ble_eq_true rfl)) dX11_number_14 ⟨Nat.zero_le _, Nat.zero_le _⟩) hS (fun q _ h => hFc q h) hFc (fun u9 t H1 locs ht hvm hw hB hz1 hk1 hS => ?_)
    obtain ⟨hP1, hK1, hD1⟩ := hB
    rw [ht] at hP1
    obtain ⟨hP, hD⟩ := va_join (wr := []) (w1 := [(h_t, .inr (10, [.ref h_t_s, .ref h_t_was, .ref h_t_begun, .int t_states, .ref h_t_text, .int t_typed, .ref h_t_wrong, .ref h_t_cost, .ref h_t_first, .ref h_t_block, .ref h_t_many, .ref h_t_stack, .int t_height, .ref h_t_written, .int o3.1, .ref h_t_own, .ref h_t_levelAt, .ref h_t_itemAt, .ref h_t_times, .int t_at, .int t_ownLength, .int t_depth, .int t_deepest, .int t_letters, .int t_repeats, .int t_corrections, .int t_mostCorrections, .int t_place, .int t_reason])), (h_t_written, .inl (cC, 400, .inl o3.2))]) hP hD [0, 1] [] rfl rfl (by decide) (by decide) hk1 hFc hP1 hD1
    generalize H1 = H at hP hS ⊢
    have hP : va_P (dC, dI) vwCl [(h_t, .inr (10, [.ref h_t_s, .ref h_t_was, .ref h_t_begun, .int t_states, .ref h_t_text, .int t_typed, .ref h_t_wrong, .ref h_t_cost, .ref h_t_first, .ref h_t_block, .ref h_t_many, .ref h_t_stack, .int t_height, .ref h_t_written, .int o3.1, .ref h_t_own, .ref h_t_levelAt, .ref h_t_itemAt, .ref h_t_times, .int t_at, .int t_ownLength, .int t_depth, .int t_deepest, .int t_letters, .int t_repeats, .int t_corrections, .int t_mostCorrections, .int t_place, .int t_reason])), (h_t_written, .inl (cC, 400, .inl o3.2))] H := hP
    have hD : va_D A [(h_t, .inr (10, [.ref h_t_s, .ref h_t_was, .ref h_t_begun, .int t_states, .ref h_t_text, .int t_typed, .ref h_t_wrong, .ref h_t_cost, .ref h_t_first, .ref h_t_block, .ref h_t_many, .ref h_t_stack, .int t_height, .ref h_t_written, .int o3.1, .ref h_t_own, .ref h_t_levelAt, .ref h_t_itemAt, .ref h_t_times, .int t_at, .int t_ownLength, .int t_depth, .int t_deepest, .int t_letters, .int t_repeats, .int t_corrections, .int t_mostCorrections, .int t_place, .int t_reason])), (h_t_written, .inl (cC, 400, .inl o3.2))] := hD
    exact hK17 o3.1 o3.2 H locs ls hres hP hD hS (lv_sub hl [0, 1] rfl)

-- MD_ends
def fMD_ends_9 (t_s : Nat → Int32) (x1 : Int32) (x2 : Int32) (x3 : Int32) : Nat → Int32 → Int32 → (Nat → Int32) → Option (Int32 × (Nat → Int32))
  | 0, _, _, _ => none
  | n + 1, x4, t_length, t_written =>
    if (x2 * x3) ≤ x4 then
      some (t_length, t_written)
    else
      if bIn (((6 : Int32) + x1) + x4) 30 = true then
        if x2 = 0 then none else
          if bIn (((6 : Int32) + x1) + (x4 - x4 / x2 * x2)) 30 = true then
            if (rd t_s (((6 : Int32) + x1) + x4)) = (rd t_s (((6 : Int32) + x1) + (x4 - x4 / x2 * x2))) then
              fMD_ends_9 t_s x1 x2 x3 n (x4 + 1) t_length t_written
            else
              (fMD_writes t_length t_written (91 : Int32)).bind fun o6 =>
                (fMD_number o6.1 o6.2 x4).bind fun o7 =>
                  (fMD_writes o7.1 o7.2 (44 : Int32)).bind fun o8 =>
                    if bIn (((6 : Int32) + x1) + x4) 30 = true then
                      (fMD_writes o8.1 o8.2 ((97 : Int32) + (rd t_s (((6 : Int32) + x1) + x4)))).bind fun o10 =>
                        (fMD_writes o10.1 o10.2 (93 : Int32)).bind fun o11 =>
                          fMD_ends_9 t_s x1 x2 x3 n (x4 + 1) o11.1 o11.2
                    else none
          else none
      else none
def fMD_ends (t_s : Nat → Int32) (t_length : Int32) (t_written : Nat → Int32) (x1 : Int32) (x2 : Int32) (x3 : Int32) : Option (Int32 × (Nat → Int32)) :=
  (fMD_writes t_length t_written (41 : Int32)).bind fun o12 =>
    fMD_ends_9 t_s x1 x2 x3 FU x2 o12.1 o12.2
theorem kMD_ends_X11_ends_0 : Cond.fieldLink RX11 7 "RepeatNestsModel" "s" "[I" ∈ wsX11_ends := by decide +kernel
theorem iMD_ends_X11_ends_1 : ∀ w ∈ wsX110, w ∈ wsX11_ends := by decide +kernel
set_option maxHeartbeats 4000000 in
set_option maxRecDepth 100000 in
theorem cMD_ends (l : Launch) (dC : Nat → ClassId) (dI : Nat → Nat → Nat) (cI cJ cC cS : ClassId) (h_t h_t_s h_t_was h_t_begun h_t_text h_t_wrong h_t_cost h_t_first h_t_block h_t_many h_t_stack h_t_written h_t_own h_t_levelAt h_t_itemAt h_t_times : Nat) (sz : Nat) (t_states : Int32) (t_typed : Int32) (t_height : Int32) (t_length : Int32) (t_at : Int32) (t_ownLength : Int32) (t_depth : Int32) (t_deepest : Int32) (t_letters : Int32) (t_repeats : Int32) (t_corrections : Int32) (t_mostCorrections : Int32) (t_place : Int32) (t_reason : Int32) (t_s : Nat → Int32) (t_written : Nat → Int32) (x1 : Int32) (x2 : Int32) (x3 : Int32) (y_t_length : Int32) (y_t_written : Nat → Int32) (hres : fMD_ends t_s t_length t_written x1 x2 x3 = some (y_t_length, y_t_written)) :
    Met l yX11_ends wsX11_ends ({ frames := 2, cells := 0, slots := 0, locals := 42 } : Room) (va_Pc [.ref h_t, .int x1, .int x2, .int x3] (fun (U : State) => U.heap.size = sz ∧ va_P (dC, dI) vwCl [(h_t, .inr (10, [.ref h_t_s, .ref h_t_was, .ref h_t_begun, .int t_states, .ref h_t_text, .int t_typed, .ref h_t_wrong, .ref h_t_cost, .ref h_t_first, .ref h_t_block, .ref h_t_many, .ref h_t_stack, .int t_height, .ref h_t_written, .int t_length, .ref h_t_own, .ref h_t_levelAt, .ref h_t_itemAt, .ref h_t_times, .int t_at, .int t_ownLength, .int t_depth, .int t_deepest, .int t_letters, .int t_repeats, .int t_corrections, .int t_mostCorrections, .int t_place, .int t_reason])), (h_t_s, .inl (cI, 30, .inl t_s)), (h_t_written, .inl (cC, 400, .inl t_written))] U.heap ∧ va_K (dC, dI) vwCl (tyA cI cJ cC cS) U ∧ nwN U ∧ va_D (fun _ => True) [(h_t, .inr (10, [.ref h_t_s, .ref h_t_was, .ref h_t_begun, .int t_states, .ref h_t_text, .int t_typed, .ref h_t_wrong, .ref h_t_cost, .ref h_t_first, .ref h_t_block, .ref h_t_many, .ref h_t_stack, .int t_height, .ref h_t_written, .int t_length, .ref h_t_own, .ref h_t_levelAt, .ref h_t_itemAt, .ref h_t_times, .int t_at, .int t_ownLength, .int t_depth, .int t_deepest, .int t_letters, .int t_repeats, .int t_corrections, .int t_mostCorrections, .int t_place, .int t_reason])), (h_t_s, .inl (cI, 30, .inl t_s)), (h_t_written, .inl (cC, 400, .inl t_written))])) (va_Qv (fun (_ : Unit) => True) (fun (_ : Unit) (t : State) => va_P (dC, dI) vwCl [(h_t, .inr (10, [.ref h_t_s, .ref h_t_was, .ref h_t_begun, .int t_states, .ref h_t_text, .int t_typed, .ref h_t_wrong, .ref h_t_cost, .ref h_t_first, .ref h_t_block, .ref h_t_many, .ref h_t_stack, .int t_height, .ref h_t_written, .int y_t_length, .ref h_t_own, .ref h_t_levelAt, .ref h_t_itemAt, .ref h_t_times, .int t_at, .int t_ownLength, .int t_depth, .int t_deepest, .int t_letters, .int t_repeats, .int t_corrections, .int t_mostCorrections, .int t_place, .int t_reason])), (h_t_s, .inl (cI, 30, .inl t_s)), (h_t_written, .inl (cC, 400, .inl y_t_written))] t.heap ∧ va_K (dC, dI) vwCl (tyA cI cJ cC cS) t ∧ va_D (va_A [(h_t, .inr (10, [.ref h_t_s, .ref h_t_was, .ref h_t_begun, .int t_states, .ref h_t_text, .int t_typed, .ref h_t_wrong, .ref h_t_cost, .ref h_t_first, .ref h_t_block, .ref h_t_many, .ref h_t_stack, .int t_height, .ref h_t_written, .int t_length, .ref h_t_own, .ref h_t_levelAt, .ref h_t_itemAt, .ref h_t_times, .int t_at, .int t_ownLength, .int t_depth, .int t_deepest, .int t_letters, .int t_repeats, .int t_corrections, .int t_mostCorrections, .int t_place, .int t_reason])), (h_t_s, .inl (cI, 30, .inl t_s)), (h_t_written, .inl (cC, 400, .inl t_written))] sz) [(h_t, .inr (10, [.ref h_t_s, .ref h_t_was, .ref h_t_begun, .int t_states, .ref h_t_text, .int t_typed, .ref h_t_wrong, .ref h_t_cost, .ref h_t_first, .ref h_t_block, .ref h_t_many, .ref h_t_stack, .int t_height, .ref h_t_written, .int y_t_length, .ref h_t_own, .ref h_t_levelAt, .ref h_t_itemAt, .ref h_t_times, .int t_at, .int t_ownLength, .int t_depth, .int t_deepest, .int t_letters, .int t_repeats, .int t_corrections, .int t_mostCorrections, .int t_place, .int t_reason])), (h_t_s, .inl (cI, 30, .inl t_s)), (h_t_written, .inl (cC, 400, .inl y_t_written))]) (va_A [(h_t, .inr (10, [.ref h_t_s, .ref h_t_was, .ref h_t_begun, .int t_states, .ref h_t_text, .int t_typed, .ref h_t_wrong, .ref h_t_cost, .ref h_t_first, .ref h_t_block, .ref h_t_many, .ref h_t_stack, .int t_height, .ref h_t_written, .int t_length, .ref h_t_own, .ref h_t_levelAt, .ref h_t_itemAt, .ref h_t_times, .int t_at, .int t_ownLength, .int t_depth, .int t_deepest, .int t_letters, .int t_repeats, .int t_corrections, .int t_mostCorrections, .int t_place, .int t_reason])), (h_t_s, .inl (cI, 30, .inl t_s)), (h_t_written, .inl (cC, 400, .inl t_written))] sz)) 0 0 (va_A [(h_t, .inr (10, [.ref h_t_s, .ref h_t_was, .ref h_t_begun, .int t_states, .ref h_t_text, .int t_typed, .ref h_t_wrong, .ref h_t_cost, .ref h_t_first, .ref h_t_block, .ref h_t_many, .ref h_t_stack, .int t_height, .ref h_t_written, .int t_length, .ref h_t_own, .ref h_t_levelAt, .ref h_t_itemAt, .ref h_t_times, .int t_at, .int t_ownLength, .int t_depth, .int t_deepest, .int t_letters, .int t_repeats, .int t_corrections, .int t_mostCorrections, .int t_place, .int t_reason])), (h_t_s, .inl (cI, 30, .inl t_s)), (h_t_written, .inl (cC, 400, .inl t_written))] sz) := by
  refine Met.ofW (cc := cX11_ends) (maxL := 5) (ret := none) (by decide) rfl ?_
  intro p e s m args below meth c s₁ B hml hv
  obtain ⟨hargs, hsz, hP, hK, hN, hD0⟩ := hv
  have hx := B.exec
  have hb := B.bytes
  have hr := B.returns
  have hts := atoms_spec (ws := wsX11_ends) B.pre
  have hown : s.vm.findClass RX11 = some m.cls := findClass_of_methodNamed B.named
  have hlocks := B.notSynchronized
  subst hsz
  have hD := hD0.self (sz := s.heap.size)
  generalize hAe : va_A [(h_t, .inr (10, [.ref h_t_s, .ref h_t_was, .ref h_t_begun, .int t_states, .ref h_t_text, .int t_typed, .ref h_t_wrong, .ref h_t_cost, .ref h_t_first, .ref h_t_block, .ref h_t_many, .ref h_t_stack, .int t_height, .ref h_t_written, .int t_length, .ref h_t_own, .ref h_t_levelAt, .ref h_t_itemAt, .ref h_t_times, .int t_at, .int t_ownLength, .int t_depth, .int t_deepest, .int t_letters, .int t_repeats, .int t_corrections, .int t_mostCorrections, .int t_place, .int t_reason])), (h_t_s, .inl (cI, 30, .inl t_s)), (h_t_written, .inl (cC, 400, .inl t_written))] s.heap.size = A at hD ⊢
  have hA : ∀ q : Nat, s.heap.size ≤ q → A q := fun q h => by rw [← hAe]; exact Or.inr h
  have hS : va_S A s.heap s.heap [] := va_S.rf
  have hP : va_P (dC, dI) vwCl [(h_t, .inr (10, [.ref h_t_s, .ref h_t_was, .ref h_t_begun, .int t_states, .ref h_t_text, .int t_typed, .ref h_t_wrong, .ref h_t_cost, .ref h_t_first, .ref h_t_block, .ref h_t_many, .ref h_t_stack, .int t_height, .ref h_t_written, .int t_length, .ref h_t_own, .ref h_t_levelAt, .ref h_t_itemAt, .ref h_t_times, .int t_at, .int t_ownLength, .int t_depth, .int t_deepest, .int t_letters, .int t_repeats, .int t_corrections, .int t_mostCorrections, .int t_place, .int t_reason])), (h_t_s, .inl (cI, 30, .inl t_s)), (h_t_written, .inl (cC, 400, .inl t_written))] s.heap := hP
  have hl := lv_entry [.ref h_t, .int x1, .int x2, .int x3] (n := 5) (Nat.le_of_ble_eq_true rfl)
  rw [show entryFrame m args 5 = entryFrame m ([.ref h_t, .int x1, .int x2, .int x3] : List Value).toArray 5 from by rw [hargs], lg_entry_eq]
  generalize (lg_sl [.ref h_t, .int x1, .int x2, .int x3] ++ List.replicate (5 - (lg_sl [.ref h_t, .int x1, .int x2, .int x3]).length) Slot.unset).toArray = ls at hl ⊢
  have hl : lv_has ls 5 [(0, .ref h_t), (1, .int x1), (2, .int x2), (3, .int x3)] := hl
  generalize hQQ : MQ below (va_Qv (fun (_ : Unit) => True) (fun (_ : Unit) (t : State) => va_P (dC, dI) vwCl [(h_t, .inr (10, [.ref h_t_s, .ref h_t_was, .ref h_t_begun, .int t_states, .ref h_t_text, .int t_typed, .ref h_t_wrong, .ref h_t_cost, .ref h_t_first, .ref h_t_block, .ref h_t_many, .ref h_t_stack, .int t_height, .ref h_t_written, .int y_t_length, .ref h_t_own, .ref h_t_levelAt, .ref h_t_itemAt, .ref h_t_times, .int t_at, .int t_ownLength, .int t_depth, .int t_deepest, .int t_letters, .int t_repeats, .int t_corrections, .int t_mostCorrections, .int t_place, .int t_reason])), (h_t_s, .inl (cI, 30, .inl t_s)), (h_t_written, .inl (cC, 400, .inl y_t_written))] t.heap ∧ va_K (dC, dI) vwCl (tyA cI cJ cC cS) t ∧ va_D A [(h_t, .inr (10, [.ref h_t_s, .ref h_t_was, .ref h_t_begun, .int t_states, .ref h_t_text, .int t_typed, .ref h_t_wrong, .ref h_t_cost, .ref h_t_first, .ref h_t_block, .ref h_t_many, .ref h_t_stack, .int t_height, .ref h_t_written, .int y_t_length, .ref h_t_own, .ref h_t_levelAt, .ref h_t_itemAt, .ref h_t_times, .int t_at, .int t_ownLength, .int t_depth, .int t_deepest, .int t_letters, .int t_repeats, .int t_corrections, .int t_mostCorrections, .int t_place, .int t_reason])), (h_t_s, .inl (cI, 30, .inl t_s)), (h_t_written, .inl (cC, 400, .inl y_t_written))]) A) args s 0 0 A = QQ
  obtain ⟨H, hH⟩ : ∃ H : Heap, H = s.heap := ⟨_, rfl⟩
  obtain ⟨locs, hlocs⟩ : ∃ locs : List Loc, locs = [] := ⟨_, rfl⟩
  rw [← hH] at hP
  have hS : va_S A s.heap H locs := by rw [hH, hlocs]; exact hS
  suffices hZ : W p l e (headSpec wsX11_ends ({ frames := 2, cells := 0, slots := 0, locals := 42 } : Room)).room s m args below meth c H locs 0 0 QQ (F0 m 0 ls []) by rw [hH, hlocs] at hZ; exact hZ
  clear hH hlocs
  have hL9 : ∀ (n9 : Nat) , ∀ (x4 : Int32) (t_length : Int32) (t_written : Nat → Int32) (H : Heap) (locs : List Loc) (ls : Array Slot), fMD_ends_9 t_s x1 x2 x3 n9 x4 t_length t_written = some (y_t_length, y_t_written) → va_P (dC, dI) vwCl [(h_t, .inr (10, [.ref h_t_s, .ref h_t_was, .ref h_t_begun, .int t_states, .ref h_t_text, .int t_typed, .ref h_t_wrong, .ref h_t_cost, .ref h_t_first, .ref h_t_block, .ref h_t_many, .ref h_t_stack, .int t_height, .ref h_t_written, .int t_length, .ref h_t_own, .ref h_t_levelAt, .ref h_t_itemAt, .ref h_t_times, .int t_at, .int t_ownLength, .int t_depth, .int t_deepest, .int t_letters, .int t_repeats, .int t_corrections, .int t_mostCorrections, .int t_place, .int t_reason])), (h_t_s, .inl (cI, 30, .inl t_s)), (h_t_written, .inl (cC, 400, .inl t_written))] H → va_D A [(h_t, .inr (10, [.ref h_t_s, .ref h_t_was, .ref h_t_begun, .int t_states, .ref h_t_text, .int t_typed, .ref h_t_wrong, .ref h_t_cost, .ref h_t_first, .ref h_t_block, .ref h_t_many, .ref h_t_stack, .int t_height, .ref h_t_written, .int t_length, .ref h_t_own, .ref h_t_levelAt, .ref h_t_itemAt, .ref h_t_times, .int t_at, .int t_ownLength, .int t_depth, .int t_deepest, .int t_letters, .int t_repeats, .int t_corrections, .int t_mostCorrections, .int t_place, .int t_reason])), (h_t_s, .inl (cI, 30, .inl t_s)), (h_t_written, .inl (cC, 400, .inl t_written))] → va_S A s.heap H locs → lv_has ls 5 [(0, .ref h_t), (1, .int x1), (2, .int x2), (3, .int x3), (4, .int x4)] → W p l e (headSpec wsX11_ends ({ frames := 2, cells := 0, slots := 0, locals := 42 } : Room)).room s m args below meth c H locs 0 0 QQ (F0 m 9 ls []) := by
    intro n9
    induction n9 with
    | zero =>
      intro x4 t_length t_written H locs ls hres
      rw [fMD_ends_9] at hres
      cases hres
    | succ n9 ih9 =>
      intro x4 t_length t_written H locs ls hres hP hD hS hl
      rw [fMD_ends_9] at hres
      refine lv_iload hx hb dX11_ends_9 (lv_at hl 4 rfl) ?_
      refine lv_iload_n hx hb dX11_ends_11 rfl (lv_at hl 2 rfl) ?_
      refine lv_iload_n hx hb dX11_ends_12 rfl (lv_at hl 3 rfl) ?_
      refine lv_imul hx hb dX11_ends_13 ?_
      refine lv_icmp_ge (tgt := 95) hx hb dX11_ends_14 (by decide) (fun c_1 => ?_) (fun c_1 => ?_)
      · have hres := it_of hres c_1
        obtain ⟨e9_0, e9_1⟩ := tup2 hres
        subst e9_0
        subst e9_1
        rw [← hQQ]
        exact W.vret hx hb hr (fun t ht hW => ⟨⟨(), rfl, trivial, by rw [ht]; exact hP, va_K.moved hW.alike hK, hD⟩, hS.F ht⟩) hS.2.2 dX11_ends_95
      · have hres := ie_of hres c_1
        refine lv_aload_n hx hb dX11_ends_17 rfl (lv_at hl 0 rfl) ?_
        refine va_get (D := (dC, dI)) (ci := 10) (v := .ref h_t_s) (C := RX11) (T := TX11) (N := 29) hx hb hts iMD_ends_X11_ends_1 hown hK hP 0 rfl rfl 0 (by decide) (hts _ kMD_ends_X11_ends_0) (fun _ h9 => h9) rfl dX11_ends_18 ?_
        refine lv_bipush (v := (6 : Int32)) hx hb dX11_ends_21 (by decide) ?_
        refine lv_iload_n hx hb dX11_ends_23 rfl (lv_at hl 1 rfl) ?_
        refine lv_iadd hx hb dX11_ends_24 ?_
        refine lv_iload hx hb dX11_ends_25 (lv_at hl 4 rfl) ?_
        refine lv_iadd hx hb dX11_ends_27 ?_
        obtain ⟨c_2, hres⟩ := ck_of hres
        refine va_iald hx hb hK hP 1 0 rfl rfl c_2 dX11_ends_28 ?_
        refine lv_aload_n hx hb dX11_ends_29 rfl (lv_at hl 0 rfl) ?_
        refine va_get (D := (dC, dI)) (ci := 10) (v := .ref h_t_s) (C := RX11) (T := TX11) (N := 29) hx hb hts iMD_ends_X11_ends_1 hown hK hP 0 rfl rfl 0 (by decide) (hts _ kMD_ends_X11_ends_0) (fun _ h9 => h9) rfl dX11_ends_30 ?_
        refine lv_bipush (v := (6 : Int32)) hx hb dX11_ends_33 (by decide) ?_
        refine lv_iload_n hx hb dX11_ends_35 rfl (lv_at hl 1 rfl) ?_
        refine lv_iadd hx hb dX11_ends_36 ?_
        refine lv_iload hx hb dX11_ends_37 (lv_at hl 4 rfl) ?_
        refine lv_iload_n hx hb dX11_ends_39 rfl (lv_at hl 2 rfl) ?_
        obtain ⟨c_3, hres⟩ := nz_of hres
        refine lv_irem hx hb dX11_ends_40 c_3 ?_
        refine lv_iadd hx hb dX11_ends_41 ?_
        obtain ⟨c_4, hres⟩ := ck_of hres
        refine va_iald hx hb hK hP 1 0 rfl rfl c_4 dX11_ends_42 ?_
        refine lv_icmp_eq (tgt := 89) hx hb dX11_ends_43 (by decide) (fun c_5 => ?_) (fun c_5 => ?_)
        · have hres := it_of hres c_5
          refine lv_iinc (v := (x4 + 1)) (lv' := [(4, .int (x4 + 1)), (0, .ref h_t), (1, .int x1), (2, .int x2), (3, .int x3)]) hx hb dX11_ends_89 hl (k := 4) rfl rfl (by decide) rfl (fun ls hl => ?_)
          refine lv_goto (tgt := 9) hx hb dX11_ends_92 (by decide) ?_
          exact ih9 (x4 + 1) t_length t_written H locs ls hres hP hD hS (lv_sub hl [1, 2, 3, 4, 0] rfl)
        · have hres := ie_of hres c_5
          refine lv_aload_n hx hb dX11_ends_46 rfl (lv_at hl 0 rfl) ?_
          refine lv_bipush (v := (91 : Int32)) hx hb dX11_ends_47 (by decide) ?_
          obtain ⟨o6, ho6, hres⟩ := bd_of hres
          have hPc := hP.sub (ws' := [(h_t, .inr (10, [.ref h_t_s, .ref h_t_was, .ref h_t_begun, .int t_states, .ref h_t_text, .int t_typed, .ref h_t_wrong, .ref h_t_cost, .ref h_t_first, .ref h_t_block, .ref h_t_many, .ref h_t_stack, .int t_height, .ref h_t_written, .int t_length, .ref h_t_own, .ref h_t_levelAt, .ref h_t_itemAt, .ref h_t_times, .int t_at, .int t_ownLength, .int t_depth, .int t_deepest, .int t_letters, .int t_repeats, .int t_corrections, .int t_mostCorrections, .int t_place, .int t_reason])), (h_t_written, .inl (cC, 400, .inl t_written))]) [0, 2] rfl
          have hDc := hD.sub (ws' := [(h_t, .inr (10, [.ref h_t_s, .ref h_t_was, .ref h_t_begun, .int t_states, .ref h_t_text, .int t_typed, .ref h_t_wrong, .ref h_t_cost, .ref h_t_first, .ref h_t_block, .ref h_t_many, .ref h_t_stack, .int t_height, .ref h_t_written, .int t_length, .ref h_t_own, .ref h_t_levelAt, .ref h_t_itemAt, .ref h_t_times, .int t_at, .int t_ownLength, .int t_depth, .int t_deepest, .int t_letters, .int t_repeats, .int t_corrections, .int t_mostCorrections, .int t_place, .int t_reason])), (h_t_written, .inl (cC, 400, .inl t_written))]) [0, 2] (by decide) rfl
          have hFc := va_free (wc := [(h_t, .inr (10, [.ref h_t_s, .ref h_t_was, .ref h_t_begun, .int t_states, .ref h_t_text, .int t_typed, .ref h_t_wrong, .ref h_t_cost, .ref h_t_first, .ref h_t_block, .ref h_t_many, .ref h_t_stack, .int t_height, .ref h_t_written, .int t_length, .ref h_t_own, .ref h_t_levelAt, .ref h_t_itemAt, .ref h_t_times, .int t_at, .int t_ownLength, .int t_depth, .int t_deepest, .int t_letters, .int t_repeats, .int t_corrections, .int t_mostCorrections, .int t_place, .int t_reason])), (h_t_written, .inl (cC, 400, .inl t_written))]) hD hS hA [0, 2] rfl
          refine va_callv (va_runV (As := [.int (91 : Int32)]) (rest := []) ⟨hx, hb, hml, hown, hts⟩ (cMD_writes l dC dI cI cJ cC cS h_t h_t_s h_t_was h_t_begun h_t_text h_t_wrong h_t_cost h_t_first h_t_block h_t_many h_t_stack h_t_written h_t_own h_t_levelAt h_t_itemAt h_t_times H.size t_states t_typed t_height t_length t_at t_ownLength t_depth t_deepest t_letters t_repeats t_corrections t_mostCorrections t_place t_reason t_written (91 : Int32) o6.1 o6.2 ho6) (cwV 1 hts gX11_ends_X11_writes rfl rfl rfl (by decide +kernel) ⟨Nat.le_of_ble_eq_true rfl, Nat.le_of_ble_eq_true rfl⟩) ⟨fun a U g mk q => by obtain ⟨q0, q1, qP, qK, qN, qD⟩ := q; exact ⟨q0, q1, qP, va_K.moved (u := U) (U := U.calling g mk a) (Vm.Alike.refl U.vm) qK, nwS (u := U) (U := U.calling g mk a) rfl qN, qD⟩, va_recv hK hPc (ci := 10) (q0 := 0) rfl rfl, fun U hU hW => ⟨rfl, by rw [hU], by rw [hU]; exact hPc, va_K.moved hW.alike hK, nwW hW hN, hDc.weaken (fun _ _ _ _ => trivial)⟩⟩ rfl rfl hl.1 rfl (lv_room (Nat.le_of_ble_eq_true rfl)) dX11_ends_49 ⟨Nat.zero_le _, Nat.zero_le _⟩) hS (fun q _ h => hFc q h) hFc (fun u9 t H1 locs ht hvm hw hB hz1 hk1 hS => ?_)
          obtain ⟨hP1, hK1, hD1⟩ := hB
          rw [ht] at hP1
          obtain ⟨hP, hD⟩ := va_join (wr := [(h_t_s, .inl (cI, 30, .inl t_s))]) (w1 := [(h_t, .inr (10, [.ref h_t_s, .ref h_t_was, .ref h_t_begun, .int t_states, .ref h_t_text, .int t_typed, .ref h_t_wrong, .ref h_t_cost, .ref h_t_first, .ref h_t_block, .ref h_t_many, .ref h_t_stack, .int t_height, .ref h_t_written, .int o6.1, .ref h_t_own, .ref h_t_levelAt, .ref h_t_itemAt, .ref h_t_times, .int t_at, .int t_ownLength, .int t_depth, .int t_deepest, .int t_letters, .int t_repeats, .int t_corrections, .int t_mostCorrections, .int t_place, .int t_reason])), (h_t_written, .inl (cC, 400, .inl o6.2))]) hP hD [0, 2] [1] rfl rfl (by decide) (by decide) hk1 hFc hP1 hD1
          generalize H1 = H at hP hS ⊢
          have hP : va_P (dC, dI) vwCl [(h_t_s, .inl (cI, 30, .inl t_s)), (h_t, .inr (10, [.ref h_t_s, .ref h_t_was, .ref h_t_begun, .int t_states, .ref h_t_text, .int t_typed, .ref h_t_wrong, .ref h_t_cost, .ref h_t_first, .ref h_t_block, .ref h_t_many, .ref h_t_stack, .int t_height, .ref h_t_written, .int o6.1, .ref h_t_own, .ref h_t_levelAt, .ref h_t_itemAt, .ref h_t_times, .int t_at, .int t_ownLength, .int t_depth, .int t_deepest, .int t_letters, .int t_repeats, .int t_corrections, .int t_mostCorrections, .int t_place, .int t_reason])), (h_t_written, .inl (cC, 400, .inl o6.2))] H := hP
          have hD : va_D A [(h_t_s, .inl (cI, 30, .inl t_s)), (h_t, .inr (10, [.ref h_t_s, .ref h_t_was, .ref h_t_begun, .int t_states, .ref h_t_text, .int t_typed, .ref h_t_wrong, .ref h_t_cost, .ref h_t_first, .ref h_t_block, .ref h_t_many, .ref h_t_stack, .int t_height, .ref h_t_written, .int o6.1, .ref h_t_own, .ref h_t_levelAt, .ref h_t_itemAt, .ref h_t_times, .int t_at, .int t_ownLength, .int t_depth, .int t_deepest, .int t_letters, .int t_repeats, .int t_corrections, .int t_mostCorrections, .int t_place, .int t_reason])), (h_t_written, .inl (cC, 400, .inl o6.2))] := hD
          refine lv_aload_n hx hb dX11_ends_52 rfl (lv_at hl 0 rfl) ?_
          refine lv_iload hx hb dX11_ends_53 (lv_at hl 4 rfl) ?_
          obtain ⟨o7, ho7, hres⟩ := bd_of hres
          have hPc := hP.sub (ws' := [(h_t, .inr (10, [.ref h_t_s, .ref h_t_was, .ref h_t_begun, .int t_states, .ref h_t_text, .int t_typed, .ref h_t_wrong, .ref h_t_cost, .ref h_t_first, .ref h_t_block, .ref h_t_many, .ref h_t_stack, .int t_height, .ref h_t_written, .int o6.1, .ref h_t_own, .ref h_t_levelAt, .ref h_t_itemAt, .ref h_t_times, .int t_at, .int t_ownLength, .int t_depth, .int t_deepest, .int t_letters, .int t_repeats, .int t_corrections, .int t_mostCorrections, .int t_place, .int t_reason])), (h_t_written, .inl (cC, 400, .inl o6.2))]) [1, 2] rfl
          have hDc := hD.sub (ws' := [(h_t, .inr (10, [.ref h_t_s, .ref h_t_was, .ref h_t_begun, .int t_states, .ref h_t_text, .int t_typed, .ref h_t_wrong, .ref h_t_cost, .ref h_t_first, .ref h_t_block, .ref h_t_many, .ref h_t_stack, .int t_height, .ref h_t_written, .int o6.1, .ref h_t_own, .ref h_t_levelAt, .ref h_t_itemAt, .ref h_t_times, .int t_at, .int t_ownLength, .int t_depth, .int t_deepest, .int t_letters, .int t_repeats, .int t_corrections, .int t_mostCorrections, .int t_place, .int t_reason])), (h_t_written, .inl (cC, 400, .inl o6.2))]) [1, 2] (by decide) rfl
          have hFc := va_free (wc := [(h_t, .inr (10, [.ref h_t_s, .ref h_t_was, .ref h_t_begun, .int t_states, .ref h_t_text, .int t_typed, .ref h_t_wrong, .ref h_t_cost, .ref h_t_first, .ref h_t_block, .ref h_t_many, .ref h_t_stack, .int t_height, .ref h_t_written, .int o6.1, .ref h_t_own, .ref h_t_levelAt, .ref h_t_itemAt, .ref h_t_times, .int t_at, .int t_ownLength, .int t_depth, .int t_deepest, .int t_letters, .int t_repeats, .int t_corrections, .int t_mostCorrections, .int t_place, .int t_reason])), (h_t_written, .inl (cC, 400, .inl o6.2))]) hD hS hA [1, 2] rfl
          refine va_callv (va_runV (As := [.int x4]) (rest := []) ⟨hx, hb, hml, hown, hts⟩ (cMD_number l dC dI cI cJ cC cS h_t h_t_s h_t_was h_t_begun h_t_text h_t_wrong h_t_cost h_t_first h_t_block h_t_many h_t_stack h_t_written h_t_own h_t_levelAt h_t_itemAt h_t_times H.size t_states t_typed t_height o6.1 t_at t_ownLength t_depth t_deepest t_letters t_repeats t_corrections t_mostCorrections t_place t_reason o6.2 x4 o7.1 o7.2 ho7) (cwV 1 hts gX11_ends_X11_number rfl rfl rfl (by decide +kernel) ⟨Nat.le_of_ble_eq_true rfl, Nat.le_of_ble_eq_true rfl⟩) ⟨fun a U g mk q => by obtain ⟨q0, q1, qP, qK, qN, qD⟩ := q; exact ⟨q0, q1, qP, va_K.moved (u := U) (U := U.calling g mk a) (Vm.Alike.refl U.vm) qK, nwS (u := U) (U := U.calling g mk a) rfl qN, qD⟩, va_recv hK hPc (ci := 10) (q0 := 0) rfl rfl, fun U hU hW => ⟨rfl, by rw [hU], by rw [hU]; exact hPc, va_K.moved hW.alike hK, nwW hW hN, hDc.weaken (fun _ _ _ _ => trivial)⟩⟩ rfl rfl hl.1 rfl (lv_room (Nat.le_of_ble_eq_true rfl)) dX11_ends_55 ⟨Nat.zero_le _, Nat.zero_le _⟩) hS (fun q _ h => hFc q h) hFc (fun u9 t H1 locs ht hvm hw hB hz1 hk1 hS => ?_)
          obtain ⟨hP1, hK1, hD1⟩ := hB
          rw [ht] at hP1
          obtain ⟨hP, hD⟩ := va_join (wr := [(h_t_s, .inl (cI, 30, .inl t_s))]) (w1 := [(h_t, .inr (10, [.ref h_t_s, .ref h_t_was, .ref h_t_begun, .int t_states, .ref h_t_text, .int t_typed, .ref h_t_wrong, .ref h_t_cost, .ref h_t_first, .ref h_t_block, .ref h_t_many, .ref h_t_stack, .int t_height, .ref h_t_written, .int o7.1, .ref h_t_own, .ref h_t_levelAt, .ref h_t_itemAt, .ref h_t_times, .int t_at, .int t_ownLength, .int t_depth, .int t_deepest, .int t_letters, .int t_repeats, .int t_corrections, .int t_mostCorrections, .int t_place, .int t_reason])), (h_t_written, .inl (cC, 400, .inl o7.2))]) hP hD [1, 2] [0] rfl rfl (by decide) (by decide) hk1 hFc hP1 hD1
          generalize H1 = H at hP hS ⊢
          have hP : va_P (dC, dI) vwCl [(h_t_s, .inl (cI, 30, .inl t_s)), (h_t, .inr (10, [.ref h_t_s, .ref h_t_was, .ref h_t_begun, .int t_states, .ref h_t_text, .int t_typed, .ref h_t_wrong, .ref h_t_cost, .ref h_t_first, .ref h_t_block, .ref h_t_many, .ref h_t_stack, .int t_height, .ref h_t_written, .int o7.1, .ref h_t_own, .ref h_t_levelAt, .ref h_t_itemAt, .ref h_t_times, .int t_at, .int t_ownLength, .int t_depth, .int t_deepest, .int t_letters, .int t_repeats, .int t_corrections, .int t_mostCorrections, .int t_place, .int t_reason])), (h_t_written, .inl (cC, 400, .inl o7.2))] H := hP
          have hD : va_D A [(h_t_s, .inl (cI, 30, .inl t_s)), (h_t, .inr (10, [.ref h_t_s, .ref h_t_was, .ref h_t_begun, .int t_states, .ref h_t_text, .int t_typed, .ref h_t_wrong, .ref h_t_cost, .ref h_t_first, .ref h_t_block, .ref h_t_many, .ref h_t_stack, .int t_height, .ref h_t_written, .int o7.1, .ref h_t_own, .ref h_t_levelAt, .ref h_t_itemAt, .ref h_t_times, .int t_at, .int t_ownLength, .int t_depth, .int t_deepest, .int t_letters, .int t_repeats, .int t_corrections, .int t_mostCorrections, .int t_place, .int t_reason])), (h_t_written, .inl (cC, 400, .inl o7.2))] := hD
          refine lv_aload_n hx hb dX11_ends_58 rfl (lv_at hl 0 rfl) ?_
          refine lv_bipush (v := (44 : Int32)) hx hb dX11_ends_59 (by decide) ?_
          obtain ⟨o8, ho8, hres⟩ := bd_of hres
          have hPc := hP.sub (ws' := [(h_t, .inr (10, [.ref h_t_s, .ref h_t_was, .ref h_t_begun, .int t_states, .ref h_t_text, .int t_typed, .ref h_t_wrong, .ref h_t_cost, .ref h_t_first, .ref h_t_block, .ref h_t_many, .ref h_t_stack, .int t_height, .ref h_t_written, .int o7.1, .ref h_t_own, .ref h_t_levelAt, .ref h_t_itemAt, .ref h_t_times, .int t_at, .int t_ownLength, .int t_depth, .int t_deepest, .int t_letters, .int t_repeats, .int t_corrections, .int t_mostCorrections, .int t_place, .int t_reason])), (h_t_written, .inl (cC, 400, .inl o7.2))]) [1, 2] rfl
          have hDc := hD.sub (ws' := [(h_t, .inr (10, [.ref h_t_s, .ref h_t_was, .ref h_t_begun, .int t_states, .ref h_t_text, .int t_typed, .ref h_t_wrong, .ref h_t_cost, .ref h_t_first, .ref h_t_block, .ref h_t_many, .ref h_t_stack, .int t_height, .ref h_t_written, .int o7.1, .ref h_t_own, .ref h_t_levelAt, .ref h_t_itemAt, .ref h_t_times, .int t_at, .int t_ownLength, .int t_depth, .int t_deepest, .int t_letters, .int t_repeats, .int t_corrections, .int t_mostCorrections, .int t_place, .int t_reason])), (h_t_written, .inl (cC, 400, .inl o7.2))]) [1, 2] (by decide) rfl
          have hFc := va_free (wc := [(h_t, .inr (10, [.ref h_t_s, .ref h_t_was, .ref h_t_begun, .int t_states, .ref h_t_text, .int t_typed, .ref h_t_wrong, .ref h_t_cost, .ref h_t_first, .ref h_t_block, .ref h_t_many, .ref h_t_stack, .int t_height, .ref h_t_written, .int o7.1, .ref h_t_own, .ref h_t_levelAt, .ref h_t_itemAt, .ref h_t_times, .int t_at, .int t_ownLength, .int t_depth, .int t_deepest, .int t_letters, .int t_repeats, .int t_corrections, .int t_mostCorrections, .int t_place, .int t_reason])), (h_t_written, .inl (cC, 400, .inl o7.2))]) hD hS hA [1, 2] rfl
          refine va_callv (va_runV (As := [.int (44 : Int32)]) (rest := []) ⟨hx, hb, hml, hown, hts⟩ (cMD_writes l dC dI cI cJ cC cS h_t h_t_s h_t_was h_t_begun h_t_text h_t_wrong h_t_cost h_t_first h_t_block h_t_many h_t_stack h_t_written h_t_own h_t_levelAt h_t_itemAt h_t_times H.size t_states t_typed t_height o7.1 t_at t_ownLength t_depth t_deepest t_letters t_repeats t_corrections t_mostCorrections t_place t_reason o7.2 (44 : Int32) o8.1 o8.2 ho8) (cwV 1 hts gX11_ends_X11_writes rfl rfl rfl (by decide +kernel) ⟨Nat.le_of_ble_eq_true rfl, Nat.le_of_ble_eq_true rfl⟩) ⟨fun a U g mk q => by obtain ⟨q0, q1, qP, qK, qN, qD⟩ := q; exact ⟨q0, q1, qP, va_K.moved (u := U) (U := U.calling g mk a) (Vm.Alike.refl U.vm) qK, nwS (u := U) (U := U.calling g mk a) rfl qN, qD⟩, va_recv hK hPc (ci := 10) (q0 := 0) rfl rfl, fun U hU hW => ⟨rfl, by rw [hU], by rw [hU]; exact hPc, va_K.moved hW.alike hK, nwW hW hN, hDc.weaken (fun _ _ _ _ => trivial)⟩⟩ rfl rfl hl.1 rfl (lv_room (Nat.le_of_ble_eq_true rfl)) dX11_ends_61 ⟨Nat.zero_le _, Nat.zero_le _⟩) hS (fun q _ h => hFc q h) hFc (fun u9 t H1 locs ht hvm hw hB hz1 hk1 hS => ?_)
          obtain ⟨hP1, hK1, hD1⟩ := hB
          rw [ht] at hP1
          obtain ⟨hP, hD⟩ := va_join (wr := [(h_t_s, .inl (cI, 30, .inl t_s))]) (w1 := [(h_t, .inr (10, [.ref h_t_s, .ref h_t_was, .ref h_t_begun, .int t_states, .ref h_t_text, .int t_typed, .ref h_t_wrong, .ref h_t_cost, .ref h_t_first, .ref h_t_block, .ref h_t_many, .ref h_t_stack, .int t_height, .ref h_t_written, .int o8.1, .ref h_t_own, .ref h_t_levelAt, .ref h_t_itemAt, .ref h_t_times, .int t_at, .int t_ownLength, .int t_depth, .int t_deepest, .int t_letters, .int t_repeats, .int t_corrections, .int t_mostCorrections, .int t_place, .int t_reason])), (h_t_written, .inl (cC, 400, .inl o8.2))]) hP hD [1, 2] [0] rfl rfl (by decide) (by decide) hk1 hFc hP1 hD1
          generalize H1 = H at hP hS ⊢
          have hP : va_P (dC, dI) vwCl [(h_t_s, .inl (cI, 30, .inl t_s)), (h_t, .inr (10, [.ref h_t_s, .ref h_t_was, .ref h_t_begun, .int t_states, .ref h_t_text, .int t_typed, .ref h_t_wrong, .ref h_t_cost, .ref h_t_first, .ref h_t_block, .ref h_t_many, .ref h_t_stack, .int t_height, .ref h_t_written, .int o8.1, .ref h_t_own, .ref h_t_levelAt, .ref h_t_itemAt, .ref h_t_times, .int t_at, .int t_ownLength, .int t_depth, .int t_deepest, .int t_letters, .int t_repeats, .int t_corrections, .int t_mostCorrections, .int t_place, .int t_reason])), (h_t_written, .inl (cC, 400, .inl o8.2))] H := hP
          have hD : va_D A [(h_t_s, .inl (cI, 30, .inl t_s)), (h_t, .inr (10, [.ref h_t_s, .ref h_t_was, .ref h_t_begun, .int t_states, .ref h_t_text, .int t_typed, .ref h_t_wrong, .ref h_t_cost, .ref h_t_first, .ref h_t_block, .ref h_t_many, .ref h_t_stack, .int t_height, .ref h_t_written, .int o8.1, .ref h_t_own, .ref h_t_levelAt, .ref h_t_itemAt, .ref h_t_times, .int t_at, .int t_ownLength, .int t_depth, .int t_deepest, .int t_letters, .int t_repeats, .int t_corrections, .int t_mostCorrections, .int t_place, .int t_reason])), (h_t_written, .inl (cC, 400, .inl o8.2))] := hD
          refine lv_aload_n hx hb dX11_ends_64 rfl (lv_at hl 0 rfl) ?_
          refine lv_bipush (v := (97 : Int32)) hx hb dX11_ends_65 (by decide) ?_
          refine lv_aload_n hx hb dX11_ends_67 rfl (lv_at hl 0 rfl) ?_
          refine va_get (D := (dC, dI)) (ci := 10) (v := .ref h_t_s) (C := RX11) (T := TX11) (N := 29) hx hb hts iMD_ends_X11_ends_1 hown hK hP 1 rfl rfl 0 (by decide) (hts _ kMD_ends_X11_ends_0) (fun _ h9 => h9) rfl dX11_ends_68 ?_
          refine lv_bipush (v := (6 : Int32)) hx hb dX11_ends_71 (by decide) ?_
          refine lv_iload_n hx hb dX11_ends_73 rfl (lv_at hl 1 rfl) ?_
          refine lv_iadd hx hb dX11_ends_74 ?_
          refine lv_iload hx hb dX11_ends_75 (lv_at hl 4 rfl) ?_
          refine lv_iadd hx hb dX11_ends_77 ?_
          obtain ⟨c_9, hres⟩ := ck_of hres
          refine va_iald hx hb hK hP 0 0 rfl rfl c_9 dX11_ends_78 ?_
          refine lv_iadd hx hb dX11_ends_79 ?_
          obtain ⟨o10, ho10, hres⟩ := bd_of hres
          have hPc := hP.sub (ws' := [(h_t, .inr (10, [.ref h_t_s, .ref h_t_was, .ref h_t_begun, .int t_states, .ref h_t_text, .int t_typed, .ref h_t_wrong, .ref h_t_cost, .ref h_t_first, .ref h_t_block, .ref h_t_many, .ref h_t_stack, .int t_height, .ref h_t_written, .int o8.1, .ref h_t_own, .ref h_t_levelAt, .ref h_t_itemAt, .ref h_t_times, .int t_at, .int t_ownLength, .int t_depth, .int t_deepest, .int t_letters, .int t_repeats, .int t_corrections, .int t_mostCorrections, .int t_place, .int t_reason])), (h_t_written, .inl (cC, 400, .inl o8.2))]) [1, 2] rfl
          have hDc := hD.sub (ws' := [(h_t, .inr (10, [.ref h_t_s, .ref h_t_was, .ref h_t_begun, .int t_states, .ref h_t_text, .int t_typed, .ref h_t_wrong, .ref h_t_cost, .ref h_t_first, .ref h_t_block, .ref h_t_many, .ref h_t_stack, .int t_height, .ref h_t_written, .int o8.1, .ref h_t_own, .ref h_t_levelAt, .ref h_t_itemAt, .ref h_t_times, .int t_at, .int t_ownLength, .int t_depth, .int t_deepest, .int t_letters, .int t_repeats, .int t_corrections, .int t_mostCorrections, .int t_place, .int t_reason])), (h_t_written, .inl (cC, 400, .inl o8.2))]) [1, 2] (by decide) rfl
          have hFc := va_free (wc := [(h_t, .inr (10, [.ref h_t_s, .ref h_t_was, .ref h_t_begun, .int t_states, .ref h_t_text, .int t_typed, .ref h_t_wrong, .ref h_t_cost, .ref h_t_first, .ref h_t_block, .ref h_t_many, .ref h_t_stack, .int t_height, .ref h_t_written, .int o8.1, .ref h_t_own, .ref h_t_levelAt, .ref h_t_itemAt, .ref h_t_times, .int t_at, .int t_ownLength, .int t_depth, .int t_deepest, .int t_letters, .int t_repeats, .int t_corrections, .int t_mostCorrections, .int t_place, .int t_reason])), (h_t_written, .inl (cC, 400, .inl o8.2))]) hD hS hA [1, 2] rfl
          refine va_callv (va_runV (As := [.int ((97 : Int32) + (rd t_s (((6 : Int32) + x1) + x4)))]) (rest := []) ⟨hx, hb, hml, hown, hts⟩ (cMD_writes l dC dI cI cJ cC cS h_t h_t_s h_t_was h_t_begun h_t_text h_t_wrong h_t_cost h_t_first h_t_block h_t_many h_t_stack h_t_written h_t_own h_t_levelAt h_t_itemAt h_t_times H.size t_states t_typed t_height o8.1 t_at t_ownLength t_depth t_deepest t_letters t_repeats t_corrections t_mostCorrections t_place t_reason o8.2 ((97 : Int32) + (rd t_s (((6 : Int32) + x1) + x4))) o10.1 o10.2 ho10) (cwV 1 hts gX11_ends_X11_writes rfl rfl rfl (by decide +kernel) ⟨Nat.le_of_ble_eq_true rfl, Nat.le_of_ble_eq_true rfl⟩) ⟨fun a U g mk q => by obtain ⟨q0, q1, qP, qK, qN, qD⟩ := q; exact ⟨q0, q1, qP, va_K.moved (u := U) (U := U.calling g mk a) (Vm.Alike.refl U.vm) qK, nwS (u := U) (U := U.calling g mk a) rfl qN, qD⟩, va_recv hK hPc (ci := 10) (q0 := 0) rfl rfl, fun U hU hW => ⟨rfl, by rw [hU], by rw [hU]; exact hPc, va_K.moved hW.alike hK, nwW hW hN, hDc.weaken (fun _ _ _ _ => trivial)⟩⟩ rfl rfl hl.1 rfl (lv_room (Nat.le_of_ble_eq_true rfl)) dX11_ends_80 ⟨Nat.zero_le _, Nat.zero_le _⟩) hS (fun q _ h => hFc q h) hFc (fun u9 t H1 locs ht hvm hw hB hz1 hk1 hS => ?_)
          obtain ⟨hP1, hK1, hD1⟩ := hB
          rw [ht] at hP1
          obtain ⟨hP, hD⟩ := va_join (wr := [(h_t_s, .inl (cI, 30, .inl t_s))]) (w1 := [(h_t, .inr (10, [.ref h_t_s, .ref h_t_was, .ref h_t_begun, .int t_states, .ref h_t_text, .int t_typed, .ref h_t_wrong, .ref h_t_cost, .ref h_t_first, .ref h_t_block, .ref h_t_many, .ref h_t_stack, .int t_height, .ref h_t_written, .int o10.1, .ref h_t_own, .ref h_t_levelAt, .ref h_t_itemAt, .ref h_t_times, .int t_at, .int t_ownLength, .int t_depth, .int t_deepest, .int t_letters, .int t_repeats, .int t_corrections, .int t_mostCorrections, .int t_place, .int t_reason])), (h_t_written, .inl (cC, 400, .inl o10.2))]) hP hD [1, 2] [0] rfl rfl (by decide) (by decide) hk1 hFc hP1 hD1
          generalize H1 = H at hP hS ⊢
          have hP : va_P (dC, dI) vwCl [(h_t_s, .inl (cI, 30, .inl t_s)), (h_t, .inr (10, [.ref h_t_s, .ref h_t_was, .ref h_t_begun, .int t_states, .ref h_t_text, .int t_typed, .ref h_t_wrong, .ref h_t_cost, .ref h_t_first, .ref h_t_block, .ref h_t_many, .ref h_t_stack, .int t_height, .ref h_t_written, .int o10.1, .ref h_t_own, .ref h_t_levelAt, .ref h_t_itemAt, .ref h_t_times, .int t_at, .int t_ownLength, .int t_depth, .int t_deepest, .int t_letters, .int t_repeats, .int t_corrections, .int t_mostCorrections, .int t_place, .int t_reason])), (h_t_written, .inl (cC, 400, .inl o10.2))] H := hP
          have hD : va_D A [(h_t_s, .inl (cI, 30, .inl t_s)), (h_t, .inr (10, [.ref h_t_s, .ref h_t_was, .ref h_t_begun, .int t_states, .ref h_t_text, .int t_typed, .ref h_t_wrong, .ref h_t_cost, .ref h_t_first, .ref h_t_block, .ref h_t_many, .ref h_t_stack, .int t_height, .ref h_t_written, .int o10.1, .ref h_t_own, .ref h_t_levelAt, .ref h_t_itemAt, .ref h_t_times, .int t_at, .int t_ownLength, .int t_depth, .int t_deepest, .int t_letters, .int t_repeats, .int t_corrections, .int t_mostCorrections, .int t_place, .int t_reason])), (h_t_written, .inl (cC, 400, .inl o10.2))] := hD
          refine lv_aload_n hx hb dX11_ends_83 rfl (lv_at hl 0 rfl) ?_
          refine lv_bipush (v := (93 : Int32)) hx hb dX11_ends_84 (by decide) ?_
          obtain ⟨o11, ho11, hres⟩ := bd_of hres
          have hPc := hP.sub (ws' := [(h_t, .inr (10, [.ref h_t_s, .ref h_t_was, .ref h_t_begun, .int t_states, .ref h_t_text, .int t_typed, .ref h_t_wrong, .ref h_t_cost, .ref h_t_first, .ref h_t_block, .ref h_t_many, .ref h_t_stack, .int t_height, .ref h_t_written, .int o10.1, .ref h_t_own, .ref h_t_levelAt, .ref h_t_itemAt, .ref h_t_times, .int t_at, .int t_ownLength, .int t_depth, .int t_deepest, .int t_letters, .int t_repeats, .int t_corrections, .int t_mostCorrections, .int t_place, .int t_reason])), (h_t_written, .inl (cC, 400, .inl o10.2))]) [1, 2] rfl
          have hDc := hD.sub (ws' := [(h_t, .inr (10, [.ref h_t_s, .ref h_t_was, .ref h_t_begun, .int t_states, .ref h_t_text, .int t_typed, .ref h_t_wrong, .ref h_t_cost, .ref h_t_first, .ref h_t_block, .ref h_t_many, .ref h_t_stack, .int t_height, .ref h_t_written, .int o10.1, .ref h_t_own, .ref h_t_levelAt, .ref h_t_itemAt, .ref h_t_times, .int t_at, .int t_ownLength, .int t_depth, .int t_deepest, .int t_letters, .int t_repeats, .int t_corrections, .int t_mostCorrections, .int t_place, .int t_reason])), (h_t_written, .inl (cC, 400, .inl o10.2))]) [1, 2] (by decide) rfl
          have hFc := va_free (wc := [(h_t, .inr (10, [.ref h_t_s, .ref h_t_was, .ref h_t_begun, .int t_states, .ref h_t_text, .int t_typed, .ref h_t_wrong, .ref h_t_cost, .ref h_t_first, .ref h_t_block, .ref h_t_many, .ref h_t_stack, .int t_height, .ref h_t_written, .int o10.1, .ref h_t_own, .ref h_t_levelAt, .ref h_t_itemAt, .ref h_t_times, .int t_at, .int t_ownLength, .int t_depth, .int t_deepest, .int t_letters, .int t_repeats, .int t_corrections, .int t_mostCorrections, .int t_place, .int t_reason])), (h_t_written, .inl (cC, 400, .inl o10.2))]) hD hS hA [1, 2] rfl
          refine va_callv (va_runV (As := [.int (93 : Int32)]) (rest := []) ⟨hx, hb, hml, hown, hts⟩ (cMD_writes l dC dI cI cJ cC cS h_t h_t_s h_t_was h_t_begun h_t_text h_t_wrong h_t_cost h_t_first h_t_block h_t_many h_t_stack h_t_written h_t_own h_t_levelAt h_t_itemAt h_t_times H.size t_states t_typed t_height o10.1 t_at t_ownLength t_depth t_deepest t_letters t_repeats t_corrections t_mostCorrections t_place t_reason o10.2 (93 : Int32) o11.1 o11.2 ho11) (cwV 1 hts gX11_ends_X11_writes rfl rfl rfl (by decide +kernel) ⟨Nat.le_of_ble_eq_true rfl, Nat.le_of_ble_eq_true rfl⟩) ⟨fun a U g mk q => by obtain ⟨q0, q1, qP, qK, qN, qD⟩ := q; exact ⟨q0, q1, qP, va_K.moved (u := U) (U := U.calling g mk a) (Vm.Alike.refl U.vm) qK, nwS (u := U) (U := U.calling g mk a) rfl qN, qD⟩, va_recv hK hPc (ci := 10) (q0 := 0) rfl rfl, fun U hU hW => ⟨rfl, by rw [hU], by rw [hU]; exact hPc, va_K.moved hW.alike hK, nwW hW hN, hDc.weaken (fun _ _ _ _ => trivial)⟩⟩ rfl rfl hl.1 rfl (lv_room (Nat.le_of_ble_eq_true rfl)) dX11_ends_86 ⟨Nat.zero_le _, Nat.zero_le _⟩) hS (fun q _ h => hFc q h) hFc (fun u9 t H1 locs ht hvm hw hB hz1 hk1 hS => ?_)
          obtain ⟨hP1, hK1, hD1⟩ := hB
          rw [ht] at hP1
          obtain ⟨hP, hD⟩ := va_join (wr := [(h_t_s, .inl (cI, 30, .inl t_s))]) (w1 := [(h_t, .inr (10, [.ref h_t_s, .ref h_t_was, .ref h_t_begun, .int t_states, .ref h_t_text, .int t_typed, .ref h_t_wrong, .ref h_t_cost, .ref h_t_first, .ref h_t_block, .ref h_t_many, .ref h_t_stack, .int t_height, .ref h_t_written, .int o11.1, .ref h_t_own, .ref h_t_levelAt, .ref h_t_itemAt, .ref h_t_times, .int t_at, .int t_ownLength, .int t_depth, .int t_deepest, .int t_letters, .int t_repeats, .int t_corrections, .int t_mostCorrections, .int t_place, .int t_reason])), (h_t_written, .inl (cC, 400, .inl o11.2))]) hP hD [1, 2] [0] rfl rfl (by decide) (by decide) hk1 hFc hP1 hD1
          generalize H1 = H at hP hS ⊢
          have hP : va_P (dC, dI) vwCl [(h_t_s, .inl (cI, 30, .inl t_s)), (h_t, .inr (10, [.ref h_t_s, .ref h_t_was, .ref h_t_begun, .int t_states, .ref h_t_text, .int t_typed, .ref h_t_wrong, .ref h_t_cost, .ref h_t_first, .ref h_t_block, .ref h_t_many, .ref h_t_stack, .int t_height, .ref h_t_written, .int o11.1, .ref h_t_own, .ref h_t_levelAt, .ref h_t_itemAt, .ref h_t_times, .int t_at, .int t_ownLength, .int t_depth, .int t_deepest, .int t_letters, .int t_repeats, .int t_corrections, .int t_mostCorrections, .int t_place, .int t_reason])), (h_t_written, .inl (cC, 400, .inl o11.2))] H := hP
          have hD : va_D A [(h_t_s, .inl (cI, 30, .inl t_s)), (h_t, .inr (10, [.ref h_t_s, .ref h_t_was, .ref h_t_begun, .int t_states, .ref h_t_text, .int t_typed, .ref h_t_wrong, .ref h_t_cost, .ref h_t_first, .ref h_t_block, .ref h_t_many, .ref h_t_stack, .int t_height, .ref h_t_written, .int o11.1, .ref h_t_own, .ref h_t_levelAt, .ref h_t_itemAt, .ref h_t_times, .int t_at, .int t_ownLength, .int t_depth, .int t_deepest, .int t_letters, .int t_repeats, .int t_corrections, .int t_mostCorrections, .int t_place, .int t_reason])), (h_t_written, .inl (cC, 400, .inl o11.2))] := hD
          refine lv_iinc (v := (x4 + 1)) (lv' := [(4, .int (x4 + 1)), (0, .ref h_t), (1, .int x1), (2, .int x2), (3, .int x3)]) hx hb dX11_ends_89 hl (k := 4) rfl rfl (by decide) rfl (fun ls hl => ?_)
          refine lv_goto (tgt := 9) hx hb dX11_ends_92 (by decide) ?_
          exact ih9 (x4 + 1) o11.1 o11.2 H locs ls hres (hP.sub [1, 0, 2] rfl) (hD.sub [1, 0, 2] (by decide) rfl) hS (lv_sub hl [1, 2, 3, 4, 0] rfl)
  rw [fMD_ends] at hres
  refine lv_aload_n hx hb dX11_ends_0 rfl (lv_at hl 0 rfl) ?_
  refine lv_bipush (v := (41 : Int32)) hx hb dX11_ends_1 (by decide) ?_
  obtain ⟨o12, ho12, hres⟩ := bd_of hres
  have hPc := hP.sub (ws' := [(h_t, .inr (10, [.ref h_t_s, .ref h_t_was, .ref h_t_begun, .int t_states, .ref h_t_text, .int t_typed, .ref h_t_wrong, .ref h_t_cost, .ref h_t_first, .ref h_t_block, .ref h_t_many, .ref h_t_stack, .int t_height, .ref h_t_written, .int t_length, .ref h_t_own, .ref h_t_levelAt, .ref h_t_itemAt, .ref h_t_times, .int t_at, .int t_ownLength, .int t_depth, .int t_deepest, .int t_letters, .int t_repeats, .int t_corrections, .int t_mostCorrections, .int t_place, .int t_reason])), (h_t_written, .inl (cC, 400, .inl t_written))]) [0, 2] rfl
  have hDc := hD.sub (ws' := [(h_t, .inr (10, [.ref h_t_s, .ref h_t_was, .ref h_t_begun, .int t_states, .ref h_t_text, .int t_typed, .ref h_t_wrong, .ref h_t_cost, .ref h_t_first, .ref h_t_block, .ref h_t_many, .ref h_t_stack, .int t_height, .ref h_t_written, .int t_length, .ref h_t_own, .ref h_t_levelAt, .ref h_t_itemAt, .ref h_t_times, .int t_at, .int t_ownLength, .int t_depth, .int t_deepest, .int t_letters, .int t_repeats, .int t_corrections, .int t_mostCorrections, .int t_place, .int t_reason])), (h_t_written, .inl (cC, 400, .inl t_written))]) [0, 2] (by decide) rfl
  have hFc := va_free (wc := [(h_t, .inr (10, [.ref h_t_s, .ref h_t_was, .ref h_t_begun, .int t_states, .ref h_t_text, .int t_typed, .ref h_t_wrong, .ref h_t_cost, .ref h_t_first, .ref h_t_block, .ref h_t_many, .ref h_t_stack, .int t_height, .ref h_t_written, .int t_length, .ref h_t_own, .ref h_t_levelAt, .ref h_t_itemAt, .ref h_t_times, .int t_at, .int t_ownLength, .int t_depth, .int t_deepest, .int t_letters, .int t_repeats, .int t_corrections, .int t_mostCorrections, .int t_place, .int t_reason])), (h_t_written, .inl (cC, 400, .inl t_written))]) hD hS hA [0, 2] rfl
  refine va_callv (va_runV (As := [.int (41 : Int32)]) (rest := []) ⟨hx, hb, hml, hown, hts⟩ (cMD_writes l dC dI cI cJ cC cS h_t h_t_s h_t_was h_t_begun h_t_text h_t_wrong h_t_cost h_t_first h_t_block h_t_many h_t_stack h_t_written h_t_own h_t_levelAt h_t_itemAt h_t_times H.size t_states t_typed t_height t_length t_at t_ownLength t_depth t_deepest t_letters t_repeats t_corrections t_mostCorrections t_place t_reason t_written (41 : Int32) o12.1 o12.2 ho12) (cwV 1 hts gX11_ends_X11_writes rfl rfl rfl (by decide +kernel) ⟨Nat.le_of_ble_eq_true rfl, Nat.le_of_ble_eq_true rfl⟩) ⟨fun a U g mk q => by obtain ⟨q0, q1, qP, qK, qN, qD⟩ := q; exact ⟨q0, q1, qP, va_K.moved (u := U) (U := U.calling g mk a) (Vm.Alike.refl U.vm) qK, nwS (u := U) (U := U.calling g mk a) rfl qN, qD⟩, va_recv hK hPc (ci := 10) (q0 := 0) rfl rfl, fun U hU hW => ⟨rfl, by rw [hU], by rw [hU]; exact hPc, va_K.moved hW.alike hK, nwW hW hN, hDc.weaken (fun _ _ _ _ => trivial)⟩⟩ rfl rfl hl.1 rfl (lv_room (Nat.le_of_ble_eq_true rfl)) dX11_ends_3 ⟨Nat.zero_le _, Nat.zero_le _⟩) hS (fun q _ h => hFc q h) hFc (fun u9 t H1 locs ht hvm hw hB hz1 hk1 hS => ?_)
  obtain ⟨hP1, hK1, hD1⟩ := hB
  rw [ht] at hP1
  obtain ⟨hP, hD⟩ := va_join (wr := [(h_t_s, .inl (cI, 30, .inl t_s))]) (w1 := [(h_t, .inr (10, [.ref h_t_s, .ref h_t_was, .ref h_t_begun, .int t_states, .ref h_t_text, .int t_typed, .ref h_t_wrong, .ref h_t_cost, .ref h_t_first, .ref h_t_block, .ref h_t_many, .ref h_t_stack, .int t_height, .ref h_t_written, .int o12.1, .ref h_t_own, .ref h_t_levelAt, .ref h_t_itemAt, .ref h_t_times, .int t_at, .int t_ownLength, .int t_depth, .int t_deepest, .int t_letters, .int t_repeats, .int t_corrections, .int t_mostCorrections, .int t_place, .int t_reason])), (h_t_written, .inl (cC, 400, .inl o12.2))]) hP hD [0, 2] [1] rfl rfl (by decide) (by decide) hk1 hFc hP1 hD1
  generalize H1 = H at hP hS ⊢
  have hP : va_P (dC, dI) vwCl [(h_t_s, .inl (cI, 30, .inl t_s)), (h_t, .inr (10, [.ref h_t_s, .ref h_t_was, .ref h_t_begun, .int t_states, .ref h_t_text, .int t_typed, .ref h_t_wrong, .ref h_t_cost, .ref h_t_first, .ref h_t_block, .ref h_t_many, .ref h_t_stack, .int t_height, .ref h_t_written, .int o12.1, .ref h_t_own, .ref h_t_levelAt, .ref h_t_itemAt, .ref h_t_times, .int t_at, .int t_ownLength, .int t_depth, .int t_deepest, .int t_letters, .int t_repeats, .int t_corrections, .int t_mostCorrections, .int t_place, .int t_reason])), (h_t_written, .inl (cC, 400, .inl o12.2))] H := hP
  have hD : va_D A [(h_t_s, .inl (cI, 30, .inl t_s)), (h_t, .inr (10, [.ref h_t_s, .ref h_t_was, .ref h_t_begun, .int t_states, .ref h_t_text, .int t_typed, .ref h_t_wrong, .ref h_t_cost, .ref h_t_first, .ref h_t_block, .ref h_t_many, .ref h_t_stack, .int t_height, .ref h_t_written, .int o12.1, .ref h_t_own, .ref h_t_levelAt, .ref h_t_itemAt, .ref h_t_times, .int t_at, .int t_ownLength, .int t_depth, .int t_deepest, .int t_letters, .int t_repeats, .int t_corrections, .int t_mostCorrections, .int t_place, .int t_reason])), (h_t_written, .inl (cC, 400, .inl o12.2))] := hD
  refine lv_iload_n hx hb dX11_ends_6 rfl (lv_at hl 2 rfl) ?_
  refine lv_istore (lv' := [(4, .int x2), (0, .ref h_t), (1, .int x1), (2, .int x2), (3, .int x3)]) hx hb dX11_ends_7 hl (by decide) rfl (fun ls hl => ?_)
  exact hL9 FU x2 o12.1 o12.2 H locs ls hres (hP.sub [1, 0, 2] rfl) (hD.sub [1, 0, 2] (by decide) rfl) hS (lv_sub hl [1, 2, 3, 4, 0] rfl)

-- MD_puts
def fMD_puts (t_height : Int32) (t_stack : Nat → Int32) (x1 : Int32) (x2 : Int32) (x3 : Int32) (x4 : Int32) : Option (Int32 × (Nat → Int32)) :=
  if bIn ((4 : Int32) * t_height) 400 = true then
    if bIn (((4 : Int32) * t_height) + (1 : Int32)) 400 = true then
      if bIn (((4 : Int32) * t_height) + (2 : Int32)) 400 = true then
        if bIn (((4 : Int32) * t_height) + (3 : Int32)) 400 = true then
          some ((t_height + (1 : Int32)), (wr (wr (wr (wr t_stack ((4 : Int32) * t_height) x1) (((4 : Int32) * t_height) + (1 : Int32)) x2) (((4 : Int32) * t_height) + (2 : Int32)) x3) (((4 : Int32) * t_height) + (3 : Int32)) x4))
        else none
      else none
    else none
  else none
theorem kMD_puts_X11_puts_0 : Cond.fieldLink RX11 39 "RepeatNestsModel" "stack" "[I" ∈ wsX11_puts := by decide +kernel
theorem iMD_puts_X11_puts_1 : ∀ w ∈ wsX110, w ∈ wsX11_puts := by decide +kernel
theorem kMD_puts_X11_puts_2 : Cond.fieldLink RX11 112 "RepeatNestsModel" "height" "I" ∈ wsX11_puts := by decide +kernel
set_option maxHeartbeats 4000000 in
set_option maxRecDepth 100000 in
theorem cMD_puts (l : Launch) (dC : Nat → ClassId) (dI : Nat → Nat → Nat) (cI cJ cC cS : ClassId) (h_t h_t_s h_t_was h_t_begun h_t_text h_t_wrong h_t_cost h_t_first h_t_block h_t_many h_t_stack h_t_written h_t_own h_t_levelAt h_t_itemAt h_t_times : Nat) (sz : Nat) (t_states : Int32) (t_typed : Int32) (t_height : Int32) (t_length : Int32) (t_at : Int32) (t_ownLength : Int32) (t_depth : Int32) (t_deepest : Int32) (t_letters : Int32) (t_repeats : Int32) (t_corrections : Int32) (t_mostCorrections : Int32) (t_place : Int32) (t_reason : Int32) (t_stack : Nat → Int32) (x1 : Int32) (x2 : Int32) (x3 : Int32) (x4 : Int32) (y_t_height : Int32) (y_t_stack : Nat → Int32) (hres : fMD_puts t_height t_stack x1 x2 x3 x4 = some (y_t_height, y_t_stack)) :
    Met l yX11_puts wsX11_puts ({ frames := 0, cells := 0, slots := 0, locals := 0 } : Room) (va_Pc [.ref h_t, .int x1, .int x2, .int x3, .int x4] (fun (U : State) => U.heap.size = sz ∧ va_P (dC, dI) vwCl [(h_t, .inr (10, [.ref h_t_s, .ref h_t_was, .ref h_t_begun, .int t_states, .ref h_t_text, .int t_typed, .ref h_t_wrong, .ref h_t_cost, .ref h_t_first, .ref h_t_block, .ref h_t_many, .ref h_t_stack, .int t_height, .ref h_t_written, .int t_length, .ref h_t_own, .ref h_t_levelAt, .ref h_t_itemAt, .ref h_t_times, .int t_at, .int t_ownLength, .int t_depth, .int t_deepest, .int t_letters, .int t_repeats, .int t_corrections, .int t_mostCorrections, .int t_place, .int t_reason])), (h_t_stack, .inl (cI, 400, .inl t_stack))] U.heap ∧ va_K (dC, dI) vwCl (tyA cI cJ cC cS) U ∧ nwN U ∧ va_D (fun _ => True) [(h_t, .inr (10, [.ref h_t_s, .ref h_t_was, .ref h_t_begun, .int t_states, .ref h_t_text, .int t_typed, .ref h_t_wrong, .ref h_t_cost, .ref h_t_first, .ref h_t_block, .ref h_t_many, .ref h_t_stack, .int t_height, .ref h_t_written, .int t_length, .ref h_t_own, .ref h_t_levelAt, .ref h_t_itemAt, .ref h_t_times, .int t_at, .int t_ownLength, .int t_depth, .int t_deepest, .int t_letters, .int t_repeats, .int t_corrections, .int t_mostCorrections, .int t_place, .int t_reason])), (h_t_stack, .inl (cI, 400, .inl t_stack))])) (va_Qv (fun (_ : Unit) => True) (fun (_ : Unit) (t : State) => va_P (dC, dI) vwCl [(h_t, .inr (10, [.ref h_t_s, .ref h_t_was, .ref h_t_begun, .int t_states, .ref h_t_text, .int t_typed, .ref h_t_wrong, .ref h_t_cost, .ref h_t_first, .ref h_t_block, .ref h_t_many, .ref h_t_stack, .int y_t_height, .ref h_t_written, .int t_length, .ref h_t_own, .ref h_t_levelAt, .ref h_t_itemAt, .ref h_t_times, .int t_at, .int t_ownLength, .int t_depth, .int t_deepest, .int t_letters, .int t_repeats, .int t_corrections, .int t_mostCorrections, .int t_place, .int t_reason])), (h_t_stack, .inl (cI, 400, .inl y_t_stack))] t.heap ∧ va_K (dC, dI) vwCl (tyA cI cJ cC cS) t ∧ va_D (va_A [(h_t, .inr (10, [.ref h_t_s, .ref h_t_was, .ref h_t_begun, .int t_states, .ref h_t_text, .int t_typed, .ref h_t_wrong, .ref h_t_cost, .ref h_t_first, .ref h_t_block, .ref h_t_many, .ref h_t_stack, .int t_height, .ref h_t_written, .int t_length, .ref h_t_own, .ref h_t_levelAt, .ref h_t_itemAt, .ref h_t_times, .int t_at, .int t_ownLength, .int t_depth, .int t_deepest, .int t_letters, .int t_repeats, .int t_corrections, .int t_mostCorrections, .int t_place, .int t_reason])), (h_t_stack, .inl (cI, 400, .inl t_stack))] sz) [(h_t, .inr (10, [.ref h_t_s, .ref h_t_was, .ref h_t_begun, .int t_states, .ref h_t_text, .int t_typed, .ref h_t_wrong, .ref h_t_cost, .ref h_t_first, .ref h_t_block, .ref h_t_many, .ref h_t_stack, .int y_t_height, .ref h_t_written, .int t_length, .ref h_t_own, .ref h_t_levelAt, .ref h_t_itemAt, .ref h_t_times, .int t_at, .int t_ownLength, .int t_depth, .int t_deepest, .int t_letters, .int t_repeats, .int t_corrections, .int t_mostCorrections, .int t_place, .int t_reason])), (h_t_stack, .inl (cI, 400, .inl y_t_stack))]) (va_A [(h_t, .inr (10, [.ref h_t_s, .ref h_t_was, .ref h_t_begun, .int t_states, .ref h_t_text, .int t_typed, .ref h_t_wrong, .ref h_t_cost, .ref h_t_first, .ref h_t_block, .ref h_t_many, .ref h_t_stack, .int t_height, .ref h_t_written, .int t_length, .ref h_t_own, .ref h_t_levelAt, .ref h_t_itemAt, .ref h_t_times, .int t_at, .int t_ownLength, .int t_depth, .int t_deepest, .int t_letters, .int t_repeats, .int t_corrections, .int t_mostCorrections, .int t_place, .int t_reason])), (h_t_stack, .inl (cI, 400, .inl t_stack))] sz)) 0 0 (va_A [(h_t, .inr (10, [.ref h_t_s, .ref h_t_was, .ref h_t_begun, .int t_states, .ref h_t_text, .int t_typed, .ref h_t_wrong, .ref h_t_cost, .ref h_t_first, .ref h_t_block, .ref h_t_many, .ref h_t_stack, .int t_height, .ref h_t_written, .int t_length, .ref h_t_own, .ref h_t_levelAt, .ref h_t_itemAt, .ref h_t_times, .int t_at, .int t_ownLength, .int t_depth, .int t_deepest, .int t_letters, .int t_repeats, .int t_corrections, .int t_mostCorrections, .int t_place, .int t_reason])), (h_t_stack, .inl (cI, 400, .inl t_stack))] sz) := by
  refine Met.ofW (cc := cX11_puts) (maxL := 5) (ret := none) (by decide) rfl ?_
  intro p e s m args below meth c s₁ B hml hv
  obtain ⟨hargs, hsz, hP, hK, hN, hD0⟩ := hv
  have hx := B.exec
  have hb := B.bytes
  have hr := B.returns
  have hts := atoms_spec (ws := wsX11_puts) B.pre
  have hown : s.vm.findClass RX11 = some m.cls := findClass_of_methodNamed B.named
  have hlocks := B.notSynchronized
  subst hsz
  have hD := hD0.self (sz := s.heap.size)
  generalize hAe : va_A [(h_t, .inr (10, [.ref h_t_s, .ref h_t_was, .ref h_t_begun, .int t_states, .ref h_t_text, .int t_typed, .ref h_t_wrong, .ref h_t_cost, .ref h_t_first, .ref h_t_block, .ref h_t_many, .ref h_t_stack, .int t_height, .ref h_t_written, .int t_length, .ref h_t_own, .ref h_t_levelAt, .ref h_t_itemAt, .ref h_t_times, .int t_at, .int t_ownLength, .int t_depth, .int t_deepest, .int t_letters, .int t_repeats, .int t_corrections, .int t_mostCorrections, .int t_place, .int t_reason])), (h_t_stack, .inl (cI, 400, .inl t_stack))] s.heap.size = A at hD ⊢
  have hA : ∀ q : Nat, s.heap.size ≤ q → A q := fun q h => by rw [← hAe]; exact Or.inr h
  have hS : va_S A s.heap s.heap [] := va_S.rf
  have hP : va_P (dC, dI) vwCl [(h_t, .inr (10, [.ref h_t_s, .ref h_t_was, .ref h_t_begun, .int t_states, .ref h_t_text, .int t_typed, .ref h_t_wrong, .ref h_t_cost, .ref h_t_first, .ref h_t_block, .ref h_t_many, .ref h_t_stack, .int t_height, .ref h_t_written, .int t_length, .ref h_t_own, .ref h_t_levelAt, .ref h_t_itemAt, .ref h_t_times, .int t_at, .int t_ownLength, .int t_depth, .int t_deepest, .int t_letters, .int t_repeats, .int t_corrections, .int t_mostCorrections, .int t_place, .int t_reason])), (h_t_stack, .inl (cI, 400, .inl t_stack))] s.heap := hP
  have hl := lv_entry [.ref h_t, .int x1, .int x2, .int x3, .int x4] (n := 5) (Nat.le_of_ble_eq_true rfl)
  rw [show entryFrame m args 5 = entryFrame m ([.ref h_t, .int x1, .int x2, .int x3, .int x4] : List Value).toArray 5 from by rw [hargs], lg_entry_eq]
  generalize (lg_sl [.ref h_t, .int x1, .int x2, .int x3, .int x4] ++ List.replicate (5 - (lg_sl [.ref h_t, .int x1, .int x2, .int x3, .int x4]).length) Slot.unset).toArray = ls at hl ⊢
  have hl : lv_has ls 5 [(0, .ref h_t), (1, .int x1), (2, .int x2), (3, .int x3), (4, .int x4)] := hl
  generalize hQQ : MQ below (va_Qv (fun (_ : Unit) => True) (fun (_ : Unit) (t : State) => va_P (dC, dI) vwCl [(h_t, .inr (10, [.ref h_t_s, .ref h_t_was, .ref h_t_begun, .int t_states, .ref h_t_text, .int t_typed, .ref h_t_wrong, .ref h_t_cost, .ref h_t_first, .ref h_t_block, .ref h_t_many, .ref h_t_stack, .int y_t_height, .ref h_t_written, .int t_length, .ref h_t_own, .ref h_t_levelAt, .ref h_t_itemAt, .ref h_t_times, .int t_at, .int t_ownLength, .int t_depth, .int t_deepest, .int t_letters, .int t_repeats, .int t_corrections, .int t_mostCorrections, .int t_place, .int t_reason])), (h_t_stack, .inl (cI, 400, .inl y_t_stack))] t.heap ∧ va_K (dC, dI) vwCl (tyA cI cJ cC cS) t ∧ va_D A [(h_t, .inr (10, [.ref h_t_s, .ref h_t_was, .ref h_t_begun, .int t_states, .ref h_t_text, .int t_typed, .ref h_t_wrong, .ref h_t_cost, .ref h_t_first, .ref h_t_block, .ref h_t_many, .ref h_t_stack, .int y_t_height, .ref h_t_written, .int t_length, .ref h_t_own, .ref h_t_levelAt, .ref h_t_itemAt, .ref h_t_times, .int t_at, .int t_ownLength, .int t_depth, .int t_deepest, .int t_letters, .int t_repeats, .int t_corrections, .int t_mostCorrections, .int t_place, .int t_reason])), (h_t_stack, .inl (cI, 400, .inl y_t_stack))]) A) args s 0 0 A = QQ
  obtain ⟨H, hH⟩ : ∃ H : Heap, H = s.heap := ⟨_, rfl⟩
  obtain ⟨locs, hlocs⟩ : ∃ locs : List Loc, locs = [] := ⟨_, rfl⟩
  rw [← hH] at hP
  have hS : va_S A s.heap H locs := by rw [hH, hlocs]; exact hS
  suffices hZ : W p l e (headSpec wsX11_puts ({ frames := 0, cells := 0, slots := 0, locals := 0 } : Room)).room s m args below meth c H locs 0 0 QQ (F0 m 0 ls []) by rw [hH, hlocs] at hZ; exact hZ
  clear hH hlocs
  rw [fMD_puts] at hres
  refine lv_aload_n hx hb dX11_puts_0 rfl (lv_at hl 0 rfl) ?_
  refine va_get (D := (dC, dI)) (ci := 10) (v := .ref h_t_stack) (C := RX11) (T := TX11) (N := 29) hx hb hts iMD_puts_X11_puts_1 hown hK hP 0 rfl rfl 11 (by decide) (hts _ kMD_puts_X11_puts_0) (fun _ h9 => h9) rfl dX11_puts_1 ?_
  refine lv_iconst (v := (4 : Int32)) hx hb dX11_puts_4 (by decide) ?_
  refine lv_aload_n hx hb dX11_puts_5 rfl (lv_at hl 0 rfl) ?_
  refine va_get (D := (dC, dI)) (ci := 10) (v := .int t_height) (C := RX11) (T := TX11) (N := 29) hx hb hts iMD_puts_X11_puts_1 hown hK hP 0 rfl rfl 12 (by decide) (hts _ kMD_puts_X11_puts_2) (fun _ h9 => h9) rfl dX11_puts_6 ?_
  refine lv_imul hx hb dX11_puts_9 ?_
  refine lv_iload_n hx hb dX11_puts_10 rfl (lv_at hl 1 rfl) ?_
  obtain ⟨c_1, hres⟩ := ck_of hres
  refine va_iast hx hb hK hP hD hS 1 0 rfl rfl c_1 dX11_puts_11 (fun H locs hP hD hS => ?_)
  have hP : va_P (dC, dI) vwCl [(h_t, .inr (10, [.ref h_t_s, .ref h_t_was, .ref h_t_begun, .int t_states, .ref h_t_text, .int t_typed, .ref h_t_wrong, .ref h_t_cost, .ref h_t_first, .ref h_t_block, .ref h_t_many, .ref h_t_stack, .int t_height, .ref h_t_written, .int t_length, .ref h_t_own, .ref h_t_levelAt, .ref h_t_itemAt, .ref h_t_times, .int t_at, .int t_ownLength, .int t_depth, .int t_deepest, .int t_letters, .int t_repeats, .int t_corrections, .int t_mostCorrections, .int t_place, .int t_reason])), (h_t_stack, .inl (cI, 400, .inl (wr t_stack ((4 : Int32) * t_height) x1)))] H := hP
  have hD : va_D A [(h_t, .inr (10, [.ref h_t_s, .ref h_t_was, .ref h_t_begun, .int t_states, .ref h_t_text, .int t_typed, .ref h_t_wrong, .ref h_t_cost, .ref h_t_first, .ref h_t_block, .ref h_t_many, .ref h_t_stack, .int t_height, .ref h_t_written, .int t_length, .ref h_t_own, .ref h_t_levelAt, .ref h_t_itemAt, .ref h_t_times, .int t_at, .int t_ownLength, .int t_depth, .int t_deepest, .int t_letters, .int t_repeats, .int t_corrections, .int t_mostCorrections, .int t_place, .int t_reason])), (h_t_stack, .inl (cI, 400, .inl (wr t_stack ((4 : Int32) * t_height) x1)))] := hD
  refine lv_aload_n hx hb dX11_puts_12 rfl (lv_at hl 0 rfl) ?_
  refine va_get (D := (dC, dI)) (ci := 10) (v := .ref h_t_stack) (C := RX11) (T := TX11) (N := 29) hx hb hts iMD_puts_X11_puts_1 hown hK hP 0 rfl rfl 11 (by decide) (hts _ kMD_puts_X11_puts_0) (fun _ h9 => h9) rfl dX11_puts_13 ?_
  refine lv_iconst (v := (4 : Int32)) hx hb dX11_puts_16 (by decide) ?_
  refine lv_aload_n hx hb dX11_puts_17 rfl (lv_at hl 0 rfl) ?_
  refine va_get (D := (dC, dI)) (ci := 10) (v := .int t_height) (C := RX11) (T := TX11) (N := 29) hx hb hts iMD_puts_X11_puts_1 hown hK hP 0 rfl rfl 12 (by decide) (hts _ kMD_puts_X11_puts_2) (fun _ h9 => h9) rfl dX11_puts_18 ?_
  refine lv_imul hx hb dX11_puts_21 ?_
  refine lv_iconst (v := (1 : Int32)) hx hb dX11_puts_22 (by decide) ?_
  refine lv_iadd hx hb dX11_puts_23 ?_
  refine lv_iload_n hx hb dX11_puts_24 rfl (lv_at hl 2 rfl) ?_
  obtain ⟨c_2, hres⟩ := ck_of hres
  refine va_iast hx hb hK hP hD hS 1 0 rfl rfl c_2 dX11_puts_25 (fun H locs hP hD hS => ?_)
  have hP : va_P (dC, dI) vwCl [(h_t, .inr (10, [.ref h_t_s, .ref h_t_was, .ref h_t_begun, .int t_states, .ref h_t_text, .int t_typed, .ref h_t_wrong, .ref h_t_cost, .ref h_t_first, .ref h_t_block, .ref h_t_many, .ref h_t_stack, .int t_height, .ref h_t_written, .int t_length, .ref h_t_own, .ref h_t_levelAt, .ref h_t_itemAt, .ref h_t_times, .int t_at, .int t_ownLength, .int t_depth, .int t_deepest, .int t_letters, .int t_repeats, .int t_corrections, .int t_mostCorrections, .int t_place, .int t_reason])), (h_t_stack, .inl (cI, 400, .inl (wr (wr t_stack ((4 : Int32) * t_height) x1) (((4 : Int32) * t_height) + (1 : Int32)) x2)))] H := hP
  have hD : va_D A [(h_t, .inr (10, [.ref h_t_s, .ref h_t_was, .ref h_t_begun, .int t_states, .ref h_t_text, .int t_typed, .ref h_t_wrong, .ref h_t_cost, .ref h_t_first, .ref h_t_block, .ref h_t_many, .ref h_t_stack, .int t_height, .ref h_t_written, .int t_length, .ref h_t_own, .ref h_t_levelAt, .ref h_t_itemAt, .ref h_t_times, .int t_at, .int t_ownLength, .int t_depth, .int t_deepest, .int t_letters, .int t_repeats, .int t_corrections, .int t_mostCorrections, .int t_place, .int t_reason])), (h_t_stack, .inl (cI, 400, .inl (wr (wr t_stack ((4 : Int32) * t_height) x1) (((4 : Int32) * t_height) + (1 : Int32)) x2)))] := hD
  refine lv_aload_n hx hb dX11_puts_26 rfl (lv_at hl 0 rfl) ?_
  refine va_get (D := (dC, dI)) (ci := 10) (v := .ref h_t_stack) (C := RX11) (T := TX11) (N := 29) hx hb hts iMD_puts_X11_puts_1 hown hK hP 0 rfl rfl 11 (by decide) (hts _ kMD_puts_X11_puts_0) (fun _ h9 => h9) rfl dX11_puts_27 ?_
  refine lv_iconst (v := (4 : Int32)) hx hb dX11_puts_30 (by decide) ?_
  refine lv_aload_n hx hb dX11_puts_31 rfl (lv_at hl 0 rfl) ?_
  refine va_get (D := (dC, dI)) (ci := 10) (v := .int t_height) (C := RX11) (T := TX11) (N := 29) hx hb hts iMD_puts_X11_puts_1 hown hK hP 0 rfl rfl 12 (by decide) (hts _ kMD_puts_X11_puts_2) (fun _ h9 => h9) rfl dX11_puts_32 ?_
  refine lv_imul hx hb dX11_puts_35 ?_
  refine lv_iconst (v := (2 : Int32)) hx hb dX11_puts_36 (by decide) ?_
  refine lv_iadd hx hb dX11_puts_37 ?_
  refine lv_iload_n hx hb dX11_puts_38 rfl (lv_at hl 3 rfl) ?_
  obtain ⟨c_3, hres⟩ := ck_of hres
  refine va_iast hx hb hK hP hD hS 1 0 rfl rfl c_3 dX11_puts_39 (fun H locs hP hD hS => ?_)
  have hP : va_P (dC, dI) vwCl [(h_t, .inr (10, [.ref h_t_s, .ref h_t_was, .ref h_t_begun, .int t_states, .ref h_t_text, .int t_typed, .ref h_t_wrong, .ref h_t_cost, .ref h_t_first, .ref h_t_block, .ref h_t_many, .ref h_t_stack, .int t_height, .ref h_t_written, .int t_length, .ref h_t_own, .ref h_t_levelAt, .ref h_t_itemAt, .ref h_t_times, .int t_at, .int t_ownLength, .int t_depth, .int t_deepest, .int t_letters, .int t_repeats, .int t_corrections, .int t_mostCorrections, .int t_place, .int t_reason])), (h_t_stack, .inl (cI, 400, .inl (wr (wr (wr t_stack ((4 : Int32) * t_height) x1) (((4 : Int32) * t_height) + (1 : Int32)) x2) (((4 : Int32) * t_height) + (2 : Int32)) x3)))] H := hP
  have hD : va_D A [(h_t, .inr (10, [.ref h_t_s, .ref h_t_was, .ref h_t_begun, .int t_states, .ref h_t_text, .int t_typed, .ref h_t_wrong, .ref h_t_cost, .ref h_t_first, .ref h_t_block, .ref h_t_many, .ref h_t_stack, .int t_height, .ref h_t_written, .int t_length, .ref h_t_own, .ref h_t_levelAt, .ref h_t_itemAt, .ref h_t_times, .int t_at, .int t_ownLength, .int t_depth, .int t_deepest, .int t_letters, .int t_repeats, .int t_corrections, .int t_mostCorrections, .int t_place, .int t_reason])), (h_t_stack, .inl (cI, 400, .inl (wr (wr (wr t_stack ((4 : Int32) * t_height) x1) (((4 : Int32) * t_height) + (1 : Int32)) x2) (((4 : Int32) * t_height) + (2 : Int32)) x3)))] := hD
  refine lv_aload_n hx hb dX11_puts_40 rfl (lv_at hl 0 rfl) ?_
  refine va_get (D := (dC, dI)) (ci := 10) (v := .ref h_t_stack) (C := RX11) (T := TX11) (N := 29) hx hb hts iMD_puts_X11_puts_1 hown hK hP 0 rfl rfl 11 (by decide) (hts _ kMD_puts_X11_puts_0) (fun _ h9 => h9) rfl dX11_puts_41 ?_
  refine lv_iconst (v := (4 : Int32)) hx hb dX11_puts_44 (by decide) ?_
  refine lv_aload_n hx hb dX11_puts_45 rfl (lv_at hl 0 rfl) ?_
  refine va_get (D := (dC, dI)) (ci := 10) (v := .int t_height) (C := RX11) (T := TX11) (N := 29) hx hb hts iMD_puts_X11_puts_1 hown hK hP 0 rfl rfl 12 (by decide) (hts _ kMD_puts_X11_puts_2) (fun _ h9 => h9) rfl dX11_puts_46 ?_
  refine lv_imul hx hb dX11_puts_49 ?_
  refine lv_iconst (v := (3 : Int32)) hx hb dX11_puts_50 (by decide) ?_
  refine lv_iadd hx hb dX11_puts_51 ?_
  refine lv_iload hx hb dX11_puts_52 (lv_at hl 4 rfl) ?_
  obtain ⟨c_4, hres⟩ := ck_of hres
  refine va_iast hx hb hK hP hD hS 1 0 rfl rfl c_4 dX11_puts_54 (fun H locs hP hD hS => ?_)
  have hP : va_P (dC, dI) vwCl [(h_t, .inr (10, [.ref h_t_s, .ref h_t_was, .ref h_t_begun, .int t_states, .ref h_t_text, .int t_typed, .ref h_t_wrong, .ref h_t_cost, .ref h_t_first, .ref h_t_block, .ref h_t_many, .ref h_t_stack, .int t_height, .ref h_t_written, .int t_length, .ref h_t_own, .ref h_t_levelAt, .ref h_t_itemAt, .ref h_t_times, .int t_at, .int t_ownLength, .int t_depth, .int t_deepest, .int t_letters, .int t_repeats, .int t_corrections, .int t_mostCorrections, .int t_place, .int t_reason])), (h_t_stack, .inl (cI, 400, .inl (wr (wr (wr (wr t_stack ((4 : Int32) * t_height) x1) (((4 : Int32) * t_height) + (1 : Int32)) x2) (((4 : Int32) * t_height) + (2 : Int32)) x3) (((4 : Int32) * t_height) + (3 : Int32)) x4)))] H := hP
  have hD : va_D A [(h_t, .inr (10, [.ref h_t_s, .ref h_t_was, .ref h_t_begun, .int t_states, .ref h_t_text, .int t_typed, .ref h_t_wrong, .ref h_t_cost, .ref h_t_first, .ref h_t_block, .ref h_t_many, .ref h_t_stack, .int t_height, .ref h_t_written, .int t_length, .ref h_t_own, .ref h_t_levelAt, .ref h_t_itemAt, .ref h_t_times, .int t_at, .int t_ownLength, .int t_depth, .int t_deepest, .int t_letters, .int t_repeats, .int t_corrections, .int t_mostCorrections, .int t_place, .int t_reason])), (h_t_stack, .inl (cI, 400, .inl (wr (wr (wr (wr t_stack ((4 : Int32) * t_height) x1) (((4 : Int32) * t_height) + (1 : Int32)) x2) (((4 : Int32) * t_height) + (2 : Int32)) x3) (((4 : Int32) * t_height) + (3 : Int32)) x4)))] := hD
  refine lv_aload_n hx hb dX11_puts_55 rfl (lv_at hl 0 rfl) ?_
  refine lv_dup hx hb dX11_puts_56 rfl ?_
  refine va_get (D := (dC, dI)) (ci := 10) (v := .int t_height) (C := RX11) (T := TX11) (N := 29) hx hb hts iMD_puts_X11_puts_1 hown hK hP 0 rfl rfl 12 (by decide) (hts _ kMD_puts_X11_puts_2) (fun _ h9 => h9) rfl dX11_puts_57 ?_
  refine lv_iconst (v := (1 : Int32)) hx hb dX11_puts_60 (by decide) ?_
  refine lv_iadd hx hb dX11_puts_61 ?_
  refine va_put (D := (dC, dI)) (ci := 10) (v := .int (t_height + (1 : Int32))) (ty := .int) (C := RX11) (T := TX11) (N := 29) hx hb hts iMD_puts_X11_puts_1 tyX11 tyX11_ok nmX11 hown hK hP hD hS 0 rfl rfl 12 (by decide) (hts _ kMD_puts_X11_puts_2) (fun _ h9 => h9) rfl (by decide +kernel) rfl rfl (Nat.le_of_ble_eq_true rfl) dX11_puts_62 (fun H locs hP hD hS => ?_)
  have hP : va_P (dC, dI) vwCl [(h_t, .inr (10, [.ref h_t_s, .ref h_t_was, .ref h_t_begun, .int t_states, .ref h_t_text, .int t_typed, .ref h_t_wrong, .ref h_t_cost, .ref h_t_first, .ref h_t_block, .ref h_t_many, .ref h_t_stack, .int (t_height + (1 : Int32)), .ref h_t_written, .int t_length, .ref h_t_own, .ref h_t_levelAt, .ref h_t_itemAt, .ref h_t_times, .int t_at, .int t_ownLength, .int t_depth, .int t_deepest, .int t_letters, .int t_repeats, .int t_corrections, .int t_mostCorrections, .int t_place, .int t_reason])), (h_t_stack, .inl (cI, 400, .inl (wr (wr (wr (wr t_stack ((4 : Int32) * t_height) x1) (((4 : Int32) * t_height) + (1 : Int32)) x2) (((4 : Int32) * t_height) + (2 : Int32)) x3) (((4 : Int32) * t_height) + (3 : Int32)) x4)))] H := hP
  have hD : va_D A [(h_t, .inr (10, [.ref h_t_s, .ref h_t_was, .ref h_t_begun, .int t_states, .ref h_t_text, .int t_typed, .ref h_t_wrong, .ref h_t_cost, .ref h_t_first, .ref h_t_block, .ref h_t_many, .ref h_t_stack, .int (t_height + (1 : Int32)), .ref h_t_written, .int t_length, .ref h_t_own, .ref h_t_levelAt, .ref h_t_itemAt, .ref h_t_times, .int t_at, .int t_ownLength, .int t_depth, .int t_deepest, .int t_letters, .int t_repeats, .int t_corrections, .int t_mostCorrections, .int t_place, .int t_reason])), (h_t_stack, .inl (cI, 400, .inl (wr (wr (wr (wr t_stack ((4 : Int32) * t_height) x1) (((4 : Int32) * t_height) + (1 : Int32)) x2) (((4 : Int32) * t_height) + (2 : Int32)) x3) (((4 : Int32) * t_height) + (3 : Int32)) x4)))] := hD
  obtain ⟨e9_0, e9_1⟩ := tup2 hres
  subst e9_0
  subst e9_1
  rw [← hQQ]
  exact W.vret hx hb hr (fun t ht hW => ⟨⟨(), rfl, trivial, by rw [ht]; exact hP, va_K.moved hW.alike hK, hD⟩, hS.F ht⟩) hS.2.2 dX11_puts_65

-- MD_opens
def fMD_opens (t_block : Nat → Int32) (t_first : Nat → Int32) (t_s : Nat → Int32) (t_height : Int32) (t_length : Int32) (t_stack : Nat → Int32) (t_written : Nat → Int32) (x1 : Int32) (x2 : Int32) (x3 : Int32) : Option (Int32 × Int32 × (Nat → Int32) × (Nat → Int32)) :=
  (fMD_part x3 x1 x2).bind fun o1 =>
    if bIn o1 3125 = true then
      (fMD_puts t_height t_stack (0 : Int32) (x1 + (rd t_first o1)) x2 x3).bind fun o3 =>
        if (rd t_first o1) = (1 : Int32) then
          if bIn ((6 : Int32) + x1) 30 = true then
            (fMD_writes t_length t_written ((97 : Int32) + (rd t_s ((6 : Int32) + x1)))).bind fun o14 =>
              some (o3.1, o14.1, o3.2, o14.2)
          else none
        else
          (fMD_part x3 x1 x2).bind fun o5 =>
            if bIn o5 3125 = true then
              if (rd t_block o5) = 0 then none else
                (fMD_number t_length t_written ((rd t_first o1) / (rd t_block o5))).bind fun o8 =>
                  (fMD_writes o8.1 o8.2 (40 : Int32)).bind fun o9 =>
                    if (rd t_block o5) = 0 then none else
                      (fMD_puts o3.1 o3.2 (1 : Int32) x1 (rd t_block o5) ((rd t_first o1) / (rd t_block o5))).bind fun o11 =>
                        (fMD_puts o11.1 o11.2 (0 : Int32) x1 (x1 + (rd t_block o5)) (x3 - (1 : Int32))).bind fun o12 =>
                          some (o12.1, o9.1, o12.2, o9.2)
            else none
    else none
theorem kMD_opens_X11_opens_0 : Cond.fieldLink RX11 29 "RepeatNestsModel" "first" "[I" ∈ wsX11_opens := by decide +kernel
theorem iMD_opens_X11_opens_1 : ∀ w ∈ wsX110, w ∈ wsX11_opens := by decide +kernel
theorem kMD_opens_X11_opens_2 : Cond.fieldLink RX11 32 "RepeatNestsModel" "block" "[I" ∈ wsX11_opens := by decide +kernel
theorem kMD_opens_X11_opens_3 : Cond.fieldLink RX11 7 "RepeatNestsModel" "s" "[I" ∈ wsX11_opens := by decide +kernel
set_option maxHeartbeats 4000000 in
set_option maxRecDepth 100000 in
theorem cMD_opens (l : Launch) (dC : Nat → ClassId) (dI : Nat → Nat → Nat) (cI cJ cC cS : ClassId) (h_t h_t_s h_t_was h_t_begun h_t_text h_t_wrong h_t_cost h_t_first h_t_block h_t_many h_t_stack h_t_written h_t_own h_t_levelAt h_t_itemAt h_t_times : Nat) (sz : Nat) (t_states : Int32) (t_typed : Int32) (t_height : Int32) (t_length : Int32) (t_at : Int32) (t_ownLength : Int32) (t_depth : Int32) (t_deepest : Int32) (t_letters : Int32) (t_repeats : Int32) (t_corrections : Int32) (t_mostCorrections : Int32) (t_place : Int32) (t_reason : Int32) (t_block : Nat → Int32) (t_first : Nat → Int32) (t_s : Nat → Int32) (t_stack : Nat → Int32) (t_written : Nat → Int32) (x1 : Int32) (x2 : Int32) (x3 : Int32) (y_t_height : Int32) (y_t_length : Int32) (y_t_stack : Nat → Int32) (y_t_written : Nat → Int32) (hres : fMD_opens t_block t_first t_s t_height t_length t_stack t_written x1 x2 x3 = some (y_t_height, y_t_length, y_t_stack, y_t_written)) :
    Met l yX11_opens wsX11_opens ({ frames := 2, cells := 0, slots := 0, locals := 42 } : Room) (va_Pc [.ref h_t, .int x1, .int x2, .int x3] (fun (U : State) => U.heap.size = sz ∧ va_P (dC, dI) vwCl [(h_t, .inr (10, [.ref h_t_s, .ref h_t_was, .ref h_t_begun, .int t_states, .ref h_t_text, .int t_typed, .ref h_t_wrong, .ref h_t_cost, .ref h_t_first, .ref h_t_block, .ref h_t_many, .ref h_t_stack, .int t_height, .ref h_t_written, .int t_length, .ref h_t_own, .ref h_t_levelAt, .ref h_t_itemAt, .ref h_t_times, .int t_at, .int t_ownLength, .int t_depth, .int t_deepest, .int t_letters, .int t_repeats, .int t_corrections, .int t_mostCorrections, .int t_place, .int t_reason])), (h_t_block, .inl (cI, 3125, .inl t_block)), (h_t_first, .inl (cI, 3125, .inl t_first)), (h_t_s, .inl (cI, 30, .inl t_s)), (h_t_stack, .inl (cI, 400, .inl t_stack)), (h_t_written, .inl (cC, 400, .inl t_written))] U.heap ∧ va_K (dC, dI) vwCl (tyA cI cJ cC cS) U ∧ nwN U ∧ va_D (fun _ => True) [(h_t, .inr (10, [.ref h_t_s, .ref h_t_was, .ref h_t_begun, .int t_states, .ref h_t_text, .int t_typed, .ref h_t_wrong, .ref h_t_cost, .ref h_t_first, .ref h_t_block, .ref h_t_many, .ref h_t_stack, .int t_height, .ref h_t_written, .int t_length, .ref h_t_own, .ref h_t_levelAt, .ref h_t_itemAt, .ref h_t_times, .int t_at, .int t_ownLength, .int t_depth, .int t_deepest, .int t_letters, .int t_repeats, .int t_corrections, .int t_mostCorrections, .int t_place, .int t_reason])), (h_t_block, .inl (cI, 3125, .inl t_block)), (h_t_first, .inl (cI, 3125, .inl t_first)), (h_t_s, .inl (cI, 30, .inl t_s)), (h_t_stack, .inl (cI, 400, .inl t_stack)), (h_t_written, .inl (cC, 400, .inl t_written))])) (va_Qv (fun (_ : Unit) => True) (fun (_ : Unit) (t : State) => va_P (dC, dI) vwCl [(h_t, .inr (10, [.ref h_t_s, .ref h_t_was, .ref h_t_begun, .int t_states, .ref h_t_text, .int t_typed, .ref h_t_wrong, .ref h_t_cost, .ref h_t_first, .ref h_t_block, .ref h_t_many, .ref h_t_stack, .int y_t_height, .ref h_t_written, .int y_t_length, .ref h_t_own, .ref h_t_levelAt, .ref h_t_itemAt, .ref h_t_times, .int t_at, .int t_ownLength, .int t_depth, .int t_deepest, .int t_letters, .int t_repeats, .int t_corrections, .int t_mostCorrections, .int t_place, .int t_reason])), (h_t_block, .inl (cI, 3125, .inl t_block)), (h_t_first, .inl (cI, 3125, .inl t_first)), (h_t_s, .inl (cI, 30, .inl t_s)), (h_t_stack, .inl (cI, 400, .inl y_t_stack)), (h_t_written, .inl (cC, 400, .inl y_t_written))] t.heap ∧ va_K (dC, dI) vwCl (tyA cI cJ cC cS) t ∧ va_D (va_A [(h_t, .inr (10, [.ref h_t_s, .ref h_t_was, .ref h_t_begun, .int t_states, .ref h_t_text, .int t_typed, .ref h_t_wrong, .ref h_t_cost, .ref h_t_first, .ref h_t_block, .ref h_t_many, .ref h_t_stack, .int t_height, .ref h_t_written, .int t_length, .ref h_t_own, .ref h_t_levelAt, .ref h_t_itemAt, .ref h_t_times, .int t_at, .int t_ownLength, .int t_depth, .int t_deepest, .int t_letters, .int t_repeats, .int t_corrections, .int t_mostCorrections, .int t_place, .int t_reason])), (h_t_block, .inl (cI, 3125, .inl t_block)), (h_t_first, .inl (cI, 3125, .inl t_first)), (h_t_s, .inl (cI, 30, .inl t_s)), (h_t_stack, .inl (cI, 400, .inl t_stack)), (h_t_written, .inl (cC, 400, .inl t_written))] sz) [(h_t, .inr (10, [.ref h_t_s, .ref h_t_was, .ref h_t_begun, .int t_states, .ref h_t_text, .int t_typed, .ref h_t_wrong, .ref h_t_cost, .ref h_t_first, .ref h_t_block, .ref h_t_many, .ref h_t_stack, .int y_t_height, .ref h_t_written, .int y_t_length, .ref h_t_own, .ref h_t_levelAt, .ref h_t_itemAt, .ref h_t_times, .int t_at, .int t_ownLength, .int t_depth, .int t_deepest, .int t_letters, .int t_repeats, .int t_corrections, .int t_mostCorrections, .int t_place, .int t_reason])), (h_t_block, .inl (cI, 3125, .inl t_block)), (h_t_first, .inl (cI, 3125, .inl t_first)), (h_t_s, .inl (cI, 30, .inl t_s)), (h_t_stack, .inl (cI, 400, .inl y_t_stack)), (h_t_written, .inl (cC, 400, .inl y_t_written))]) (va_A [(h_t, .inr (10, [.ref h_t_s, .ref h_t_was, .ref h_t_begun, .int t_states, .ref h_t_text, .int t_typed, .ref h_t_wrong, .ref h_t_cost, .ref h_t_first, .ref h_t_block, .ref h_t_many, .ref h_t_stack, .int t_height, .ref h_t_written, .int t_length, .ref h_t_own, .ref h_t_levelAt, .ref h_t_itemAt, .ref h_t_times, .int t_at, .int t_ownLength, .int t_depth, .int t_deepest, .int t_letters, .int t_repeats, .int t_corrections, .int t_mostCorrections, .int t_place, .int t_reason])), (h_t_block, .inl (cI, 3125, .inl t_block)), (h_t_first, .inl (cI, 3125, .inl t_first)), (h_t_s, .inl (cI, 30, .inl t_s)), (h_t_stack, .inl (cI, 400, .inl t_stack)), (h_t_written, .inl (cC, 400, .inl t_written))] sz)) 0 0 (va_A [(h_t, .inr (10, [.ref h_t_s, .ref h_t_was, .ref h_t_begun, .int t_states, .ref h_t_text, .int t_typed, .ref h_t_wrong, .ref h_t_cost, .ref h_t_first, .ref h_t_block, .ref h_t_many, .ref h_t_stack, .int t_height, .ref h_t_written, .int t_length, .ref h_t_own, .ref h_t_levelAt, .ref h_t_itemAt, .ref h_t_times, .int t_at, .int t_ownLength, .int t_depth, .int t_deepest, .int t_letters, .int t_repeats, .int t_corrections, .int t_mostCorrections, .int t_place, .int t_reason])), (h_t_block, .inl (cI, 3125, .inl t_block)), (h_t_first, .inl (cI, 3125, .inl t_first)), (h_t_s, .inl (cI, 30, .inl t_s)), (h_t_stack, .inl (cI, 400, .inl t_stack)), (h_t_written, .inl (cC, 400, .inl t_written))] sz) := by
  refine Met.ofW (cc := cX11_opens) (maxL := 6) (ret := none) (by decide) rfl ?_
  intro p e s m args below meth c s₁ B hml hv
  obtain ⟨hargs, hsz, hP, hK, hN, hD0⟩ := hv
  have hx := B.exec
  have hb := B.bytes
  have hr := B.returns
  have hts := atoms_spec (ws := wsX11_opens) B.pre
  have hown : s.vm.findClass RX11 = some m.cls := findClass_of_methodNamed B.named
  have hlocks := B.notSynchronized
  subst hsz
  have hD := hD0.self (sz := s.heap.size)
  generalize hAe : va_A [(h_t, .inr (10, [.ref h_t_s, .ref h_t_was, .ref h_t_begun, .int t_states, .ref h_t_text, .int t_typed, .ref h_t_wrong, .ref h_t_cost, .ref h_t_first, .ref h_t_block, .ref h_t_many, .ref h_t_stack, .int t_height, .ref h_t_written, .int t_length, .ref h_t_own, .ref h_t_levelAt, .ref h_t_itemAt, .ref h_t_times, .int t_at, .int t_ownLength, .int t_depth, .int t_deepest, .int t_letters, .int t_repeats, .int t_corrections, .int t_mostCorrections, .int t_place, .int t_reason])), (h_t_block, .inl (cI, 3125, .inl t_block)), (h_t_first, .inl (cI, 3125, .inl t_first)), (h_t_s, .inl (cI, 30, .inl t_s)), (h_t_stack, .inl (cI, 400, .inl t_stack)), (h_t_written, .inl (cC, 400, .inl t_written))] s.heap.size = A at hD ⊢
  have hA : ∀ q : Nat, s.heap.size ≤ q → A q := fun q h => by rw [← hAe]; exact Or.inr h
  have hS : va_S A s.heap s.heap [] := va_S.rf
  have hP : va_P (dC, dI) vwCl [(h_t, .inr (10, [.ref h_t_s, .ref h_t_was, .ref h_t_begun, .int t_states, .ref h_t_text, .int t_typed, .ref h_t_wrong, .ref h_t_cost, .ref h_t_first, .ref h_t_block, .ref h_t_many, .ref h_t_stack, .int t_height, .ref h_t_written, .int t_length, .ref h_t_own, .ref h_t_levelAt, .ref h_t_itemAt, .ref h_t_times, .int t_at, .int t_ownLength, .int t_depth, .int t_deepest, .int t_letters, .int t_repeats, .int t_corrections, .int t_mostCorrections, .int t_place, .int t_reason])), (h_t_block, .inl (cI, 3125, .inl t_block)), (h_t_first, .inl (cI, 3125, .inl t_first)), (h_t_s, .inl (cI, 30, .inl t_s)), (h_t_stack, .inl (cI, 400, .inl t_stack)), (h_t_written, .inl (cC, 400, .inl t_written))] s.heap := hP
  have hl := lv_entry [.ref h_t, .int x1, .int x2, .int x3] (n := 6) (Nat.le_of_ble_eq_true rfl)
  rw [show entryFrame m args 6 = entryFrame m ([.ref h_t, .int x1, .int x2, .int x3] : List Value).toArray 6 from by rw [hargs], lg_entry_eq]
  generalize (lg_sl [.ref h_t, .int x1, .int x2, .int x3] ++ List.replicate (6 - (lg_sl [.ref h_t, .int x1, .int x2, .int x3]).length) Slot.unset).toArray = ls at hl ⊢
  have hl : lv_has ls 6 [(0, .ref h_t), (1, .int x1), (2, .int x2), (3, .int x3)] := hl
  generalize hQQ : MQ below (va_Qv (fun (_ : Unit) => True) (fun (_ : Unit) (t : State) => va_P (dC, dI) vwCl [(h_t, .inr (10, [.ref h_t_s, .ref h_t_was, .ref h_t_begun, .int t_states, .ref h_t_text, .int t_typed, .ref h_t_wrong, .ref h_t_cost, .ref h_t_first, .ref h_t_block, .ref h_t_many, .ref h_t_stack, .int y_t_height, .ref h_t_written, .int y_t_length, .ref h_t_own, .ref h_t_levelAt, .ref h_t_itemAt, .ref h_t_times, .int t_at, .int t_ownLength, .int t_depth, .int t_deepest, .int t_letters, .int t_repeats, .int t_corrections, .int t_mostCorrections, .int t_place, .int t_reason])), (h_t_block, .inl (cI, 3125, .inl t_block)), (h_t_first, .inl (cI, 3125, .inl t_first)), (h_t_s, .inl (cI, 30, .inl t_s)), (h_t_stack, .inl (cI, 400, .inl y_t_stack)), (h_t_written, .inl (cC, 400, .inl y_t_written))] t.heap ∧ va_K (dC, dI) vwCl (tyA cI cJ cC cS) t ∧ va_D A [(h_t, .inr (10, [.ref h_t_s, .ref h_t_was, .ref h_t_begun, .int t_states, .ref h_t_text, .int t_typed, .ref h_t_wrong, .ref h_t_cost, .ref h_t_first, .ref h_t_block, .ref h_t_many, .ref h_t_stack, .int y_t_height, .ref h_t_written, .int y_t_length, .ref h_t_own, .ref h_t_levelAt, .ref h_t_itemAt, .ref h_t_times, .int t_at, .int t_ownLength, .int t_depth, .int t_deepest, .int t_letters, .int t_repeats, .int t_corrections, .int t_mostCorrections, .int t_place, .int t_reason])), (h_t_block, .inl (cI, 3125, .inl t_block)), (h_t_first, .inl (cI, 3125, .inl t_first)), (h_t_s, .inl (cI, 30, .inl t_s)), (h_t_stack, .inl (cI, 400, .inl y_t_stack)), (h_t_written, .inl (cC, 400, .inl y_t_written))]) A) args s 0 0 A = QQ
  obtain ⟨H, hH⟩ : ∃ H : Heap, H = s.heap := ⟨_, rfl⟩
  obtain ⟨locs, hlocs⟩ : ∃ locs : List Loc, locs = [] := ⟨_, rfl⟩
  rw [← hH] at hP
  have hS : va_S A s.heap H locs := by rw [hH, hlocs]; exact hS
  suffices hZ : W p l e (headSpec wsX11_opens ({ frames := 2, cells := 0, slots := 0, locals := 42 } : Room)).room s m args below meth c H locs 0 0 QQ (F0 m 0 ls []) by rw [hH, hlocs] at hZ; exact hZ
  clear hH hlocs
  rw [fMD_opens] at hres
  refine lv_aload_n hx hb dX11_opens_0 rfl (lv_at hl 0 rfl) ?_
  refine va_get (D := (dC, dI)) (ci := 10) (v := .ref h_t_first) (C := RX11) (T := TX11) (N := 29) hx hb hts iMD_opens_X11_opens_1 hown hK hP 0 rfl rfl 8 (by decide) (hts _ kMD_opens_X11_opens_0) (fun _ h9 => h9) rfl dX11_opens_1 ?_
  refine lv_iload_n hx hb dX11_opens_4 rfl (lv_at hl 3 rfl) ?_
  refine lv_iload_n hx hb dX11_opens_5 rfl (lv_at hl 1 rfl) ?_
  refine lv_iload_n hx hb dX11_opens_6 rfl (lv_at hl 2 rfl) ?_
  obtain ⟨o1, ho1, hres⟩ := bd_of hres
  have hPc := hP.sub (ws' := []) [] rfl
  have hDc := hD.sub (ws' := []) [] (by decide) rfl
  have hFc := va_free (wc := []) hD hS hA [] rfl
  refine va_calli (va_runS (As := [.int x3, .int x1, .int x2]) (rest := [.ref h_t_first]) ⟨hx, hb, hml, hown, hts⟩ (cMD_part l dC dI cI cJ cC cS H.size x3 x1 x2 o1 ho1) (va_cwS 3 hts gX11_opens_X11_part rfl rfl rfl (by decide +kernel) ⟨Nat.le_of_ble_eq_true rfl, Nat.le_of_ble_eq_true rfl⟩) ⟨fun a U g mk q => by obtain ⟨q0, q1, qP, qK, qN, qD⟩ := q; exact ⟨q0, q1, qP, va_K.moved (u := U) (U := U.calling g mk a) (Vm.Alike.refl U.vm) qK, nwS (u := U) (U := U.calling g mk a) rfl qN, qD⟩, fun U hU hW => ⟨rfl, by rw [hU], by rw [hU]; exact hPc, va_K.moved hW.alike hK, nwW hW hN, hDc.weaken (fun _ _ _ _ => trivial)⟩⟩ rfl rfl hl.1 rfl (lv_room (Nat.le_of_ble_eq_true rfl)) dX11_opens_7 ⟨Nat.zero_le _, Nat.zero_le _⟩) hS (fun q _ h => hFc q h) hFc (fun r9 u9 t H1 locs ht hvm hw hB hz1 hk1 hS => ?_)
  have hw := hw.symm
  subst hw
  obtain ⟨hP1, hK1, hD1⟩ := hB
  rw [ht] at hP1
  obtain ⟨hP, hD⟩ := va_join (wr := [(h_t, .inr (10, [.ref h_t_s, .ref h_t_was, .ref h_t_begun, .int t_states, .ref h_t_text, .int t_typed, .ref h_t_wrong, .ref h_t_cost, .ref h_t_first, .ref h_t_block, .ref h_t_many, .ref h_t_stack, .int t_height, .ref h_t_written, .int t_length, .ref h_t_own, .ref h_t_levelAt, .ref h_t_itemAt, .ref h_t_times, .int t_at, .int t_ownLength, .int t_depth, .int t_deepest, .int t_letters, .int t_repeats, .int t_corrections, .int t_mostCorrections, .int t_place, .int t_reason])), (h_t_block, .inl (cI, 3125, .inl t_block)), (h_t_first, .inl (cI, 3125, .inl t_first)), (h_t_s, .inl (cI, 30, .inl t_s)), (h_t_stack, .inl (cI, 400, .inl t_stack)), (h_t_written, .inl (cC, 400, .inl t_written))]) (w1 := []) hP hD [] [0, 1, 2, 3, 4, 5] rfl rfl (by decide) (by decide) hk1 hFc hP1 hD1
  generalize H1 = H at hP hS ⊢
  have hP : va_P (dC, dI) vwCl [(h_t, .inr (10, [.ref h_t_s, .ref h_t_was, .ref h_t_begun, .int t_states, .ref h_t_text, .int t_typed, .ref h_t_wrong, .ref h_t_cost, .ref h_t_first, .ref h_t_block, .ref h_t_many, .ref h_t_stack, .int t_height, .ref h_t_written, .int t_length, .ref h_t_own, .ref h_t_levelAt, .ref h_t_itemAt, .ref h_t_times, .int t_at, .int t_ownLength, .int t_depth, .int t_deepest, .int t_letters, .int t_repeats, .int t_corrections, .int t_mostCorrections, .int t_place, .int t_reason])), (h_t_block, .inl (cI, 3125, .inl t_block)), (h_t_first, .inl (cI, 3125, .inl t_first)), (h_t_s, .inl (cI, 30, .inl t_s)), (h_t_stack, .inl (cI, 400, .inl t_stack)), (h_t_written, .inl (cC, 400, .inl t_written))] H := hP
  have hD : va_D A [(h_t, .inr (10, [.ref h_t_s, .ref h_t_was, .ref h_t_begun, .int t_states, .ref h_t_text, .int t_typed, .ref h_t_wrong, .ref h_t_cost, .ref h_t_first, .ref h_t_block, .ref h_t_many, .ref h_t_stack, .int t_height, .ref h_t_written, .int t_length, .ref h_t_own, .ref h_t_levelAt, .ref h_t_itemAt, .ref h_t_times, .int t_at, .int t_ownLength, .int t_depth, .int t_deepest, .int t_letters, .int t_repeats, .int t_corrections, .int t_mostCorrections, .int t_place, .int t_reason])), (h_t_block, .inl (cI, 3125, .inl t_block)), (h_t_first, .inl (cI, 3125, .inl t_first)), (h_t_s, .inl (cI, 30, .inl t_s)), (h_t_stack, .inl (cI, 400, .inl t_stack)), (h_t_written, .inl (cC, 400, .inl t_written))] := hD
  obtain ⟨c_2, hres⟩ := ck_of hres
  refine va_iald hx hb hK hP 2 0 rfl rfl c_2 dX11_opens_10 ?_
  refine lv_istore (lv' := [(4, .int (rd t_first o1)), (0, .ref h_t), (1, .int x1), (2, .int x2), (3, .int x3)]) hx hb dX11_opens_11 hl (by decide) rfl (fun ls hl => ?_)
  refine lv_aload_n hx hb dX11_opens_13 rfl (lv_at hl 1 rfl) ?_
  refine lv_iconst (v := (0 : Int32)) hx hb dX11_opens_14 (by decide) ?_
  refine lv_iload_n hx hb dX11_opens_15 rfl (lv_at hl 2 rfl) ?_
  refine lv_iload hx hb dX11_opens_16 (lv_at hl 0 rfl) ?_
  refine lv_iadd hx hb dX11_opens_18 ?_
  refine lv_iload_n hx hb dX11_opens_19 rfl (lv_at hl 3 rfl) ?_
  refine lv_iload_n hx hb dX11_opens_20 rfl (lv_at hl 4 rfl) ?_
  obtain ⟨o3, ho3, hres⟩ := bd_of hres
  have hPc := hP.sub (ws' := [(h_t, .inr (10, [.ref h_t_s, .ref h_t_was, .ref h_t_begun, .int t_states, .ref h_t_text, .int t_typed, .ref h_t_wrong, .ref h_t_cost, .ref h_t_first, .ref h_t_block, .ref h_t_many, .ref h_t_stack, .int t_height, .ref h_t_written, .int t_length, .ref h_t_own, .ref h_t_levelAt, .ref h_t_itemAt, .ref h_t_times, .int t_at, .int t_ownLength, .int t_depth, .int t_deepest, .int t_letters, .int t_repeats, .int t_corrections, .int t_mostCorrections, .int t_place, .int t_reason])), (h_t_stack, .inl (cI, 400, .inl t_stack))]) [0, 4] rfl
  have hDc := hD.sub (ws' := [(h_t, .inr (10, [.ref h_t_s, .ref h_t_was, .ref h_t_begun, .int t_states, .ref h_t_text, .int t_typed, .ref h_t_wrong, .ref h_t_cost, .ref h_t_first, .ref h_t_block, .ref h_t_many, .ref h_t_stack, .int t_height, .ref h_t_written, .int t_length, .ref h_t_own, .ref h_t_levelAt, .ref h_t_itemAt, .ref h_t_times, .int t_at, .int t_ownLength, .int t_depth, .int t_deepest, .int t_letters, .int t_repeats, .int t_corrections, .int t_mostCorrections, .int t_place, .int t_reason])), (h_t_stack, .inl (cI, 400, .inl t_stack))]) [0, 4] (by decide) rfl
  have hFc := va_free (wc := [(h_t, .inr (10, [.ref h_t_s, .ref h_t_was, .ref h_t_begun, .int t_states, .ref h_t_text, .int t_typed, .ref h_t_wrong, .ref h_t_cost, .ref h_t_first, .ref h_t_block, .ref h_t_many, .ref h_t_stack, .int t_height, .ref h_t_written, .int t_length, .ref h_t_own, .ref h_t_levelAt, .ref h_t_itemAt, .ref h_t_times, .int t_at, .int t_ownLength, .int t_depth, .int t_deepest, .int t_letters, .int t_repeats, .int t_corrections, .int t_mostCorrections, .int t_place, .int t_reason])), (h_t_stack, .inl (cI, 400, .inl t_stack))]) hD hS hA [0, 4] rfl
  refine va_callv (va_runV (As := [.int (0 : Int32), .int (x1 + (rd t_first o1)), .int x2, .int x3]) (rest := []) ⟨hx, hb, hml, hown, hts⟩ (cMD_puts l dC dI cI cJ cC cS h_t h_t_s h_t_was h_t_begun h_t_text h_t_wrong h_t_cost h_t_first h_t_block h_t_many h_t_stack h_t_written h_t_own h_t_levelAt h_t_itemAt h_t_times H.size t_states t_typed t_height t_length t_at t_ownLength t_depth t_deepest t_letters t_repeats t_corrections t_mostCorrections t_place t_reason t_stack (0 : Int32) (x1 + (rd t_first o1)) x2 x3 o3.1 o3.2 ho3) (cwV 4 hts gX11_opens_X11_puts rfl rfl rfl (by decide +kernel) ⟨Nat.le_of_ble_eq_true rfl, Nat.le_of_ble_eq_true rfl⟩) ⟨fun a U g mk q => by obtain ⟨q0, q1, qP, qK, qN, qD⟩ := q; exact ⟨q0, q1, qP, va_K.moved (u := U) (U := U.calling g mk a) (Vm.Alike.refl U.vm) qK, nwS (u := U) (U := U.calling g mk a) rfl qN, qD⟩, va_recv hK hPc (ci := 10) (q0 := 0) rfl rfl, fun U hU hW => ⟨rfl, by rw [hU], by rw [hU]; exact hPc, va_K.moved hW.alike hK, nwW hW hN, hDc.weaken (fun _ _ _ _ => trivial)⟩⟩ rfl rfl hl.1 rfl (lv_room (Nat.le_of_ble_eq_true rfl)) dX11_opens_21 ⟨Nat.zero_le _, Nat.zero_le _⟩) hS (fun q _ h => hFc q h) hFc (fun u9 t H1 locs ht hvm hw hB hz1 hk1 hS => ?_)
  obtain ⟨hP1, hK1, hD1⟩ := hB
  rw [ht] at hP1
  obtain ⟨hP, hD⟩ := va_join (wr := [(h_t_block, .inl (cI, 3125, .inl t_block)), (h_t_first, .inl (cI, 3125, .inl t_first)), (h_t_s, .inl (cI, 30, .inl t_s)), (h_t_written, .inl (cC, 400, .inl t_written))]) (w1 := [(h_t, .inr (10, [.ref h_t_s, .ref h_t_was, .ref h_t_begun, .int t_states, .ref h_t_text, .int t_typed, .ref h_t_wrong, .ref h_t_cost, .ref h_t_first, .ref h_t_block, .ref h_t_many, .ref h_t_stack, .int o3.1, .ref h_t_written, .int t_length, .ref h_t_own, .ref h_t_levelAt, .ref h_t_itemAt, .ref h_t_times, .int t_at, .int t_ownLength, .int t_depth, .int t_deepest, .int t_letters, .int t_repeats, .int t_corrections, .int t_mostCorrections, .int t_place, .int t_reason])), (h_t_stack, .inl (cI, 400, .inl o3.2))]) hP hD [0, 4] [1, 2, 3, 5] rfl rfl (by decide) (by decide) hk1 hFc hP1 hD1
  generalize H1 = H at hP hS ⊢
  have hP : va_P (dC, dI) vwCl [(h_t_block, .inl (cI, 3125, .inl t_block)), (h_t_first, .inl (cI, 3125, .inl t_first)), (h_t_s, .inl (cI, 30, .inl t_s)), (h_t_written, .inl (cC, 400, .inl t_written)), (h_t, .inr (10, [.ref h_t_s, .ref h_t_was, .ref h_t_begun, .int t_states, .ref h_t_text, .int t_typed, .ref h_t_wrong, .ref h_t_cost, .ref h_t_first, .ref h_t_block, .ref h_t_many, .ref h_t_stack, .int o3.1, .ref h_t_written, .int t_length, .ref h_t_own, .ref h_t_levelAt, .ref h_t_itemAt, .ref h_t_times, .int t_at, .int t_ownLength, .int t_depth, .int t_deepest, .int t_letters, .int t_repeats, .int t_corrections, .int t_mostCorrections, .int t_place, .int t_reason])), (h_t_stack, .inl (cI, 400, .inl o3.2))] H := hP
  have hD : va_D A [(h_t_block, .inl (cI, 3125, .inl t_block)), (h_t_first, .inl (cI, 3125, .inl t_first)), (h_t_s, .inl (cI, 30, .inl t_s)), (h_t_written, .inl (cC, 400, .inl t_written)), (h_t, .inr (10, [.ref h_t_s, .ref h_t_was, .ref h_t_begun, .int t_states, .ref h_t_text, .int t_typed, .ref h_t_wrong, .ref h_t_cost, .ref h_t_first, .ref h_t_block, .ref h_t_many, .ref h_t_stack, .int o3.1, .ref h_t_written, .int t_length, .ref h_t_own, .ref h_t_levelAt, .ref h_t_itemAt, .ref h_t_times, .int t_at, .int t_ownLength, .int t_depth, .int t_deepest, .int t_letters, .int t_repeats, .int t_corrections, .int t_mostCorrections, .int t_place, .int t_reason])), (h_t_stack, .inl (cI, 400, .inl o3.2))] := hD
  refine lv_iload hx hb dX11_opens_24 (lv_at hl 0 rfl) ?_
  refine lv_iconst (v := (1 : Int32)) hx hb dX11_opens_26 (by decide) ?_
  refine lv_icmp_ne (tgt := 49) hx hb dX11_opens_27 (by decide) (fun c_4 => ?_) (fun c_4 => ?_)
  · have hres := ie_of hres c_4
    refine lv_aload_n hx hb dX11_opens_49 rfl (lv_at hl 1 rfl) ?_
    refine va_get (D := (dC, dI)) (ci := 10) (v := .ref h_t_block) (C := RX11) (T := TX11) (N := 29) hx hb hts iMD_opens_X11_opens_1 hown hK hP 4 rfl rfl 9 (by decide) (hts _ kMD_opens_X11_opens_2) (fun _ h9 => h9) rfl dX11_opens_50 ?_
    refine lv_iload_n hx hb dX11_opens_53 rfl (lv_at hl 4 rfl) ?_
    refine lv_iload_n hx hb dX11_opens_54 rfl (lv_at hl 2 rfl) ?_
    refine lv_iload_n hx hb dX11_opens_55 rfl (lv_at hl 3 rfl) ?_
    obtain ⟨o5, ho5, hres⟩ := bd_of hres
    have hPc := hP.sub (ws' := []) [] rfl
    have hDc := hD.sub (ws' := []) [] (by decide) rfl
    have hFc := va_free (wc := []) hD hS hA [] rfl
    refine va_calli (va_runS (As := [.int x3, .int x1, .int x2]) (rest := [.ref h_t_block]) ⟨hx, hb, hml, hown, hts⟩ (cMD_part l dC dI cI cJ cC cS H.size x3 x1 x2 o5 ho5) (va_cwS 3 hts gX11_opens_X11_part rfl rfl rfl (by decide +kernel) ⟨Nat.le_of_ble_eq_true rfl, Nat.le_of_ble_eq_true rfl⟩) ⟨fun a U g mk q => by obtain ⟨q0, q1, qP, qK, qN, qD⟩ := q; exact ⟨q0, q1, qP, va_K.moved (u := U) (U := U.calling g mk a) (Vm.Alike.refl U.vm) qK, nwS (u := U) (U := U.calling g mk a) rfl qN, qD⟩, fun U hU hW => ⟨rfl, by rw [hU], by rw [hU]; exact hPc, va_K.moved hW.alike hK, nwW hW hN, hDc.weaken (fun _ _ _ _ => trivial)⟩⟩ rfl rfl hl.1 rfl (lv_room (Nat.le_of_ble_eq_true rfl)) dX11_opens_56 ⟨Nat.zero_le _, Nat.zero_le _⟩) hS (fun q _ h => hFc q h) hFc (fun r9 u9 t H1 locs ht hvm hw hB hz1 hk1 hS => ?_)
    have hw := hw.symm
    subst hw
    obtain ⟨hP1, hK1, hD1⟩ := hB
    rw [ht] at hP1
    obtain ⟨hP, hD⟩ := va_join (wr := [(h_t_block, .inl (cI, 3125, .inl t_block)), (h_t_first, .inl (cI, 3125, .inl t_first)), (h_t_s, .inl (cI, 30, .inl t_s)), (h_t_written, .inl (cC, 400, .inl t_written)), (h_t, .inr (10, [.ref h_t_s, .ref h_t_was, .ref h_t_begun, .int t_states, .ref h_t_text, .int t_typed, .ref h_t_wrong, .ref h_t_cost, .ref h_t_first, .ref h_t_block, .ref h_t_many, .ref h_t_stack, .int o3.1, .ref h_t_written, .int t_length, .ref h_t_own, .ref h_t_levelAt, .ref h_t_itemAt, .ref h_t_times, .int t_at, .int t_ownLength, .int t_depth, .int t_deepest, .int t_letters, .int t_repeats, .int t_corrections, .int t_mostCorrections, .int t_place, .int t_reason])), (h_t_stack, .inl (cI, 400, .inl o3.2))]) (w1 := []) hP hD [] [0, 1, 2, 3, 4, 5] rfl rfl (by decide) (by decide) hk1 hFc hP1 hD1
    generalize H1 = H at hP hS ⊢
    have hP : va_P (dC, dI) vwCl [(h_t_block, .inl (cI, 3125, .inl t_block)), (h_t_first, .inl (cI, 3125, .inl t_first)), (h_t_s, .inl (cI, 30, .inl t_s)), (h_t_written, .inl (cC, 400, .inl t_written)), (h_t, .inr (10, [.ref h_t_s, .ref h_t_was, .ref h_t_begun, .int t_states, .ref h_t_text, .int t_typed, .ref h_t_wrong, .ref h_t_cost, .ref h_t_first, .ref h_t_block, .ref h_t_many, .ref h_t_stack, .int o3.1, .ref h_t_written, .int t_length, .ref h_t_own, .ref h_t_levelAt, .ref h_t_itemAt, .ref h_t_times, .int t_at, .int t_ownLength, .int t_depth, .int t_deepest, .int t_letters, .int t_repeats, .int t_corrections, .int t_mostCorrections, .int t_place, .int t_reason])), (h_t_stack, .inl (cI, 400, .inl o3.2))] H := hP
    have hD : va_D A [(h_t_block, .inl (cI, 3125, .inl t_block)), (h_t_first, .inl (cI, 3125, .inl t_first)), (h_t_s, .inl (cI, 30, .inl t_s)), (h_t_written, .inl (cC, 400, .inl t_written)), (h_t, .inr (10, [.ref h_t_s, .ref h_t_was, .ref h_t_begun, .int t_states, .ref h_t_text, .int t_typed, .ref h_t_wrong, .ref h_t_cost, .ref h_t_first, .ref h_t_block, .ref h_t_many, .ref h_t_stack, .int o3.1, .ref h_t_written, .int t_length, .ref h_t_own, .ref h_t_levelAt, .ref h_t_itemAt, .ref h_t_times, .int t_at, .int t_ownLength, .int t_depth, .int t_deepest, .int t_letters, .int t_repeats, .int t_corrections, .int t_mostCorrections, .int t_place, .int t_reason])), (h_t_stack, .inl (cI, 400, .inl o3.2))] := hD
    obtain ⟨c_6, hres⟩ := ck_of hres
    refine va_iald hx hb hK hP 0 0 rfl rfl c_6 dX11_opens_59 ?_
    refine lv_istore (lv' := [(5, .int (rd t_block o5)), (4, .int (rd t_first o1)), (0, .ref h_t), (1, .int x1), (2, .int x2), (3, .int x3)]) hx hb dX11_opens_60 hl (by decide) rfl (fun ls hl => ?_)
    refine lv_aload_n hx hb dX11_opens_62 rfl (lv_at hl 2 rfl) ?_
    refine lv_iload hx hb dX11_opens_63 (lv_at hl 1 rfl) ?_
    refine lv_iload hx hb dX11_opens_65 (lv_at hl 0 rfl) ?_
    obtain ⟨c_7, hres⟩ := nz_of hres
    refine lv_idiv hx hb dX11_opens_67 c_7 ?_
    obtain ⟨o8, ho8, hres⟩ := bd_of hres
    have hPc := hP.sub (ws' := [(h_t, .inr (10, [.ref h_t_s, .ref h_t_was, .ref h_t_begun, .int t_states, .ref h_t_text, .int t_typed, .ref h_t_wrong, .ref h_t_cost, .ref h_t_first, .ref h_t_block, .ref h_t_many, .ref h_t_stack, .int o3.1, .ref h_t_written, .int t_length, .ref h_t_own, .ref h_t_levelAt, .ref h_t_itemAt, .ref h_t_times, .int t_at, .int t_ownLength, .int t_depth, .int t_deepest, .int t_letters, .int t_repeats, .int t_corrections, .int t_mostCorrections, .int t_place, .int t_reason])), (h_t_written, .inl (cC, 400, .inl t_written))]) [4, 3] rfl
    have hDc := hD.sub (ws' := [(h_t, .inr (10, [.ref h_t_s, .ref h_t_was, .ref h_t_begun, .int t_states, .ref h_t_text, .int t_typed, .ref h_t_wrong, .ref h_t_cost, .ref h_t_first, .ref h_t_block, .ref h_t_many, .ref h_t_stack, .int o3.1, .ref h_t_written, .int t_length, .ref h_t_own, .ref h_t_levelAt, .ref h_t_itemAt, .ref h_t_times, .int t_at, .int t_ownLength, .int t_depth, .int t_deepest, .int t_letters, .int t_repeats, .int t_corrections, .int t_mostCorrections, .int t_place, .int t_reason])), (h_t_written, .inl (cC, 400, .inl t_written))]) [4, 3] (by decide) rfl
    have hFc := va_free (wc := [(h_t, .inr (10, [.ref h_t_s, .ref h_t_was, .ref h_t_begun, .int t_states, .ref h_t_text, .int t_typed, .ref h_t_wrong, .ref h_t_cost, .ref h_t_first, .ref h_t_block, .ref h_t_many, .ref h_t_stack, .int o3.1, .ref h_t_written, .int t_length, .ref h_t_own, .ref h_t_levelAt, .ref h_t_itemAt, .ref h_t_times, .int t_at, .int t_ownLength, .int t_depth, .int t_deepest, .int t_letters, .int t_repeats, .int t_corrections, .int t_mostCorrections, .int t_place, .int t_reason])), (h_t_written, .inl (cC, 400, .inl t_written))]) hD hS hA [4, 3] rfl
    refine va_callv (va_runV (As := [.int ((rd t_first o1) / (rd t_block o5))]) (rest := []) ⟨hx, hb, hml, hown, hts⟩ (cMD_number l dC dI cI cJ cC cS h_t h_t_s h_t_was h_t_begun h_t_text h_t_wrong h_t_cost h_t_first h_t_block h_t_many h_t_stack h_t_written h_t_own h_t_levelAt h_t_itemAt h_t_times H.size t_states t_typed o3.1 t_length t_at t_ownLength t_depth t_deepest t_letters t_repeats t_corrections t_mostCorrections t_place t_reason t_written ((rd t_first o1) / (rd t_block o5)) o8.1 o8.2 ho8) (cwV 1 hts gX11_opens_X11_number rfl rfl rfl (by decide +kernel) ⟨Nat.le_of_ble_eq_true rfl, Nat.le_of_ble_eq_true rfl⟩) ⟨fun a U g mk q => by obtain ⟨q0, q1, qP, qK, qN, qD⟩ := q; exact ⟨q0, q1, qP, va_K.moved (u := U) (U := U.calling g mk a) (Vm.Alike.refl U.vm) qK, nwS (u := U) (U := U.calling g mk a) rfl qN, qD⟩, va_recv hK hPc (ci := 10) (q0 := 0) rfl rfl, fun U hU hW => ⟨rfl, by rw [hU], by rw [hU]; exact hPc, va_K.moved hW.alike hK, nwW hW hN, hDc.weaken (fun _ _ _ _ => trivial)⟩⟩ rfl rfl hl.1 rfl (lv_room (Nat.le_of_ble_eq_true rfl)) dX11_opens_68 ⟨Nat.zero_le _, Nat.zero_le _⟩) hS (fun q _ h => hFc q h) hFc (fun u9 t H1 locs ht hvm hw hB hz1 hk1 hS => ?_)
    obtain ⟨hP1, hK1, hD1⟩ := hB
    rw [ht] at hP1
    obtain ⟨hP, hD⟩ := va_join (wr := [(h_t_block, .inl (cI, 3125, .inl t_block)), (h_t_first, .inl (cI, 3125, .inl t_first)), (h_t_s, .inl (cI, 30, .inl t_s)), (h_t_stack, .inl (cI, 400, .inl o3.2))]) (w1 := [(h_t, .inr (10, [.ref h_t_s, .ref h_t_was, .ref h_t_begun, .int t_states, .ref h_t_text, .int t_typed, .ref h_t_wrong, .ref h_t_cost, .ref h_t_first, .ref h_t_block, .ref h_t_many, .ref h_t_stack, .int o3.1, .ref h_t_written, .int o8.1, .ref h_t_own, .ref h_t_levelAt, .ref h_t_itemAt, .ref h_t_times, .int t_at, .int t_ownLength, .int t_depth, .int t_deepest, .int t_letters, .int t_repeats, .int t_corrections, .int t_mostCorrections, .int t_place, .int t_reason])), (h_t_written, .inl (cC, 400, .inl o8.2))]) hP hD [4, 3] [0, 1, 2, 5] rfl rfl (by decide) (by decide) hk1 hFc hP1 hD1
    generalize H1 = H at hP hS ⊢
    have hP : va_P (dC, dI) vwCl [(h_t_block, .inl (cI, 3125, .inl t_block)), (h_t_first, .inl (cI, 3125, .inl t_first)), (h_t_s, .inl (cI, 30, .inl t_s)), (h_t_stack, .inl (cI, 400, .inl o3.2)), (h_t, .inr (10, [.ref h_t_s, .ref h_t_was, .ref h_t_begun, .int t_states, .ref h_t_text, .int t_typed, .ref h_t_wrong, .ref h_t_cost, .ref h_t_first, .ref h_t_block, .ref h_t_many, .ref h_t_stack, .int o3.1, .ref h_t_written, .int o8.1, .ref h_t_own, .ref h_t_levelAt, .ref h_t_itemAt, .ref h_t_times, .int t_at, .int t_ownLength, .int t_depth, .int t_deepest, .int t_letters, .int t_repeats, .int t_corrections, .int t_mostCorrections, .int t_place, .int t_reason])), (h_t_written, .inl (cC, 400, .inl o8.2))] H := hP
    have hD : va_D A [(h_t_block, .inl (cI, 3125, .inl t_block)), (h_t_first, .inl (cI, 3125, .inl t_first)), (h_t_s, .inl (cI, 30, .inl t_s)), (h_t_stack, .inl (cI, 400, .inl o3.2)), (h_t, .inr (10, [.ref h_t_s, .ref h_t_was, .ref h_t_begun, .int t_states, .ref h_t_text, .int t_typed, .ref h_t_wrong, .ref h_t_cost, .ref h_t_first, .ref h_t_block, .ref h_t_many, .ref h_t_stack, .int o3.1, .ref h_t_written, .int o8.1, .ref h_t_own, .ref h_t_levelAt, .ref h_t_itemAt, .ref h_t_times, .int t_at, .int t_ownLength, .int t_depth, .int t_deepest, .int t_letters, .int t_repeats, .int t_corrections, .int t_mostCorrections, .int t_place, .int t_reason])), (h_t_written, .inl (cC, 400, .inl o8.2))] := hD
    refine lv_aload_n hx hb dX11_opens_71 rfl (lv_at hl 2 rfl) ?_
    refine lv_bipush (v := (40 : Int32)) hx hb dX11_opens_72 (by decide) ?_
    obtain ⟨o9, ho9, hres⟩ := bd_of hres
    have hPc := hP.sub (ws' := [(h_t, .inr (10, [.ref h_t_s, .ref h_t_was, .ref h_t_begun, .int t_states, .ref h_t_text, .int t_typed, .ref h_t_wrong, .ref h_t_cost, .ref h_t_first, .ref h_t_block, .ref h_t_many, .ref h_t_stack, .int o3.1, .ref h_t_written, .int o8.1, .ref h_t_own, .ref h_t_levelAt, .ref h_t_itemAt, .ref h_t_times, .int t_at, .int t_ownLength, .int t_depth, .int t_deepest, .int t_letters, .int t_repeats, .int t_corrections, .int t_mostCorrections, .int t_place, .int t_reason])), (h_t_written, .inl (cC, 400, .inl o8.2))]) [4, 5] rfl
    have hDc := hD.sub (ws' := [(h_t, .inr (10, [.ref h_t_s, .ref h_t_was, .ref h_t_begun, .int t_states, .ref h_t_text, .int t_typed, .ref h_t_wrong, .ref h_t_cost, .ref h_t_first, .ref h_t_block, .ref h_t_many, .ref h_t_stack, .int o3.1, .ref h_t_written, .int o8.1, .ref h_t_own, .ref h_t_levelAt, .ref h_t_itemAt, .ref h_t_times, .int t_at, .int t_ownLength, .int t_depth, .int t_deepest, .int t_letters, .int t_repeats, .int t_corrections, .int t_mostCorrections, .int t_place, .int t_reason])), (h_t_written, .inl (cC, 400, .inl o8.2))]) [4, 5] (by decide) rfl
    have hFc := va_free (wc := [(h_t, .inr (10, [.ref h_t_s, .ref h_t_was, .ref h_t_begun, .int t_states, .ref h_t_text, .int t_typed, .ref h_t_wrong, .ref h_t_cost, .ref h_t_first, .ref h_t_block, .ref h_t_many, .ref h_t_stack, .int o3.1, .ref h_t_written, .int o8.1, .ref h_t_own, .ref h_t_levelAt, .ref h_t_itemAt, .ref h_t_times, .int t_at, .int t_ownLength, .int t_depth, .int t_deepest, .int t_letters, .int t_repeats, .int t_corrections, .int t_mostCorrections, .int t_place, .int t_reason])), (h_t_written, .inl (cC, 400, .inl o8.2))]) hD hS hA [4, 5] rfl
    refine va_callv (va_runV (As := [.int (40 : Int32)]) (rest := []) ⟨hx, hb, hml, hown, hts⟩ (cMD_writes l dC dI cI cJ cC cS h_t h_t_s h_t_was h_t_begun h_t_text h_t_wrong h_t_cost h_t_first h_t_block h_t_many h_t_stack h_t_written h_t_own h_t_levelAt h_t_itemAt h_t_times H.size t_states t_typed o3.1 o8.1 t_at t_ownLength t_depth t_deepest t_letters t_repeats t_corrections t_mostCorrections t_place t_reason o8.2 (40 : Int32) o9.1 o9.2 ho9) (cwV 1 hts gX11_opens_X11_writes rfl rfl rfl (by decide +kernel) ⟨Nat.le_of_ble_eq_true rfl, Nat.le_of_ble_eq_true rfl⟩) ⟨fun a U g mk q => by obtain ⟨q0, q1, qP, qK, qN, qD⟩ := q; exact ⟨q0, q1, qP, va_K.moved (u := U) (U := U.calling g mk a) (Vm.Alike.refl U.vm) qK, nwS (u := U) (U := U.calling g mk a) rfl qN, qD⟩, va_recv hK hPc (ci := 10) (q0 := 0) rfl rfl, fun U hU hW => ⟨rfl, by rw [hU], by rw [hU]; exact hPc, va_K.moved hW.alike hK, nwW hW hN, hDc.weaken (fun _ _ _ _ => trivial)⟩⟩ rfl rfl hl.1 rfl (lv_room (Nat.le_of_ble_eq_true rfl)) dX11_opens_74 ⟨Nat.zero_le _, Nat.zero_le _⟩) hS (fun q _ h => hFc q h) hFc (fun u9 t H1 locs ht hvm hw hB hz1 hk1 hS => ?_)
    obtain ⟨hP1, hK1, hD1⟩ := hB
    rw [ht] at hP1
    obtain ⟨hP, hD⟩ := va_join (wr := [(h_t_block, .inl (cI, 3125, .inl t_block)), (h_t_first, .inl (cI, 3125, .inl t_first)), (h_t_s, .inl (cI, 30, .inl t_s)), (h_t_stack, .inl (cI, 400, .inl o3.2))]) (w1 := [(h_t, .inr (10, [.ref h_t_s, .ref h_t_was, .ref h_t_begun, .int t_states, .ref h_t_text, .int t_typed, .ref h_t_wrong, .ref h_t_cost, .ref h_t_first, .ref h_t_block, .ref h_t_many, .ref h_t_stack, .int o3.1, .ref h_t_written, .int o9.1, .ref h_t_own, .ref h_t_levelAt, .ref h_t_itemAt, .ref h_t_times, .int t_at, .int t_ownLength, .int t_depth, .int t_deepest, .int t_letters, .int t_repeats, .int t_corrections, .int t_mostCorrections, .int t_place, .int t_reason])), (h_t_written, .inl (cC, 400, .inl o9.2))]) hP hD [4, 5] [0, 1, 2, 3] rfl rfl (by decide) (by decide) hk1 hFc hP1 hD1
    generalize H1 = H at hP hS ⊢
    have hP : va_P (dC, dI) vwCl [(h_t_block, .inl (cI, 3125, .inl t_block)), (h_t_first, .inl (cI, 3125, .inl t_first)), (h_t_s, .inl (cI, 30, .inl t_s)), (h_t_stack, .inl (cI, 400, .inl o3.2)), (h_t, .inr (10, [.ref h_t_s, .ref h_t_was, .ref h_t_begun, .int t_states, .ref h_t_text, .int t_typed, .ref h_t_wrong, .ref h_t_cost, .ref h_t_first, .ref h_t_block, .ref h_t_many, .ref h_t_stack, .int o3.1, .ref h_t_written, .int o9.1, .ref h_t_own, .ref h_t_levelAt, .ref h_t_itemAt, .ref h_t_times, .int t_at, .int t_ownLength, .int t_depth, .int t_deepest, .int t_letters, .int t_repeats, .int t_corrections, .int t_mostCorrections, .int t_place, .int t_reason])), (h_t_written, .inl (cC, 400, .inl o9.2))] H := hP
    have hD : va_D A [(h_t_block, .inl (cI, 3125, .inl t_block)), (h_t_first, .inl (cI, 3125, .inl t_first)), (h_t_s, .inl (cI, 30, .inl t_s)), (h_t_stack, .inl (cI, 400, .inl o3.2)), (h_t, .inr (10, [.ref h_t_s, .ref h_t_was, .ref h_t_begun, .int t_states, .ref h_t_text, .int t_typed, .ref h_t_wrong, .ref h_t_cost, .ref h_t_first, .ref h_t_block, .ref h_t_many, .ref h_t_stack, .int o3.1, .ref h_t_written, .int o9.1, .ref h_t_own, .ref h_t_levelAt, .ref h_t_itemAt, .ref h_t_times, .int t_at, .int t_ownLength, .int t_depth, .int t_deepest, .int t_letters, .int t_repeats, .int t_corrections, .int t_mostCorrections, .int t_place, .int t_reason])), (h_t_written, .inl (cC, 400, .inl o9.2))] := hD
    refine lv_aload_n hx hb dX11_opens_77 rfl (lv_at hl 2 rfl) ?_
    refine lv_iconst (v := (1 : Int32)) hx hb dX11_opens_78 (by decide) ?_
    refine lv_iload_n hx hb dX11_opens_79 rfl (lv_at hl 3 rfl) ?_
    refine lv_iload hx hb dX11_opens_80 (lv_at hl 0 rfl) ?_
    refine lv_iload hx hb dX11_opens_82 (lv_at hl 1 rfl) ?_
    refine lv_iload hx hb dX11_opens_84 (lv_at hl 0 rfl) ?_
    obtain ⟨c_10, hres⟩ := nz_of hres
    refine lv_idiv hx hb dX11_opens_86 c_10 ?_
    obtain ⟨o11, ho11, hres⟩ := bd_of hres
    have hPc := hP.sub (ws' := [(h_t, .inr (10, [.ref h_t_s, .ref h_t_was, .ref h_t_begun, .int t_states, .ref h_t_text, .int t_typed, .ref h_t_wrong, .ref h_t_cost, .ref h_t_first, .ref h_t_block, .ref h_t_many, .ref h_t_stack, .int o3.1, .ref h_t_written, .int o9.1, .ref h_t_own, .ref h_t_levelAt, .ref h_t_itemAt, .ref h_t_times, .int t_at, .int t_ownLength, .int t_depth, .int t_deepest, .int t_letters, .int t_repeats, .int t_corrections, .int t_mostCorrections, .int t_place, .int t_reason])), (h_t_stack, .inl (cI, 400, .inl o3.2))]) [4, 3] rfl
    have hDc := hD.sub (ws' := [(h_t, .inr (10, [.ref h_t_s, .ref h_t_was, .ref h_t_begun, .int t_states, .ref h_t_text, .int t_typed, .ref h_t_wrong, .ref h_t_cost, .ref h_t_first, .ref h_t_block, .ref h_t_many, .ref h_t_stack, .int o3.1, .ref h_t_written, .int o9.1, .ref h_t_own, .ref h_t_levelAt, .ref h_t_itemAt, .ref h_t_times, .int t_at, .int t_ownLength, .int t_depth, .int t_deepest, .int t_letters, .int t_repeats, .int t_corrections, .int t_mostCorrections, .int t_place, .int t_reason])), (h_t_stack, .inl (cI, 400, .inl o3.2))]) [4, 3] (by decide) rfl
    have hFc := va_free (wc := [(h_t, .inr (10, [.ref h_t_s, .ref h_t_was, .ref h_t_begun, .int t_states, .ref h_t_text, .int t_typed, .ref h_t_wrong, .ref h_t_cost, .ref h_t_first, .ref h_t_block, .ref h_t_many, .ref h_t_stack, .int o3.1, .ref h_t_written, .int o9.1, .ref h_t_own, .ref h_t_levelAt, .ref h_t_itemAt, .ref h_t_times, .int t_at, .int t_ownLength, .int t_depth, .int t_deepest, .int t_letters, .int t_repeats, .int t_corrections, .int t_mostCorrections, .int t_place, .int t_reason])), (h_t_stack, .inl (cI, 400, .inl o3.2))]) hD hS hA [4, 3] rfl
    refine va_callv (va_runV (As := [.int (1 : Int32), .int x1, .int (rd t_block o5), .int ((rd t_first o1) / (rd t_block o5))]) (rest := []) ⟨hx, hb, hml, hown, hts⟩ (cMD_puts l dC dI cI cJ cC cS h_t h_t_s h_t_was h_t_begun h_t_text h_t_wrong h_t_cost h_t_first h_t_block h_t_many h_t_stack h_t_written h_t_own h_t_levelAt h_t_itemAt h_t_times H.size t_states t_typed o3.1 o9.1 t_at t_ownLength t_depth t_deepest t_letters t_repeats t_corrections t_mostCorrections t_place t_reason o3.2 (1 : Int32) x1 (rd t_block o5) ((rd t_first o1) / (rd t_block o5)) o11.1 o11.2 ho11) (cwV 4 hts gX11_opens_X11_puts rfl rfl rfl (by decide +kernel) ⟨Nat.le_of_ble_eq_true rfl, Nat.le_of_ble_eq_true rfl⟩) ⟨fun a U g mk q => by obtain ⟨q0, q1, qP, qK, qN, qD⟩ := q; exact ⟨q0, q1, qP, va_K.moved (u := U) (U := U.calling g mk a) (Vm.Alike.refl U.vm) qK, nwS (u := U) (U := U.calling g mk a) rfl qN, qD⟩, va_recv hK hPc (ci := 10) (q0 := 0) rfl rfl, fun U hU hW => ⟨rfl, by rw [hU], by rw [hU]; exact hPc, va_K.moved hW.alike hK, nwW hW hN, hDc.weaken (fun _ _ _ _ => trivial)⟩⟩ rfl rfl hl.1 rfl (lv_room (Nat.le_of_ble_eq_true rfl)) dX11_opens_87 ⟨Nat.zero_le _, Nat.zero_le _⟩) hS (fun q _ h => hFc q h) hFc (fun u9 t H1 locs ht hvm hw hB hz1 hk1 hS => ?_)
    obtain ⟨hP1, hK1, hD1⟩ := hB
    rw [ht] at hP1
    obtain ⟨hP, hD⟩ := va_join (wr := [(h_t_block, .inl (cI, 3125, .inl t_block)), (h_t_first, .inl (cI, 3125, .inl t_first)), (h_t_s, .inl (cI, 30, .inl t_s)), (h_t_written, .inl (cC, 400, .inl o9.2))]) (w1 := [(h_t, .inr (10, [.ref h_t_s, .ref h_t_was, .ref h_t_begun, .int t_states, .ref h_t_text, .int t_typed, .ref h_t_wrong, .ref h_t_cost, .ref h_t_first, .ref h_t_block, .ref h_t_many, .ref h_t_stack, .int o11.1, .ref h_t_written, .int o9.1, .ref h_t_own, .ref h_t_levelAt, .ref h_t_itemAt, .ref h_t_times, .int t_at, .int t_ownLength, .int t_depth, .int t_deepest, .int t_letters, .int t_repeats, .int t_corrections, .int t_mostCorrections, .int t_place, .int t_reason])), (h_t_stack, .inl (cI, 400, .inl o11.2))]) hP hD [4, 3] [0, 1, 2, 5] rfl rfl (by decide) (by decide) hk1 hFc hP1 hD1
    generalize H1 = H at hP hS ⊢
    have hP : va_P (dC, dI) vwCl [(h_t_block, .inl (cI, 3125, .inl t_block)), (h_t_first, .inl (cI, 3125, .inl t_first)), (h_t_s, .inl (cI, 30, .inl t_s)), (h_t_written, .inl (cC, 400, .inl o9.2)), (h_t, .inr (10, [.ref h_t_s, .ref h_t_was, .ref h_t_begun, .int t_states, .ref h_t_text, .int t_typed, .ref h_t_wrong, .ref h_t_cost, .ref h_t_first, .ref h_t_block, .ref h_t_many, .ref h_t_stack, .int o11.1, .ref h_t_written, .int o9.1, .ref h_t_own, .ref h_t_levelAt, .ref h_t_itemAt, .ref h_t_times, .int t_at, .int t_ownLength, .int t_depth, .int t_deepest, .int t_letters, .int t_repeats, .int t_corrections, .int t_mostCorrections, .int t_place, .int t_reason])), (h_t_stack, .inl (cI, 400, .inl o11.2))] H := hP
    have hD : va_D A [(h_t_block, .inl (cI, 3125, .inl t_block)), (h_t_first, .inl (cI, 3125, .inl t_first)), (h_t_s, .inl (cI, 30, .inl t_s)), (h_t_written, .inl (cC, 400, .inl o9.2)), (h_t, .inr (10, [.ref h_t_s, .ref h_t_was, .ref h_t_begun, .int t_states, .ref h_t_text, .int t_typed, .ref h_t_wrong, .ref h_t_cost, .ref h_t_first, .ref h_t_block, .ref h_t_many, .ref h_t_stack, .int o11.1, .ref h_t_written, .int o9.1, .ref h_t_own, .ref h_t_levelAt, .ref h_t_itemAt, .ref h_t_times, .int t_at, .int t_ownLength, .int t_depth, .int t_deepest, .int t_letters, .int t_repeats, .int t_corrections, .int t_mostCorrections, .int t_place, .int t_reason])), (h_t_stack, .inl (cI, 400, .inl o11.2))] := hD
    refine lv_aload_n hx hb dX11_opens_90 rfl (lv_at hl 2 rfl) ?_
    refine lv_iconst (v := (0 : Int32)) hx hb dX11_opens_91 (by decide) ?_
    refine lv_iload_n hx hb dX11_opens_92 rfl (lv_at hl 3 rfl) ?_
    refine lv_iload_n hx hb dX11_opens_93 rfl (lv_at hl 3 rfl) ?_
    refine lv_iload hx hb dX11_opens_94 (lv_at hl 0 rfl) ?_
    refine lv_iadd hx hb dX11_opens_96 ?_
    refine lv_iload_n hx hb dX11_opens_97 rfl (lv_at hl 5 rfl) ?_
    refine lv_iconst (v := (1 : Int32)) hx hb dX11_opens_98 (by decide) ?_
    refine lv_isub hx hb dX11_opens_99 ?_
    obtain ⟨o12, ho12, hres⟩ := bd_of hres
    have hPc := hP.sub (ws' := [(h_t, .inr (10, [.ref h_t_s, .ref h_t_was, .ref h_t_begun, .int t_states, .ref h_t_text, .int t_typed, .ref h_t_wrong, .ref h_t_cost, .ref h_t_first, .ref h_t_block, .ref h_t_many, .ref h_t_stack, .int o11.1, .ref h_t_written, .int o9.1, .ref h_t_own, .ref h_t_levelAt, .ref h_t_itemAt, .ref h_t_times, .int t_at, .int t_ownLength, .int t_depth, .int t_deepest, .int t_letters, .int t_repeats, .int t_corrections, .int t_mostCorrections, .int t_place, .int t_reason])), (h_t_stack, .inl (cI, 400, .inl o11.2))]) [4, 5] rfl
    have hDc := hD.sub (ws' := [(h_t, .inr (10, [.ref h_t_s, .ref h_t_was, .ref h_t_begun, .int t_states, .ref h_t_text, .int t_typed, .ref h_t_wrong, .ref h_t_cost, .ref h_t_first, .ref h_t_block, .ref h_t_many, .ref h_t_stack, .int o11.1, .ref h_t_written, .int o9.1, .ref h_t_own, .ref h_t_levelAt, .ref h_t_itemAt, .ref h_t_times, .int t_at, .int t_ownLength, .int t_depth, .int t_deepest, .int t_letters, .int t_repeats, .int t_corrections, .int t_mostCorrections, .int t_place, .int t_reason])), (h_t_stack, .inl (cI, 400, .inl o11.2))]) [4, 5] (by decide) rfl
    have hFc := va_free (wc := [(h_t, .inr (10, [.ref h_t_s, .ref h_t_was, .ref h_t_begun, .int t_states, .ref h_t_text, .int t_typed, .ref h_t_wrong, .ref h_t_cost, .ref h_t_first, .ref h_t_block, .ref h_t_many, .ref h_t_stack, .int o11.1, .ref h_t_written, .int o9.1, .ref h_t_own, .ref h_t_levelAt, .ref h_t_itemAt, .ref h_t_times, .int t_at, .int t_ownLength, .int t_depth, .int t_deepest, .int t_letters, .int t_repeats, .int t_corrections, .int t_mostCorrections, .int t_place, .int t_reason])), (h_t_stack, .inl (cI, 400, .inl o11.2))]) hD hS hA [4, 5] rfl
    refine va_callv (va_runV (As := [.int (0 : Int32), .int x1, .int (x1 + (rd t_block o5)), .int (x3 - (1 : Int32))]) (rest := []) ⟨hx, hb, hml, hown, hts⟩ (cMD_puts l dC dI cI cJ cC cS h_t h_t_s h_t_was h_t_begun h_t_text h_t_wrong h_t_cost h_t_first h_t_block h_t_many h_t_stack h_t_written h_t_own h_t_levelAt h_t_itemAt h_t_times H.size t_states t_typed o11.1 o9.1 t_at t_ownLength t_depth t_deepest t_letters t_repeats t_corrections t_mostCorrections t_place t_reason o11.2 (0 : Int32) x1 (x1 + (rd t_block o5)) (x3 - (1 : Int32)) o12.1 o12.2 ho12) (cwV 4 hts gX11_opens_X11_puts rfl rfl rfl (by decide +kernel) ⟨Nat.le_of_ble_eq_true rfl, Nat.le_of_ble_eq_true rfl⟩) ⟨fun a U g mk q => by obtain ⟨q0, q1, qP, qK, qN, qD⟩ := q; exact ⟨q0, q1, qP, va_K.moved (u := U) (U := U.calling g mk a) (Vm.Alike.refl U.vm) qK, nwS (u := U) (U := U.calling g mk a) rfl qN, qD⟩, va_recv hK hPc (ci := 10) (q0 := 0) rfl rfl, fun U hU hW => ⟨rfl, by rw [hU], by rw [hU]; exact hPc, va_K.moved hW.alike hK, nwW hW hN, hDc.weaken (fun _ _ _ _ => trivial)⟩⟩ rfl rfl hl.1 rfl (lv_room (Nat.le_of_ble_eq_true rfl)) dX11_opens_100 ⟨Nat.zero_le _, Nat.zero_le _⟩) hS (fun q _ h => hFc q h) hFc (fun u9 t H1 locs ht hvm hw hB hz1 hk1 hS => ?_)
    obtain ⟨hP1, hK1, hD1⟩ := hB
    rw [ht] at hP1
    obtain ⟨hP, hD⟩ := va_join (wr := [(h_t_block, .inl (cI, 3125, .inl t_block)), (h_t_first, .inl (cI, 3125, .inl t_first)), (h_t_s, .inl (cI, 30, .inl t_s)), (h_t_written, .inl (cC, 400, .inl o9.2))]) (w1 := [(h_t, .inr (10, [.ref h_t_s, .ref h_t_was, .ref h_t_begun, .int t_states, .ref h_t_text, .int t_typed, .ref h_t_wrong, .ref h_t_cost, .ref h_t_first, .ref h_t_block, .ref h_t_many, .ref h_t_stack, .int o12.1, .ref h_t_written, .int o9.1, .ref h_t_own, .ref h_t_levelAt, .ref h_t_itemAt, .ref h_t_times, .int t_at, .int t_ownLength, .int t_depth, .int t_deepest, .int t_letters, .int t_repeats, .int t_corrections, .int t_mostCorrections, .int t_place, .int t_reason])), (h_t_stack, .inl (cI, 400, .inl o12.2))]) hP hD [4, 5] [0, 1, 2, 3] rfl rfl (by decide) (by decide) hk1 hFc hP1 hD1
    generalize H1 = H at hP hS ⊢
    have hP : va_P (dC, dI) vwCl [(h_t_block, .inl (cI, 3125, .inl t_block)), (h_t_first, .inl (cI, 3125, .inl t_first)), (h_t_s, .inl (cI, 30, .inl t_s)), (h_t_written, .inl (cC, 400, .inl o9.2)), (h_t, .inr (10, [.ref h_t_s, .ref h_t_was, .ref h_t_begun, .int t_states, .ref h_t_text, .int t_typed, .ref h_t_wrong, .ref h_t_cost, .ref h_t_first, .ref h_t_block, .ref h_t_many, .ref h_t_stack, .int o12.1, .ref h_t_written, .int o9.1, .ref h_t_own, .ref h_t_levelAt, .ref h_t_itemAt, .ref h_t_times, .int t_at, .int t_ownLength, .int t_depth, .int t_deepest, .int t_letters, .int t_repeats, .int t_corrections, .int t_mostCorrections, .int t_place, .int t_reason])), (h_t_stack, .inl (cI, 400, .inl o12.2))] H := hP
    have hD : va_D A [(h_t_block, .inl (cI, 3125, .inl t_block)), (h_t_first, .inl (cI, 3125, .inl t_first)), (h_t_s, .inl (cI, 30, .inl t_s)), (h_t_written, .inl (cC, 400, .inl o9.2)), (h_t, .inr (10, [.ref h_t_s, .ref h_t_was, .ref h_t_begun, .int t_states, .ref h_t_text, .int t_typed, .ref h_t_wrong, .ref h_t_cost, .ref h_t_first, .ref h_t_block, .ref h_t_many, .ref h_t_stack, .int o12.1, .ref h_t_written, .int o9.1, .ref h_t_own, .ref h_t_levelAt, .ref h_t_itemAt, .ref h_t_times, .int t_at, .int t_ownLength, .int t_depth, .int t_deepest, .int t_letters, .int t_repeats, .int t_corrections, .int t_mostCorrections, .int t_place, .int t_reason])), (h_t_stack, .inl (cI, 400, .inl o12.2))] := hD
    obtain ⟨e9_0, e9_1, e9_2, e9_3⟩ := tup4 hres
    subst e9_0
    subst e9_1
    subst e9_2
    subst e9_3
    rw [← hQQ]
    exact W.vret hx hb hr (fun t ht hW => ⟨⟨(), rfl, trivial, by rw [ht]; exact hP.sub [4, 0, 1, 2, 5, 3] rfl, va_K.moved hW.alike hK, hD.sub [4, 0, 1, 2, 5, 3] (by decide) rfl⟩, hS.F ht⟩) hS.2.2 dX11_opens_103
  · have hres := it_of hres c_4
    refine lv_aload_n hx hb dX11_opens_30 rfl (lv_at hl 1 rfl) ?_
    refine lv_bipush (v := (97 : Int32)) hx hb dX11_opens_31 (by decide) ?_
    refine lv_aload_n hx hb dX11_opens_33 rfl (lv_at hl 1 rfl) ?_
    refine va_get (D := (dC, dI)) (ci := 10) (v := .ref h_t_s) (C := RX11) (T := TX11) (N := 29) hx hb hts iMD_opens_X11_opens_1 hown hK hP 4 rfl rfl 0 (by decide) (hts _ kMD_opens_X11_opens_3) (fun _ h9 => h9) rfl dX11_opens_34 ?_
    refine lv_bipush (v := (6 : Int32)) hx hb dX11_opens_37 (by decide) ?_
    refine lv_iload_n hx hb dX11_opens_39 rfl (lv_at hl 2 rfl) ?_
    refine lv_iadd hx hb dX11_opens_40 ?_
    obtain ⟨c_13, hres⟩ := ck_of hres
    refine va_iald hx hb hK hP 2 0 rfl rfl c_13 dX11_opens_41 ?_
    refine lv_iadd hx hb dX11_opens_42 ?_
    obtain ⟨o14, ho14, hres⟩ := bd_of hres
    have hPc := hP.sub (ws' := [(h_t, .inr (10, [.ref h_t_s, .ref h_t_was, .ref h_t_begun, .int t_states, .ref h_t_text, .int t_typed, .ref h_t_wrong, .ref h_t_cost, .ref h_t_first, .ref h_t_block, .ref h_t_many, .ref h_t_stack, .int o3.1, .ref h_t_written, .int t_length, .ref h_t_own, .ref h_t_levelAt, .ref h_t_itemAt, .ref h_t_times, .int t_at, .int t_ownLength, .int t_depth, .int t_deepest, .int t_letters, .int t_repeats, .int t_corrections, .int t_mostCorrections, .int t_place, .int t_reason])), (h_t_written, .inl (cC, 400, .inl t_written))]) [4, 3] rfl
    have hDc := hD.sub (ws' := [(h_t, .inr (10, [.ref h_t_s, .ref h_t_was, .ref h_t_begun, .int t_states, .ref h_t_text, .int t_typed, .ref h_t_wrong, .ref h_t_cost, .ref h_t_first, .ref h_t_block, .ref h_t_many, .ref h_t_stack, .int o3.1, .ref h_t_written, .int t_length, .ref h_t_own, .ref h_t_levelAt, .ref h_t_itemAt, .ref h_t_times, .int t_at, .int t_ownLength, .int t_depth, .int t_deepest, .int t_letters, .int t_repeats, .int t_corrections, .int t_mostCorrections, .int t_place, .int t_reason])), (h_t_written, .inl (cC, 400, .inl t_written))]) [4, 3] (by decide) rfl
    have hFc := va_free (wc := [(h_t, .inr (10, [.ref h_t_s, .ref h_t_was, .ref h_t_begun, .int t_states, .ref h_t_text, .int t_typed, .ref h_t_wrong, .ref h_t_cost, .ref h_t_first, .ref h_t_block, .ref h_t_many, .ref h_t_stack, .int o3.1, .ref h_t_written, .int t_length, .ref h_t_own, .ref h_t_levelAt, .ref h_t_itemAt, .ref h_t_times, .int t_at, .int t_ownLength, .int t_depth, .int t_deepest, .int t_letters, .int t_repeats, .int t_corrections, .int t_mostCorrections, .int t_place, .int t_reason])), (h_t_written, .inl (cC, 400, .inl t_written))]) hD hS hA [4, 3] rfl
    refine va_callv (va_runV (As := [.int ((97 : Int32) + (rd t_s ((6 : Int32) + x1)))]) (rest := []) ⟨hx, hb, hml, hown, hts⟩ (cMD_writes l dC dI cI cJ cC cS h_t h_t_s h_t_was h_t_begun h_t_text h_t_wrong h_t_cost h_t_first h_t_block h_t_many h_t_stack h_t_written h_t_own h_t_levelAt h_t_itemAt h_t_times H.size t_states t_typed o3.1 t_length t_at t_ownLength t_depth t_deepest t_letters t_repeats t_corrections t_mostCorrections t_place t_reason t_written ((97 : Int32) + (rd t_s ((6 : Int32) + x1))) o14.1 o14.2 ho14) (cwV 1 hts gX11_opens_X11_writes rfl rfl rfl (by decide +kernel) ⟨Nat.le_of_ble_eq_true rfl, Nat.le_of_ble_eq_true rfl⟩) ⟨fun a U g mk q => by obtain ⟨q0, q1, qP, qK, qN, qD⟩ := q; exact ⟨q0, q1, qP, va_K.moved (u := U) (U := U.calling g mk a) (Vm.Alike.refl U.vm) qK, nwS (u := U) (U := U.calling g mk a) rfl qN, qD⟩, va_recv hK hPc (ci := 10) (q0 := 0) rfl rfl, fun U hU hW => ⟨rfl, by rw [hU], by rw [hU]; exact hPc, va_K.moved hW.alike hK, nwW hW hN, hDc.weaken (fun _ _ _ _ => trivial)⟩⟩ rfl rfl hl.1 rfl (lv_room (Nat.le_of_ble_eq_true rfl)) dX11_opens_43 ⟨Nat.zero_le _, Nat.zero_le _⟩) hS (fun q _ h => hFc q h) hFc (fun u9 t H1 locs ht hvm hw hB hz1 hk1 hS => ?_)
    obtain ⟨hP1, hK1, hD1⟩ := hB
    rw [ht] at hP1
    obtain ⟨hP, hD⟩ := va_join (wr := [(h_t_block, .inl (cI, 3125, .inl t_block)), (h_t_first, .inl (cI, 3125, .inl t_first)), (h_t_s, .inl (cI, 30, .inl t_s)), (h_t_stack, .inl (cI, 400, .inl o3.2))]) (w1 := [(h_t, .inr (10, [.ref h_t_s, .ref h_t_was, .ref h_t_begun, .int t_states, .ref h_t_text, .int t_typed, .ref h_t_wrong, .ref h_t_cost, .ref h_t_first, .ref h_t_block, .ref h_t_many, .ref h_t_stack, .int o3.1, .ref h_t_written, .int o14.1, .ref h_t_own, .ref h_t_levelAt, .ref h_t_itemAt, .ref h_t_times, .int t_at, .int t_ownLength, .int t_depth, .int t_deepest, .int t_letters, .int t_repeats, .int t_corrections, .int t_mostCorrections, .int t_place, .int t_reason])), (h_t_written, .inl (cC, 400, .inl o14.2))]) hP hD [4, 3] [0, 1, 2, 5] rfl rfl (by decide) (by decide) hk1 hFc hP1 hD1
    generalize H1 = H at hP hS ⊢
    have hP : va_P (dC, dI) vwCl [(h_t_block, .inl (cI, 3125, .inl t_block)), (h_t_first, .inl (cI, 3125, .inl t_first)), (h_t_s, .inl (cI, 30, .inl t_s)), (h_t_stack, .inl (cI, 400, .inl o3.2)), (h_t, .inr (10, [.ref h_t_s, .ref h_t_was, .ref h_t_begun, .int t_states, .ref h_t_text, .int t_typed, .ref h_t_wrong, .ref h_t_cost, .ref h_t_first, .ref h_t_block, .ref h_t_many, .ref h_t_stack, .int o3.1, .ref h_t_written, .int o14.1, .ref h_t_own, .ref h_t_levelAt, .ref h_t_itemAt, .ref h_t_times, .int t_at, .int t_ownLength, .int t_depth, .int t_deepest, .int t_letters, .int t_repeats, .int t_corrections, .int t_mostCorrections, .int t_place, .int t_reason])), (h_t_written, .inl (cC, 400, .inl o14.2))] H := hP
    have hD : va_D A [(h_t_block, .inl (cI, 3125, .inl t_block)), (h_t_first, .inl (cI, 3125, .inl t_first)), (h_t_s, .inl (cI, 30, .inl t_s)), (h_t_stack, .inl (cI, 400, .inl o3.2)), (h_t, .inr (10, [.ref h_t_s, .ref h_t_was, .ref h_t_begun, .int t_states, .ref h_t_text, .int t_typed, .ref h_t_wrong, .ref h_t_cost, .ref h_t_first, .ref h_t_block, .ref h_t_many, .ref h_t_stack, .int o3.1, .ref h_t_written, .int o14.1, .ref h_t_own, .ref h_t_levelAt, .ref h_t_itemAt, .ref h_t_times, .int t_at, .int t_ownLength, .int t_depth, .int t_deepest, .int t_letters, .int t_repeats, .int t_corrections, .int t_mostCorrections, .int t_place, .int t_reason])), (h_t_written, .inl (cC, 400, .inl o14.2))] := hD
    refine lv_goto (tgt := 103) hx hb dX11_opens_46 (by decide) ?_
    obtain ⟨e9_0, e9_1, e9_2, e9_3⟩ := tup4 hres
    subst e9_0
    subst e9_1
    subst e9_2
    subst e9_3
    rw [← hQQ]
    exact W.vret hx hb hr (fun t ht hW => ⟨⟨(), rfl, trivial, by rw [ht]; exact hP.sub [4, 0, 1, 2, 3, 5] rfl, va_K.moved hW.alike hK, hD.sub [4, 0, 1, 2, 3, 5] (by decide) rfl⟩, hS.F ht⟩) hS.2.2 dX11_opens_103

-- MD_describes
def fMD_describes_23 (t_block : Nat → Int32) (t_first : Nat → Int32) (t_s : Nat → Int32) : Nat → Int32 → Int32 → (Nat → Int32) → (Nat → Int32) → Option (Int32 × Int32 × (Nat → Int32) × (Nat → Int32))
  | 0, _, _, _, _ => none
  | n + 1, t_height, t_length, t_stack, t_written =>
    if t_height ≤ 0 then
      some (t_height, t_length, t_stack, t_written)
    else
      if bIn (((4 : Int32) * (t_height - (1 : Int32))) + (1 : Int32)) 400 = true then
        if bIn (((4 : Int32) * (t_height - (1 : Int32))) + (2 : Int32)) 400 = true then
          if bIn (((4 : Int32) * (t_height - (1 : Int32))) + (3 : Int32)) 400 = true then
            if bIn ((4 : Int32) * (t_height - (1 : Int32))) 400 = true then
              if (rd t_stack ((4 : Int32) * (t_height - (1 : Int32)))) = (1 : Int32) then
                (fMD_ends t_s t_length t_written (rd t_stack (((4 : Int32) * (t_height - (1 : Int32))) + (1 : Int32))) (rd t_stack (((4 : Int32) * (t_height - (1 : Int32))) + (2 : Int32))) (rd t_stack (((4 : Int32) * (t_height - (1 : Int32))) + (3 : Int32)))).bind fun o9 =>
                  fMD_describes_23 t_block t_first t_s n (t_height - (1 : Int32)) o9.1 t_stack o9.2
              else
                if (rd t_stack (((4 : Int32) * (t_height - (1 : Int32))) + (2 : Int32))) ≤ (rd t_stack (((4 : Int32) * (t_height - (1 : Int32))) + (1 : Int32))) then
                  fMD_describes_23 t_block t_first t_s n (t_height - (1 : Int32)) t_length t_stack t_written
                else
                  (fMD_opens t_block t_first t_s (t_height - (1 : Int32)) t_length t_stack t_written (rd t_stack (((4 : Int32) * (t_height - (1 : Int32))) + (1 : Int32))) (rd t_stack (((4 : Int32) * (t_height - (1 : Int32))) + (2 : Int32))) (rd t_stack (((4 : Int32) * (t_height - (1 : Int32))) + (3 : Int32)))).bind fun o8 =>
                    fMD_describes_23 t_block t_first t_s n o8.1 o8.2.1 o8.2.2.1 o8.2.2.2
            else none
          else none
        else none
      else none
def fMD_describes (t_block : Nat → Int32) (t_first : Nat → Int32) (t_s : Nat → Int32) (t_stack : Nat → Int32) (t_written : Nat → Int32) (x1 : Int32) (x2 : Int32) : Option (Int32 × Int32 × (Nat → Int32) × (Nat → Int32)) :=
  (fMD_puts (0 : Int32) t_stack (0 : Int32) x1 x2 (rd t_s (5 : Int32))).bind fun o10 =>
    fMD_describes_23 t_block t_first t_s FU o10.1 (0 : Int32) o10.2 t_written
theorem kMD_describes_X11_describes_0 : Cond.fieldLink RX11 112 "RepeatNestsModel" "height" "I" ∈ wsX11_describes := by decide +kernel
theorem iMD_describes_X11_describes_1 : ∀ w ∈ wsX110, w ∈ wsX11_describes := by decide +kernel
theorem kMD_describes_X11_describes_2 : Cond.fieldLink RX11 39 "RepeatNestsModel" "stack" "[I" ∈ wsX11_describes := by decide +kernel
theorem kMD_describes_X11_describes_3 : Cond.fieldLink RX11 105 "RepeatNestsModel" "length" "I" ∈ wsX11_describes := by decide +kernel
theorem kMD_describes_X11_describes_4 : Cond.fieldLink RX11 7 "RepeatNestsModel" "s" "[I" ∈ wsX11_describes := by decide +kernel
set_option maxHeartbeats 4000000 in
set_option maxRecDepth 100000 in
theorem cMD_describes (l : Launch) (dC : Nat → ClassId) (dI : Nat → Nat → Nat) (cI cJ cC cS : ClassId) (h_t h_t_s h_t_was h_t_begun h_t_text h_t_wrong h_t_cost h_t_first h_t_block h_t_many h_t_stack h_t_written h_t_own h_t_levelAt h_t_itemAt h_t_times : Nat) (sz : Nat) (t_states : Int32) (t_typed : Int32) (t_height : Int32) (t_length : Int32) (t_at : Int32) (t_ownLength : Int32) (t_depth : Int32) (t_deepest : Int32) (t_letters : Int32) (t_repeats : Int32) (t_corrections : Int32) (t_mostCorrections : Int32) (t_place : Int32) (t_reason : Int32) (t_block : Nat → Int32) (t_first : Nat → Int32) (t_s : Nat → Int32) (t_stack : Nat → Int32) (t_written : Nat → Int32) (x1 : Int32) (x2 : Int32) (y_t_height : Int32) (y_t_length : Int32) (y_t_stack : Nat → Int32) (y_t_written : Nat → Int32) (hres : fMD_describes t_block t_first t_s t_stack t_written x1 x2 = some (y_t_height, y_t_length, y_t_stack, y_t_written)) :
    Met l yX11_describes wsX11_describes ({ frames := 3, cells := 0, slots := 0, locals := 67 } : Room) (va_Pc [.ref h_t, .int x1, .int x2] (fun (U : State) => U.heap.size = sz ∧ va_P (dC, dI) vwCl [(h_t, .inr (10, [.ref h_t_s, .ref h_t_was, .ref h_t_begun, .int t_states, .ref h_t_text, .int t_typed, .ref h_t_wrong, .ref h_t_cost, .ref h_t_first, .ref h_t_block, .ref h_t_many, .ref h_t_stack, .int t_height, .ref h_t_written, .int t_length, .ref h_t_own, .ref h_t_levelAt, .ref h_t_itemAt, .ref h_t_times, .int t_at, .int t_ownLength, .int t_depth, .int t_deepest, .int t_letters, .int t_repeats, .int t_corrections, .int t_mostCorrections, .int t_place, .int t_reason])), (h_t_block, .inl (cI, 3125, .inl t_block)), (h_t_first, .inl (cI, 3125, .inl t_first)), (h_t_s, .inl (cI, 30, .inl t_s)), (h_t_stack, .inl (cI, 400, .inl t_stack)), (h_t_written, .inl (cC, 400, .inl t_written))] U.heap ∧ va_K (dC, dI) vwCl (tyA cI cJ cC cS) U ∧ nwN U ∧ va_D (fun _ => True) [(h_t, .inr (10, [.ref h_t_s, .ref h_t_was, .ref h_t_begun, .int t_states, .ref h_t_text, .int t_typed, .ref h_t_wrong, .ref h_t_cost, .ref h_t_first, .ref h_t_block, .ref h_t_many, .ref h_t_stack, .int t_height, .ref h_t_written, .int t_length, .ref h_t_own, .ref h_t_levelAt, .ref h_t_itemAt, .ref h_t_times, .int t_at, .int t_ownLength, .int t_depth, .int t_deepest, .int t_letters, .int t_repeats, .int t_corrections, .int t_mostCorrections, .int t_place, .int t_reason])), (h_t_block, .inl (cI, 3125, .inl t_block)), (h_t_first, .inl (cI, 3125, .inl t_first)), (h_t_s, .inl (cI, 30, .inl t_s)), (h_t_stack, .inl (cI, 400, .inl t_stack)), (h_t_written, .inl (cC, 400, .inl t_written))])) (va_Qv (fun (_ : Unit) => True) (fun (_ : Unit) (t : State) => va_P (dC, dI) vwCl [(h_t, .inr (10, [.ref h_t_s, .ref h_t_was, .ref h_t_begun, .int t_states, .ref h_t_text, .int t_typed, .ref h_t_wrong, .ref h_t_cost, .ref h_t_first, .ref h_t_block, .ref h_t_many, .ref h_t_stack, .int y_t_height, .ref h_t_written, .int y_t_length, .ref h_t_own, .ref h_t_levelAt, .ref h_t_itemAt, .ref h_t_times, .int t_at, .int t_ownLength, .int t_depth, .int t_deepest, .int t_letters, .int t_repeats, .int t_corrections, .int t_mostCorrections, .int t_place, .int t_reason])), (h_t_block, .inl (cI, 3125, .inl t_block)), (h_t_first, .inl (cI, 3125, .inl t_first)), (h_t_s, .inl (cI, 30, .inl t_s)), (h_t_stack, .inl (cI, 400, .inl y_t_stack)), (h_t_written, .inl (cC, 400, .inl y_t_written))] t.heap ∧ va_K (dC, dI) vwCl (tyA cI cJ cC cS) t ∧ va_D (va_A [(h_t, .inr (10, [.ref h_t_s, .ref h_t_was, .ref h_t_begun, .int t_states, .ref h_t_text, .int t_typed, .ref h_t_wrong, .ref h_t_cost, .ref h_t_first, .ref h_t_block, .ref h_t_many, .ref h_t_stack, .int t_height, .ref h_t_written, .int t_length, .ref h_t_own, .ref h_t_levelAt, .ref h_t_itemAt, .ref h_t_times, .int t_at, .int t_ownLength, .int t_depth, .int t_deepest, .int t_letters, .int t_repeats, .int t_corrections, .int t_mostCorrections, .int t_place, .int t_reason])), (h_t_block, .inl (cI, 3125, .inl t_block)), (h_t_first, .inl (cI, 3125, .inl t_first)), (h_t_s, .inl (cI, 30, .inl t_s)), (h_t_stack, .inl (cI, 400, .inl t_stack)), (h_t_written, .inl (cC, 400, .inl t_written))] sz) [(h_t, .inr (10, [.ref h_t_s, .ref h_t_was, .ref h_t_begun, .int t_states, .ref h_t_text, .int t_typed, .ref h_t_wrong, .ref h_t_cost, .ref h_t_first, .ref h_t_block, .ref h_t_many, .ref h_t_stack, .int y_t_height, .ref h_t_written, .int y_t_length, .ref h_t_own, .ref h_t_levelAt, .ref h_t_itemAt, .ref h_t_times, .int t_at, .int t_ownLength, .int t_depth, .int t_deepest, .int t_letters, .int t_repeats, .int t_corrections, .int t_mostCorrections, .int t_place, .int t_reason])), (h_t_block, .inl (cI, 3125, .inl t_block)), (h_t_first, .inl (cI, 3125, .inl t_first)), (h_t_s, .inl (cI, 30, .inl t_s)), (h_t_stack, .inl (cI, 400, .inl y_t_stack)), (h_t_written, .inl (cC, 400, .inl y_t_written))]) (va_A [(h_t, .inr (10, [.ref h_t_s, .ref h_t_was, .ref h_t_begun, .int t_states, .ref h_t_text, .int t_typed, .ref h_t_wrong, .ref h_t_cost, .ref h_t_first, .ref h_t_block, .ref h_t_many, .ref h_t_stack, .int t_height, .ref h_t_written, .int t_length, .ref h_t_own, .ref h_t_levelAt, .ref h_t_itemAt, .ref h_t_times, .int t_at, .int t_ownLength, .int t_depth, .int t_deepest, .int t_letters, .int t_repeats, .int t_corrections, .int t_mostCorrections, .int t_place, .int t_reason])), (h_t_block, .inl (cI, 3125, .inl t_block)), (h_t_first, .inl (cI, 3125, .inl t_first)), (h_t_s, .inl (cI, 30, .inl t_s)), (h_t_stack, .inl (cI, 400, .inl t_stack)), (h_t_written, .inl (cC, 400, .inl t_written))] sz)) 0 0 (va_A [(h_t, .inr (10, [.ref h_t_s, .ref h_t_was, .ref h_t_begun, .int t_states, .ref h_t_text, .int t_typed, .ref h_t_wrong, .ref h_t_cost, .ref h_t_first, .ref h_t_block, .ref h_t_many, .ref h_t_stack, .int t_height, .ref h_t_written, .int t_length, .ref h_t_own, .ref h_t_levelAt, .ref h_t_itemAt, .ref h_t_times, .int t_at, .int t_ownLength, .int t_depth, .int t_deepest, .int t_letters, .int t_repeats, .int t_corrections, .int t_mostCorrections, .int t_place, .int t_reason])), (h_t_block, .inl (cI, 3125, .inl t_block)), (h_t_first, .inl (cI, 3125, .inl t_first)), (h_t_s, .inl (cI, 30, .inl t_s)), (h_t_stack, .inl (cI, 400, .inl t_stack)), (h_t_written, .inl (cC, 400, .inl t_written))] sz) := by
  refine Met.ofW (cc := cX11_describes) (maxL := 6) (ret := none) (by decide) rfl ?_
  intro p e s m args below meth c s₁ B hml hv
  obtain ⟨hargs, hsz, hP, hK, hN, hD0⟩ := hv
  have hx := B.exec
  have hb := B.bytes
  have hr := B.returns
  have hts := atoms_spec (ws := wsX11_describes) B.pre
  have hown : s.vm.findClass RX11 = some m.cls := findClass_of_methodNamed B.named
  have hlocks := B.notSynchronized
  subst hsz
  have hD := hD0.self (sz := s.heap.size)
  generalize hAe : va_A [(h_t, .inr (10, [.ref h_t_s, .ref h_t_was, .ref h_t_begun, .int t_states, .ref h_t_text, .int t_typed, .ref h_t_wrong, .ref h_t_cost, .ref h_t_first, .ref h_t_block, .ref h_t_many, .ref h_t_stack, .int t_height, .ref h_t_written, .int t_length, .ref h_t_own, .ref h_t_levelAt, .ref h_t_itemAt, .ref h_t_times, .int t_at, .int t_ownLength, .int t_depth, .int t_deepest, .int t_letters, .int t_repeats, .int t_corrections, .int t_mostCorrections, .int t_place, .int t_reason])), (h_t_block, .inl (cI, 3125, .inl t_block)), (h_t_first, .inl (cI, 3125, .inl t_first)), (h_t_s, .inl (cI, 30, .inl t_s)), (h_t_stack, .inl (cI, 400, .inl t_stack)), (h_t_written, .inl (cC, 400, .inl t_written))] s.heap.size = A at hD ⊢
  have hA : ∀ q : Nat, s.heap.size ≤ q → A q := fun q h => by rw [← hAe]; exact Or.inr h
  have hS : va_S A s.heap s.heap [] := va_S.rf
  have hP : va_P (dC, dI) vwCl [(h_t, .inr (10, [.ref h_t_s, .ref h_t_was, .ref h_t_begun, .int t_states, .ref h_t_text, .int t_typed, .ref h_t_wrong, .ref h_t_cost, .ref h_t_first, .ref h_t_block, .ref h_t_many, .ref h_t_stack, .int t_height, .ref h_t_written, .int t_length, .ref h_t_own, .ref h_t_levelAt, .ref h_t_itemAt, .ref h_t_times, .int t_at, .int t_ownLength, .int t_depth, .int t_deepest, .int t_letters, .int t_repeats, .int t_corrections, .int t_mostCorrections, .int t_place, .int t_reason])), (h_t_block, .inl (cI, 3125, .inl t_block)), (h_t_first, .inl (cI, 3125, .inl t_first)), (h_t_s, .inl (cI, 30, .inl t_s)), (h_t_stack, .inl (cI, 400, .inl t_stack)), (h_t_written, .inl (cC, 400, .inl t_written))] s.heap := hP
  have hl := lv_entry [.ref h_t, .int x1, .int x2] (n := 6) (Nat.le_of_ble_eq_true rfl)
  rw [show entryFrame m args 6 = entryFrame m ([.ref h_t, .int x1, .int x2] : List Value).toArray 6 from by rw [hargs], lg_entry_eq]
  generalize (lg_sl [.ref h_t, .int x1, .int x2] ++ List.replicate (6 - (lg_sl [.ref h_t, .int x1, .int x2]).length) Slot.unset).toArray = ls at hl ⊢
  have hl : lv_has ls 6 [(0, .ref h_t), (1, .int x1), (2, .int x2)] := hl
  generalize hQQ : MQ below (va_Qv (fun (_ : Unit) => True) (fun (_ : Unit) (t : State) => va_P (dC, dI) vwCl [(h_t, .inr (10, [.ref h_t_s, .ref h_t_was, .ref h_t_begun, .int t_states, .ref h_t_text, .int t_typed, .ref h_t_wrong, .ref h_t_cost, .ref h_t_first, .ref h_t_block, .ref h_t_many, .ref h_t_stack, .int y_t_height, .ref h_t_written, .int y_t_length, .ref h_t_own, .ref h_t_levelAt, .ref h_t_itemAt, .ref h_t_times, .int t_at, .int t_ownLength, .int t_depth, .int t_deepest, .int t_letters, .int t_repeats, .int t_corrections, .int t_mostCorrections, .int t_place, .int t_reason])), (h_t_block, .inl (cI, 3125, .inl t_block)), (h_t_first, .inl (cI, 3125, .inl t_first)), (h_t_s, .inl (cI, 30, .inl t_s)), (h_t_stack, .inl (cI, 400, .inl y_t_stack)), (h_t_written, .inl (cC, 400, .inl y_t_written))] t.heap ∧ va_K (dC, dI) vwCl (tyA cI cJ cC cS) t ∧ va_D A [(h_t, .inr (10, [.ref h_t_s, .ref h_t_was, .ref h_t_begun, .int t_states, .ref h_t_text, .int t_typed, .ref h_t_wrong, .ref h_t_cost, .ref h_t_first, .ref h_t_block, .ref h_t_many, .ref h_t_stack, .int y_t_height, .ref h_t_written, .int y_t_length, .ref h_t_own, .ref h_t_levelAt, .ref h_t_itemAt, .ref h_t_times, .int t_at, .int t_ownLength, .int t_depth, .int t_deepest, .int t_letters, .int t_repeats, .int t_corrections, .int t_mostCorrections, .int t_place, .int t_reason])), (h_t_block, .inl (cI, 3125, .inl t_block)), (h_t_first, .inl (cI, 3125, .inl t_first)), (h_t_s, .inl (cI, 30, .inl t_s)), (h_t_stack, .inl (cI, 400, .inl y_t_stack)), (h_t_written, .inl (cC, 400, .inl y_t_written))]) A) args s 0 0 A = QQ
  obtain ⟨H, hH⟩ : ∃ H : Heap, H = s.heap := ⟨_, rfl⟩
  obtain ⟨locs, hlocs⟩ : ∃ locs : List Loc, locs = [] := ⟨_, rfl⟩
  rw [← hH] at hP
  have hS : va_S A s.heap H locs := by rw [hH, hlocs]; exact hS
  suffices hZ : W p l e (headSpec wsX11_describes ({ frames := 3, cells := 0, slots := 0, locals := 67 } : Room)).room s m args below meth c H locs 0 0 QQ (F0 m 0 ls []) by rw [hH, hlocs] at hZ; exact hZ
  clear hH hlocs
  have hL23 : ∀ (n23 : Nat) , ∀ (t_height : Int32) (t_length : Int32) (t_stack : Nat → Int32) (t_written : Nat → Int32) (H : Heap) (locs : List Loc) (ls : Array Slot), fMD_describes_23 t_block t_first t_s n23 t_height t_length t_stack t_written = some (y_t_height, y_t_length, y_t_stack, y_t_written) → va_P (dC, dI) vwCl [(h_t, .inr (10, [.ref h_t_s, .ref h_t_was, .ref h_t_begun, .int t_states, .ref h_t_text, .int t_typed, .ref h_t_wrong, .ref h_t_cost, .ref h_t_first, .ref h_t_block, .ref h_t_many, .ref h_t_stack, .int t_height, .ref h_t_written, .int t_length, .ref h_t_own, .ref h_t_levelAt, .ref h_t_itemAt, .ref h_t_times, .int t_at, .int t_ownLength, .int t_depth, .int t_deepest, .int t_letters, .int t_repeats, .int t_corrections, .int t_mostCorrections, .int t_place, .int t_reason])), (h_t_block, .inl (cI, 3125, .inl t_block)), (h_t_first, .inl (cI, 3125, .inl t_first)), (h_t_s, .inl (cI, 30, .inl t_s)), (h_t_stack, .inl (cI, 400, .inl t_stack)), (h_t_written, .inl (cC, 400, .inl t_written))] H → va_D A [(h_t, .inr (10, [.ref h_t_s, .ref h_t_was, .ref h_t_begun, .int t_states, .ref h_t_text, .int t_typed, .ref h_t_wrong, .ref h_t_cost, .ref h_t_first, .ref h_t_block, .ref h_t_many, .ref h_t_stack, .int t_height, .ref h_t_written, .int t_length, .ref h_t_own, .ref h_t_levelAt, .ref h_t_itemAt, .ref h_t_times, .int t_at, .int t_ownLength, .int t_depth, .int t_deepest, .int t_letters, .int t_repeats, .int t_corrections, .int t_mostCorrections, .int t_place, .int t_reason])), (h_t_block, .inl (cI, 3125, .inl t_block)), (h_t_first, .inl (cI, 3125, .inl t_first)), (h_t_s, .inl (cI, 30, .inl t_s)), (h_t_stack, .inl (cI, 400, .inl t_stack)), (h_t_written, .inl (cC, 400, .inl t_written))] → va_S A s.heap H locs → lv_has ls 6 [(0, .ref h_t)] → W p l e (headSpec wsX11_describes ({ frames := 3, cells := 0, slots := 0, locals := 67 } : Room)).room s m args below meth c H locs 0 0 QQ (F0 m 23 ls []) := by
    intro n23
    induction n23 with
    | zero =>
      intro t_height t_length t_stack t_written H locs ls hres
      rw [fMD_describes_23] at hres
      cases hres
    | succ n23 ih23 =>
      intro t_height t_length t_stack t_written H locs ls hres hP hD hS hl
      rw [fMD_describes_23] at hres
      refine lv_aload_n hx hb dX11_describes_23 rfl (lv_at hl 0 rfl) ?_
      refine va_get (D := (dC, dI)) (ci := 10) (v := .int t_height) (C := RX11) (T := TX11) (N := 29) hx hb hts iMD_describes_X11_describes_1 hown hK hP 0 rfl rfl 12 (by decide) (hts _ kMD_describes_X11_describes_0) (fun _ h9 => h9) rfl dX11_describes_24 ?_
      refine lv_if_le (tgt := 129) hx hb dX11_describes_27 (by decide) (fun c_1 => ?_) (fun c_1 => ?_)
      · have hres := it_of hres c_1
        obtain ⟨e9_0, e9_1, e9_2, e9_3⟩ := tup4 hres
        subst e9_0
        subst e9_1
        subst e9_2
        subst e9_3
        rw [← hQQ]
        exact W.vret hx hb hr (fun t ht hW => ⟨⟨(), rfl, trivial, by rw [ht]; exact hP, va_K.moved hW.alike hK, hD⟩, hS.F ht⟩) hS.2.2 dX11_describes_129
      · have hres := ie_of hres c_1
        refine lv_aload_n hx hb dX11_describes_30 rfl (lv_at hl 0 rfl) ?_
        refine lv_dup hx hb dX11_describes_31 rfl ?_
        refine va_get (D := (dC, dI)) (ci := 10) (v := .int t_height) (C := RX11) (T := TX11) (N := 29) hx hb hts iMD_describes_X11_describes_1 hown hK hP 0 rfl rfl 12 (by decide) (hts _ kMD_describes_X11_describes_0) (fun _ h9 => h9) rfl dX11_describes_32 ?_
        refine lv_iconst (v := (1 : Int32)) hx hb dX11_describes_35 (by decide) ?_
        refine lv_isub hx hb dX11_describes_36 ?_
        refine va_put (D := (dC, dI)) (ci := 10) (v := .int (t_height - (1 : Int32))) (ty := .int) (C := RX11) (T := TX11) (N := 29) hx hb hts iMD_describes_X11_describes_1 tyX11 tyX11_ok nmX11 hown hK hP hD hS 0 rfl rfl 12 (by decide) (hts _ kMD_describes_X11_describes_0) (fun _ h9 => h9) rfl (by decide +kernel) rfl rfl (Nat.le_of_ble_eq_true rfl) dX11_describes_37 (fun H locs hP hD hS => ?_)
        have hP : va_P (dC, dI) vwCl [(h_t, .inr (10, [.ref h_t_s, .ref h_t_was, .ref h_t_begun, .int t_states, .ref h_t_text, .int t_typed, .ref h_t_wrong, .ref h_t_cost, .ref h_t_first, .ref h_t_block, .ref h_t_many, .ref h_t_stack, .int (t_height - (1 : Int32)), .ref h_t_written, .int t_length, .ref h_t_own, .ref h_t_levelAt, .ref h_t_itemAt, .ref h_t_times, .int t_at, .int t_ownLength, .int t_depth, .int t_deepest, .int t_letters, .int t_repeats, .int t_corrections, .int t_mostCorrections, .int t_place, .int t_reason])), (h_t_block, .inl (cI, 3125, .inl t_block)), (h_t_first, .inl (cI, 3125, .inl t_first)), (h_t_s, .inl (cI, 30, .inl t_s)), (h_t_stack, .inl (cI, 400, .inl t_stack)), (h_t_written, .inl (cC, 400, .inl t_written))] H := hP
        have hD : va_D A [(h_t, .inr (10, [.ref h_t_s, .ref h_t_was, .ref h_t_begun, .int t_states, .ref h_t_text, .int t_typed, .ref h_t_wrong, .ref h_t_cost, .ref h_t_first, .ref h_t_block, .ref h_t_many, .ref h_t_stack, .int (t_height - (1 : Int32)), .ref h_t_written, .int t_length, .ref h_t_own, .ref h_t_levelAt, .ref h_t_itemAt, .ref h_t_times, .int t_at, .int t_ownLength, .int t_depth, .int t_deepest, .int t_letters, .int t_repeats, .int t_corrections, .int t_mostCorrections, .int t_place, .int t_reason])), (h_t_block, .inl (cI, 3125, .inl t_block)), (h_t_first, .inl (cI, 3125, .inl t_first)), (h_t_s, .inl (cI, 30, .inl t_s)), (h_t_stack, .inl (cI, 400, .inl t_stack)), (h_t_written, .inl (cC, 400, .inl t_written))] := hD
        refine lv_aload_n hx hb dX11_describes_40 rfl (lv_at hl 0 rfl) ?_
        refine va_get (D := (dC, dI)) (ci := 10) (v := .ref h_t_stack) (C := RX11) (T := TX11) (N := 29) hx hb hts iMD_describes_X11_describes_1 hown hK hP 0 rfl rfl 11 (by decide) (hts _ kMD_describes_X11_describes_2) (fun _ h9 => h9) rfl dX11_describes_41 ?_
        refine lv_iconst (v := (4 : Int32)) hx hb dX11_describes_44 (by decide) ?_
        refine lv_aload_n hx hb dX11_describes_45 rfl (lv_at hl 0 rfl) ?_
        refine va_get (D := (dC, dI)) (ci := 10) (v := .int (t_height - (1 : Int32))) (C := RX11) (T := TX11) (N := 29) hx hb hts iMD_describes_X11_describes_1 hown hK hP 0 rfl rfl 12 (by decide) (hts _ kMD_describes_X11_describes_0) (fun _ h9 => h9) rfl dX11_describes_46 ?_
        refine lv_imul hx hb dX11_describes_49 ?_
        refine lv_iconst (v := (1 : Int32)) hx hb dX11_describes_50 (by decide) ?_
        refine lv_iadd hx hb dX11_describes_51 ?_
        obtain ⟨c_2, hres⟩ := ck_of hres
        refine va_iald hx hb hK hP 4 0 rfl rfl c_2 dX11_describes_52 ?_
        refine lv_istore_n (lv' := [(3, .int (rd t_stack (((4 : Int32) * (t_height - (1 : Int32))) + (1 : Int32)))), (0, .ref h_t)]) hx hb dX11_describes_53 rfl hl (by decide) rfl (fun ls hl => ?_)
        refine lv_aload_n hx hb dX11_describes_54 rfl (lv_at hl 1 rfl) ?_
        refine va_get (D := (dC, dI)) (ci := 10) (v := .ref h_t_stack) (C := RX11) (T := TX11) (N := 29) hx hb hts iMD_describes_X11_describes_1 hown hK hP 0 rfl rfl 11 (by decide) (hts _ kMD_describes_X11_describes_2) (fun _ h9 => h9) rfl dX11_describes_55 ?_
        refine lv_iconst (v := (4 : Int32)) hx hb dX11_describes_58 (by decide) ?_
        refine lv_aload_n hx hb dX11_describes_59 rfl (lv_at hl 1 rfl) ?_
        refine va_get (D := (dC, dI)) (ci := 10) (v := .int (t_height - (1 : Int32))) (C := RX11) (T := TX11) (N := 29) hx hb hts iMD_describes_X11_describes_1 hown hK hP 0 rfl rfl 12 (by decide) (hts _ kMD_describes_X11_describes_0) (fun _ h9 => h9) rfl dX11_describes_60 ?_
        refine lv_imul hx hb dX11_describes_63 ?_
        refine lv_iconst (v := (2 : Int32)) hx hb dX11_describes_64 (by decide) ?_
        refine lv_iadd hx hb dX11_describes_65 ?_
        obtain ⟨c_3, hres⟩ := ck_of hres
        refine va_iald hx hb hK hP 4 0 rfl rfl c_3 dX11_describes_66 ?_
        refine lv_istore (lv' := [(4, .int (rd t_stack (((4 : Int32) * (t_height - (1 : Int32))) + (2 : Int32)))), (3, .int (rd t_stack (((4 : Int32) * (t_height - (1 : Int32))) + (1 : Int32)))), (0, .ref h_t)]) hx hb dX11_describes_67 hl (by decide) rfl (fun ls hl => ?_)
        refine lv_aload_n hx hb dX11_describes_69 rfl (lv_at hl 2 rfl) ?_
        refine va_get (D := (dC, dI)) (ci := 10) (v := .ref h_t_stack) (C := RX11) (T := TX11) (N := 29) hx hb hts iMD_describes_X11_describes_1 hown hK hP 0 rfl rfl 11 (by decide) (hts _ kMD_describes_X11_describes_2) (fun _ h9 => h9) rfl dX11_describes_70 ?_
        refine lv_iconst (v := (4 : Int32)) hx hb dX11_describes_73 (by decide) ?_
        refine lv_aload_n hx hb dX11_describes_74 rfl (lv_at hl 2 rfl) ?_
        refine va_get (D := (dC, dI)) (ci := 10) (v := .int (t_height - (1 : Int32))) (C := RX11) (T := TX11) (N := 29) hx hb hts iMD_describes_X11_describes_1 hown hK hP 0 rfl rfl 12 (by decide) (hts _ kMD_describes_X11_describes_0) (fun _ h9 => h9) rfl dX11_describes_75 ?_
        refine lv_imul hx hb dX11_describes_78 ?_
        refine lv_iconst (v := (3 : Int32)) hx hb dX11_describes_79 (by decide) ?_
        refine lv_iadd hx hb dX11_describes_80 ?_
        obtain ⟨c_4, hres⟩ := ck_of hres
        refine va_iald hx hb hK hP 4 0 rfl rfl c_4 dX11_describes_81 ?_
        refine lv_istore (lv' := [(5, .int (rd t_stack (((4 : Int32) * (t_height - (1 : Int32))) + (3 : Int32)))), (4, .int (rd t_stack (((4 : Int32) * (t_height - (1 : Int32))) + (2 : Int32)))), (3, .int (rd t_stack (((4 : Int32) * (t_height - (1 : Int32))) + (1 : Int32)))), (0, .ref h_t)]) hx hb dX11_describes_82 hl (by decide) rfl (fun ls hl => ?_)
        refine lv_aload_n hx hb dX11_describes_84 rfl (lv_at hl 3 rfl) ?_
        refine va_get (D := (dC, dI)) (ci := 10) (v := .ref h_t_stack) (C := RX11) (T := TX11) (N := 29) hx hb hts iMD_describes_X11_describes_1 hown hK hP 0 rfl rfl 11 (by decide) (hts _ kMD_describes_X11_describes_2) (fun _ h9 => h9) rfl dX11_describes_85 ?_
        refine lv_iconst (v := (4 : Int32)) hx hb dX11_describes_88 (by decide) ?_
        refine lv_aload_n hx hb dX11_describes_89 rfl (lv_at hl 3 rfl) ?_
        refine va_get (D := (dC, dI)) (ci := 10) (v := .int (t_height - (1 : Int32))) (C := RX11) (T := TX11) (N := 29) hx hb hts iMD_describes_X11_describes_1 hown hK hP 0 rfl rfl 12 (by decide) (hts _ kMD_describes_X11_describes_0) (fun _ h9 => h9) rfl dX11_describes_90 ?_
        refine lv_imul hx hb dX11_describes_93 ?_
        obtain ⟨c_5, hres⟩ := ck_of hres
        refine va_iald hx hb hK hP 4 0 rfl rfl c_5 dX11_describes_94 ?_
        refine lv_iconst (v := (1 : Int32)) hx hb dX11_describes_95 (by decide) ?_
        refine lv_icmp_ne (tgt := 111) hx hb dX11_describes_96 (by decide) (fun c_6 => ?_) (fun c_6 => ?_)
        · have hres := ie_of hres c_6
          refine lv_iload_n hx hb dX11_describes_111 rfl (lv_at hl 2 rfl) ?_
          refine lv_iload hx hb dX11_describes_112 (lv_at hl 1 rfl) ?_
          refine lv_icmp_ge (tgt := 126) hx hb dX11_describes_114 (by decide) (fun c_7 => ?_) (fun c_7 => ?_)
          · have hres := it_of hres c_7
            refine lv_goto (tgt := 23) hx hb dX11_describes_126 (by decide) ?_
            exact ih23 (t_height - (1 : Int32)) t_length t_stack t_written H locs ls hres hP hD hS (lv_sub hl [3] rfl)
          · have hres := ie_of hres c_7
            refine lv_aload_n hx hb dX11_describes_117 rfl (lv_at hl 3 rfl) ?_
            refine lv_iload_n hx hb dX11_describes_118 rfl (lv_at hl 2 rfl) ?_
            refine lv_iload hx hb dX11_describes_119 (lv_at hl 1 rfl) ?_
            refine lv_iload hx hb dX11_describes_121 (lv_at hl 0 rfl) ?_
            obtain ⟨o8, ho8, hres⟩ := bd_of hres
            have hPc := hP.sub (ws' := [(h_t, .inr (10, [.ref h_t_s, .ref h_t_was, .ref h_t_begun, .int t_states, .ref h_t_text, .int t_typed, .ref h_t_wrong, .ref h_t_cost, .ref h_t_first, .ref h_t_block, .ref h_t_many, .ref h_t_stack, .int (t_height - (1 : Int32)), .ref h_t_written, .int t_length, .ref h_t_own, .ref h_t_levelAt, .ref h_t_itemAt, .ref h_t_times, .int t_at, .int t_ownLength, .int t_depth, .int t_deepest, .int t_letters, .int t_repeats, .int t_corrections, .int t_mostCorrections, .int t_place, .int t_reason])), (h_t_block, .inl (cI, 3125, .inl t_block)), (h_t_first, .inl (cI, 3125, .inl t_first)), (h_t_s, .inl (cI, 30, .inl t_s)), (h_t_stack, .inl (cI, 400, .inl t_stack)), (h_t_written, .inl (cC, 400, .inl t_written))]) [0, 1, 2, 3, 4, 5] rfl
            have hDc := hD.sub (ws' := [(h_t, .inr (10, [.ref h_t_s, .ref h_t_was, .ref h_t_begun, .int t_states, .ref h_t_text, .int t_typed, .ref h_t_wrong, .ref h_t_cost, .ref h_t_first, .ref h_t_block, .ref h_t_many, .ref h_t_stack, .int (t_height - (1 : Int32)), .ref h_t_written, .int t_length, .ref h_t_own, .ref h_t_levelAt, .ref h_t_itemAt, .ref h_t_times, .int t_at, .int t_ownLength, .int t_depth, .int t_deepest, .int t_letters, .int t_repeats, .int t_corrections, .int t_mostCorrections, .int t_place, .int t_reason])), (h_t_block, .inl (cI, 3125, .inl t_block)), (h_t_first, .inl (cI, 3125, .inl t_first)), (h_t_s, .inl (cI, 30, .inl t_s)), (h_t_stack, .inl (cI, 400, .inl t_stack)), (h_t_written, .inl (cC, 400, .inl t_written))]) [0, 1, 2, 3, 4, 5] (by decide) rfl
            have hFc := va_free (wc := [(h_t, .inr (10, [.ref h_t_s, .ref h_t_was, .ref h_t_begun, .int t_states, .ref h_t_text, .int t_typed, .ref h_t_wrong, .ref h_t_cost, .ref h_t_first, .ref h_t_block, .ref h_t_many, .ref h_t_stack, .int (t_height - (1 : Int32)), .ref h_t_written, .int t_length, .ref h_t_own, .ref h_t_levelAt, .ref h_t_itemAt, .ref h_t_times, .int t_at, .int t_ownLength, .int t_depth, .int t_deepest, .int t_letters, .int t_repeats, .int t_corrections, .int t_mostCorrections, .int t_place, .int t_reason])), (h_t_block, .inl (cI, 3125, .inl t_block)), (h_t_first, .inl (cI, 3125, .inl t_first)), (h_t_s, .inl (cI, 30, .inl t_s)), (h_t_stack, .inl (cI, 400, .inl t_stack)), (h_t_written, .inl (cC, 400, .inl t_written))]) hD hS hA [0, 1, 2, 3, 4, 5] rfl
            refine va_callv (va_runV (As := [.int (rd t_stack (((4 : Int32) * (t_height - (1 : Int32))) + (1 : Int32))), .int (rd t_stack (((4 : Int32) * (t_height - (1 : Int32))) + (2 : Int32))), .int (rd t_stack (((4 : Int32) * (t_height - (1 : Int32))) + (3 : Int32)))]) (rest := []) ⟨hx, hb, hml, hown, hts⟩ (cMD_opens l dC dI cI cJ cC cS h_t h_t_s h_t_was h_t_begun h_t_text h_t_wrong h_t_cost h_t_first h_t_block h_t_many h_t_stack h_t_written h_t_own h_t_levelAt h_t_itemAt h_t_times H.size t_states t_typed (t_height - (1 : Int32)) t_length t_at t_ownLength t_depth t_deepest t_letters t_repeats t_corrections t_mostCorrections t_place t_reason t_block t_first t_s t_stack t_written (rd t_stack (((4 : Int32) * (t_height - (1 : Int32))) + (1 : Int32))) (rd t_stack (((4 : Int32) * (t_height - (1 : Int32))) + (2 : Int32))) (rd t_stack (((4 : Int32) * (t_height - (1 : Int32))) + (3 : Int32))) o8.1 o8.2.1 o8.2.2.1 o8.2.2.2 ho8) (cwV 3 hts gX11_describes_X11_opens rfl rfl rfl (by decide +kernel) ⟨Nat.le_of_ble_eq_true rfl, Nat.le_of_ble_eq_true rfl⟩) ⟨fun a U g mk q => by obtain ⟨q0, q1, qP, qK, qN, qD⟩ := q; exact ⟨q0, q1, qP, va_K.moved (u := U) (U := U.calling g mk a) (Vm.Alike.refl U.vm) qK, nwS (u := U) (U := U.calling g mk a) rfl qN, qD⟩, va_recv hK hPc (ci := 10) (q0 := 0) rfl rfl, fun U hU hW => ⟨rfl, by rw [hU], by rw [hU]; exact hPc, va_K.moved hW.alike hK, nwW hW hN, hDc.weaken (fun _ _ _ _ => trivial)⟩⟩ rfl rfl hl.1 rfl (lv_room (Nat.le_of_ble_eq_true rfl)) dX11_describes_123 ⟨Nat.zero_le _, Nat.zero_le _⟩) hS (fun q _ h => hFc q h) hFc (fun u9 t H1 locs ht hvm hw hB hz1 hk1 hS => ?_)
            obtain ⟨hP1, hK1, hD1⟩ := hB
            rw [ht] at hP1
            obtain ⟨hP, hD⟩ := va_join (wr := []) (w1 := [(h_t, .inr (10, [.ref h_t_s, .ref h_t_was, .ref h_t_begun, .int t_states, .ref h_t_text, .int t_typed, .ref h_t_wrong, .ref h_t_cost, .ref h_t_first, .ref h_t_block, .ref h_t_many, .ref h_t_stack, .int o8.1, .ref h_t_written, .int o8.2.1, .ref h_t_own, .ref h_t_levelAt, .ref h_t_itemAt, .ref h_t_times, .int t_at, .int t_ownLength, .int t_depth, .int t_deepest, .int t_letters, .int t_repeats, .int t_corrections, .int t_mostCorrections, .int t_place, .int t_reason])), (h_t_block, .inl (cI, 3125, .inl t_block)), (h_t_first, .inl (cI, 3125, .inl t_first)), (h_t_s, .inl (cI, 30, .inl t_s)), (h_t_stack, .inl (cI, 400, .inl o8.2.2.1)), (h_t_written, .inl (cC, 400, .inl o8.2.2.2))]) hP hD [0, 1, 2, 3, 4, 5] [] rfl rfl (by decide) (by decide) hk1 hFc hP1 hD1
            generalize H1 = H at hP hS ⊢
            have hP : va_P (dC, dI) vwCl [(h_t, .inr (10, [.ref h_t_s, .ref h_t_was, .ref h_t_begun, .int t_states, .ref h_t_text, .int t_typed, .ref h_t_wrong, .ref h_t_cost, .ref h_t_first, .ref h_t_block, .ref h_t_many, .ref h_t_stack, .int o8.1, .ref h_t_written, .int o8.2.1, .ref h_t_own, .ref h_t_levelAt, .ref h_t_itemAt, .ref h_t_times, .int t_at, .int t_ownLength, .int t_depth, .int t_deepest, .int t_letters, .int t_repeats, .int t_corrections, .int t_mostCorrections, .int t_place, .int t_reason])), (h_t_block, .inl (cI, 3125, .inl t_block)), (h_t_first, .inl (cI, 3125, .inl t_first)), (h_t_s, .inl (cI, 30, .inl t_s)), (h_t_stack, .inl (cI, 400, .inl o8.2.2.1)), (h_t_written, .inl (cC, 400, .inl o8.2.2.2))] H := hP
            have hD : va_D A [(h_t, .inr (10, [.ref h_t_s, .ref h_t_was, .ref h_t_begun, .int t_states, .ref h_t_text, .int t_typed, .ref h_t_wrong, .ref h_t_cost, .ref h_t_first, .ref h_t_block, .ref h_t_many, .ref h_t_stack, .int o8.1, .ref h_t_written, .int o8.2.1, .ref h_t_own, .ref h_t_levelAt, .ref h_t_itemAt, .ref h_t_times, .int t_at, .int t_ownLength, .int t_depth, .int t_deepest, .int t_letters, .int t_repeats, .int t_corrections, .int t_mostCorrections, .int t_place, .int t_reason])), (h_t_block, .inl (cI, 3125, .inl t_block)), (h_t_first, .inl (cI, 3125, .inl t_first)), (h_t_s, .inl (cI, 30, .inl t_s)), (h_t_stack, .inl (cI, 400, .inl o8.2.2.1)), (h_t_written, .inl (cC, 400, .inl o8.2.2.2))] := hD
            refine lv_goto (tgt := 23) hx hb dX11_describes_126 (by decide) ?_
            exact ih23 o8.1 o8.2.1 o8.2.2.1 o8.2.2.2 H locs ls hres hP hD hS (lv_sub hl [3] rfl)
        · have hres := it_of hres c_6
          refine lv_aload_n hx hb dX11_describes_99 rfl (lv_at hl 3 rfl) ?_
          refine lv_iload_n hx hb dX11_describes_100 rfl (lv_at hl 2 rfl) ?_
          refine lv_iload hx hb dX11_describes_101 (lv_at hl 1 rfl) ?_
          refine lv_iload hx hb dX11_describes_103 (lv_at hl 0 rfl) ?_
          obtain ⟨o9, ho9, hres⟩ := bd_of hres
          have hPc := hP.sub (ws' := [(h_t, .inr (10, [.ref h_t_s, .ref h_t_was, .ref h_t_begun, .int t_states, .ref h_t_text, .int t_typed, .ref h_t_wrong, .ref h_t_cost, .ref h_t_first, .ref h_t_block, .ref h_t_many, .ref h_t_stack, .int (t_height - (1 : Int32)), .ref h_t_written, .int t_length, .ref h_t_own, .ref h_t_levelAt, .ref h_t_itemAt, .ref h_t_times, .int t_at, .int t_ownLength, .int t_depth, .int t_deepest, .int t_letters, .int t_repeats, .int t_corrections, .int t_mostCorrections, .int t_place, .int t_reason])), (h_t_s, .inl (cI, 30, .inl t_s)), (h_t_written, .inl (cC, 400, .inl t_written))]) [0, 3, 5] rfl
          have hDc := hD.sub (ws' := [(h_t, .inr (10, [.ref h_t_s, .ref h_t_was, .ref h_t_begun, .int t_states, .ref h_t_text, .int t_typed, .ref h_t_wrong, .ref h_t_cost, .ref h_t_first, .ref h_t_block, .ref h_t_many, .ref h_t_stack, .int (t_height - (1 : Int32)), .ref h_t_written, .int t_length, .ref h_t_own, .ref h_t_levelAt, .ref h_t_itemAt, .ref h_t_times, .int t_at, .int t_ownLength, .int t_depth, .int t_deepest, .int t_letters, .int t_repeats, .int t_corrections, .int t_mostCorrections, .int t_place, .int t_reason])), (h_t_s, .inl (cI, 30, .inl t_s)), (h_t_written, .inl (cC, 400, .inl t_written))]) [0, 3, 5] (by decide) rfl
          have hFc := va_free (wc := [(h_t, .inr (10, [.ref h_t_s, .ref h_t_was, .ref h_t_begun, .int t_states, .ref h_t_text, .int t_typed, .ref h_t_wrong, .ref h_t_cost, .ref h_t_first, .ref h_t_block, .ref h_t_many, .ref h_t_stack, .int (t_height - (1 : Int32)), .ref h_t_written, .int t_length, .ref h_t_own, .ref h_t_levelAt, .ref h_t_itemAt, .ref h_t_times, .int t_at, .int t_ownLength, .int t_depth, .int t_deepest, .int t_letters, .int t_repeats, .int t_corrections, .int t_mostCorrections, .int t_place, .int t_reason])), (h_t_s, .inl (cI, 30, .inl t_s)), (h_t_written, .inl (cC, 400, .inl t_written))]) hD hS hA [0, 3, 5] rfl
          refine va_callv (va_runV (As := [.int (rd t_stack (((4 : Int32) * (t_height - (1 : Int32))) + (1 : Int32))), .int (rd t_stack (((4 : Int32) * (t_height - (1 : Int32))) + (2 : Int32))), .int (rd t_stack (((4 : Int32) * (t_height - (1 : Int32))) + (3 : Int32)))]) (rest := []) ⟨hx, hb, hml, hown, hts⟩ (cMD_ends l dC dI cI cJ cC cS h_t h_t_s h_t_was h_t_begun h_t_text h_t_wrong h_t_cost h_t_first h_t_block h_t_many h_t_stack h_t_written h_t_own h_t_levelAt h_t_itemAt h_t_times H.size t_states t_typed (t_height - (1 : Int32)) t_length t_at t_ownLength t_depth t_deepest t_letters t_repeats t_corrections t_mostCorrections t_place t_reason t_s t_written (rd t_stack (((4 : Int32) * (t_height - (1 : Int32))) + (1 : Int32))) (rd t_stack (((4 : Int32) * (t_height - (1 : Int32))) + (2 : Int32))) (rd t_stack (((4 : Int32) * (t_height - (1 : Int32))) + (3 : Int32))) o9.1 o9.2 ho9) (cwV 3 hts gX11_describes_X11_ends rfl rfl rfl (by decide +kernel) ⟨Nat.le_of_ble_eq_true rfl, Nat.le_of_ble_eq_true rfl⟩) ⟨fun a U g mk q => by obtain ⟨q0, q1, qP, qK, qN, qD⟩ := q; exact ⟨q0, q1, qP, va_K.moved (u := U) (U := U.calling g mk a) (Vm.Alike.refl U.vm) qK, nwS (u := U) (U := U.calling g mk a) rfl qN, qD⟩, va_recv hK hPc (ci := 10) (q0 := 0) rfl rfl, fun U hU hW => ⟨rfl, by rw [hU], by rw [hU]; exact hPc, va_K.moved hW.alike hK, nwW hW hN, hDc.weaken (fun _ _ _ _ => trivial)⟩⟩ rfl rfl hl.1 rfl (lv_room (Nat.le_of_ble_eq_true rfl)) dX11_describes_105 ⟨Nat.zero_le _, Nat.zero_le _⟩) hS (fun q _ h => hFc q h) hFc (fun u9 t H1 locs ht hvm hw hB hz1 hk1 hS => ?_)
          obtain ⟨hP1, hK1, hD1⟩ := hB
          rw [ht] at hP1
          obtain ⟨hP, hD⟩ := va_join (wr := [(h_t_block, .inl (cI, 3125, .inl t_block)), (h_t_first, .inl (cI, 3125, .inl t_first)), (h_t_stack, .inl (cI, 400, .inl t_stack))]) (w1 := [(h_t, .inr (10, [.ref h_t_s, .ref h_t_was, .ref h_t_begun, .int t_states, .ref h_t_text, .int t_typed, .ref h_t_wrong, .ref h_t_cost, .ref h_t_first, .ref h_t_block, .ref h_t_many, .ref h_t_stack, .int (t_height - (1 : Int32)), .ref h_t_written, .int o9.1, .ref h_t_own, .ref h_t_levelAt, .ref h_t_itemAt, .ref h_t_times, .int t_at, .int t_ownLength, .int t_depth, .int t_deepest, .int t_letters, .int t_repeats, .int t_corrections, .int t_mostCorrections, .int t_place, .int t_reason])), (h_t_s, .inl (cI, 30, .inl t_s)), (h_t_written, .inl (cC, 400, .inl o9.2))]) hP hD [0, 3, 5] [1, 2, 4] rfl rfl (by decide) (by decide) hk1 hFc hP1 hD1
          generalize H1 = H at hP hS ⊢
          have hP : va_P (dC, dI) vwCl [(h_t_block, .inl (cI, 3125, .inl t_block)), (h_t_first, .inl (cI, 3125, .inl t_first)), (h_t_stack, .inl (cI, 400, .inl t_stack)), (h_t, .inr (10, [.ref h_t_s, .ref h_t_was, .ref h_t_begun, .int t_states, .ref h_t_text, .int t_typed, .ref h_t_wrong, .ref h_t_cost, .ref h_t_first, .ref h_t_block, .ref h_t_many, .ref h_t_stack, .int (t_height - (1 : Int32)), .ref h_t_written, .int o9.1, .ref h_t_own, .ref h_t_levelAt, .ref h_t_itemAt, .ref h_t_times, .int t_at, .int t_ownLength, .int t_depth, .int t_deepest, .int t_letters, .int t_repeats, .int t_corrections, .int t_mostCorrections, .int t_place, .int t_reason])), (h_t_s, .inl (cI, 30, .inl t_s)), (h_t_written, .inl (cC, 400, .inl o9.2))] H := hP
          have hD : va_D A [(h_t_block, .inl (cI, 3125, .inl t_block)), (h_t_first, .inl (cI, 3125, .inl t_first)), (h_t_stack, .inl (cI, 400, .inl t_stack)), (h_t, .inr (10, [.ref h_t_s, .ref h_t_was, .ref h_t_begun, .int t_states, .ref h_t_text, .int t_typed, .ref h_t_wrong, .ref h_t_cost, .ref h_t_first, .ref h_t_block, .ref h_t_many, .ref h_t_stack, .int (t_height - (1 : Int32)), .ref h_t_written, .int o9.1, .ref h_t_own, .ref h_t_levelAt, .ref h_t_itemAt, .ref h_t_times, .int t_at, .int t_ownLength, .int t_depth, .int t_deepest, .int t_letters, .int t_repeats, .int t_corrections, .int t_mostCorrections, .int t_place, .int t_reason])), (h_t_s, .inl (cI, 30, .inl t_s)), (h_t_written, .inl (cC, 400, .inl o9.2))] := hD
          refine lv_goto (tgt := 126) hx hb dX11_describes_108 (by decide) ?_
          refine lv_goto (tgt := 23) hx hb dX11_describes_126 (by decide) ?_
          exact ih23 (t_height - (1 : Int32)) o9.1 t_stack o9.2 H locs ls hres (hP.sub [3, 0, 1, 4, 2, 5] rfl) (hD.sub [3, 0, 1, 4, 2, 5] (by decide) rfl) hS (lv_sub hl [3] rfl)
  rw [fMD_describes] at hres
  refine lv_aload_n hx hb dX11_describes_0 rfl (lv_at hl 0 rfl) ?_
  refine lv_iconst (v := (0 : Int32)) hx hb dX11_describes_1 (by decide) ?_
  refine va_put (D := (dC, dI)) (ci := 10) (v := .int (0 : Int32)) (ty := .int) (C := RX11) (T := TX11) (N := 29) hx hb hts iMD_describes_X11_describes_1 tyX11 tyX11_ok nmX11 hown hK hP hD hS 0 rfl rfl 14 (by decide) (hts _ kMD_describes_X11_describes_3) (fun _ h9 => h9) rfl (by decide +kernel) rfl rfl (Nat.le_of_ble_eq_true rfl) dX11_describes_2 (fun H locs hP hD hS => ?_)
  have hP : va_P (dC, dI) vwCl [(h_t, .inr (10, [.ref h_t_s, .ref h_t_was, .ref h_t_begun, .int t_states, .ref h_t_text, .int t_typed, .ref h_t_wrong, .ref h_t_cost, .ref h_t_first, .ref h_t_block, .ref h_t_many, .ref h_t_stack, .int t_height, .ref h_t_written, .int (0 : Int32), .ref h_t_own, .ref h_t_levelAt, .ref h_t_itemAt, .ref h_t_times, .int t_at, .int t_ownLength, .int t_depth, .int t_deepest, .int t_letters, .int t_repeats, .int t_corrections, .int t_mostCorrections, .int t_place, .int t_reason])), (h_t_block, .inl (cI, 3125, .inl t_block)), (h_t_first, .inl (cI, 3125, .inl t_first)), (h_t_s, .inl (cI, 30, .inl t_s)), (h_t_stack, .inl (cI, 400, .inl t_stack)), (h_t_written, .inl (cC, 400, .inl t_written))] H := hP
  have hD : va_D A [(h_t, .inr (10, [.ref h_t_s, .ref h_t_was, .ref h_t_begun, .int t_states, .ref h_t_text, .int t_typed, .ref h_t_wrong, .ref h_t_cost, .ref h_t_first, .ref h_t_block, .ref h_t_many, .ref h_t_stack, .int t_height, .ref h_t_written, .int (0 : Int32), .ref h_t_own, .ref h_t_levelAt, .ref h_t_itemAt, .ref h_t_times, .int t_at, .int t_ownLength, .int t_depth, .int t_deepest, .int t_letters, .int t_repeats, .int t_corrections, .int t_mostCorrections, .int t_place, .int t_reason])), (h_t_block, .inl (cI, 3125, .inl t_block)), (h_t_first, .inl (cI, 3125, .inl t_first)), (h_t_s, .inl (cI, 30, .inl t_s)), (h_t_stack, .inl (cI, 400, .inl t_stack)), (h_t_written, .inl (cC, 400, .inl t_written))] := hD
  refine lv_aload_n hx hb dX11_describes_5 rfl (lv_at hl 0 rfl) ?_
  refine lv_iconst (v := (0 : Int32)) hx hb dX11_describes_6 (by decide) ?_
  refine va_put (D := (dC, dI)) (ci := 10) (v := .int (0 : Int32)) (ty := .int) (C := RX11) (T := TX11) (N := 29) hx hb hts iMD_describes_X11_describes_1 tyX11 tyX11_ok nmX11 hown hK hP hD hS 0 rfl rfl 12 (by decide) (hts _ kMD_describes_X11_describes_0) (fun _ h9 => h9) rfl (by decide +kernel) rfl rfl (Nat.le_of_ble_eq_true rfl) dX11_describes_7 (fun H locs hP hD hS => ?_)
  have hP : va_P (dC, dI) vwCl [(h_t, .inr (10, [.ref h_t_s, .ref h_t_was, .ref h_t_begun, .int t_states, .ref h_t_text, .int t_typed, .ref h_t_wrong, .ref h_t_cost, .ref h_t_first, .ref h_t_block, .ref h_t_many, .ref h_t_stack, .int (0 : Int32), .ref h_t_written, .int (0 : Int32), .ref h_t_own, .ref h_t_levelAt, .ref h_t_itemAt, .ref h_t_times, .int t_at, .int t_ownLength, .int t_depth, .int t_deepest, .int t_letters, .int t_repeats, .int t_corrections, .int t_mostCorrections, .int t_place, .int t_reason])), (h_t_block, .inl (cI, 3125, .inl t_block)), (h_t_first, .inl (cI, 3125, .inl t_first)), (h_t_s, .inl (cI, 30, .inl t_s)), (h_t_stack, .inl (cI, 400, .inl t_stack)), (h_t_written, .inl (cC, 400, .inl t_written))] H := hP
  have hD : va_D A [(h_t, .inr (10, [.ref h_t_s, .ref h_t_was, .ref h_t_begun, .int t_states, .ref h_t_text, .int t_typed, .ref h_t_wrong, .ref h_t_cost, .ref h_t_first, .ref h_t_block, .ref h_t_many, .ref h_t_stack, .int (0 : Int32), .ref h_t_written, .int (0 : Int32), .ref h_t_own, .ref h_t_levelAt, .ref h_t_itemAt, .ref h_t_times, .int t_at, .int t_ownLength, .int t_depth, .int t_deepest, .int t_letters, .int t_repeats, .int t_corrections, .int t_mostCorrections, .int t_place, .int t_reason])), (h_t_block, .inl (cI, 3125, .inl t_block)), (h_t_first, .inl (cI, 3125, .inl t_first)), (h_t_s, .inl (cI, 30, .inl t_s)), (h_t_stack, .inl (cI, 400, .inl t_stack)), (h_t_written, .inl (cC, 400, .inl t_written))] := hD
  refine lv_aload_n hx hb dX11_describes_10 rfl (lv_at hl 0 rfl) ?_
  refine lv_iconst (v := (0 : Int32)) hx hb dX11_describes_11 (by decide) ?_
  refine lv_iload_n hx hb dX11_describes_12 rfl (lv_at hl 1 rfl) ?_
  refine lv_iload_n hx hb dX11_describes_13 rfl (lv_at hl 2 rfl) ?_
  refine lv_aload_n hx hb dX11_describes_14 rfl (lv_at hl 0 rfl) ?_
  refine va_get (D := (dC, dI)) (ci := 10) (v := .ref h_t_s) (C := RX11) (T := TX11) (N := 29) hx hb hts iMD_describes_X11_describes_1 hown hK hP 0 rfl rfl 0 (by decide) (hts _ kMD_describes_X11_describes_4) (fun _ h9 => h9) rfl dX11_describes_15 ?_
  refine lv_iconst (v := (5 : Int32)) hx hb dX11_describes_18 (by decide) ?_
  refine va_iald hx hb hK hP 3 0 rfl rfl (vin (by decide)) dX11_describes_19 ?_
  obtain ⟨o10, ho10, hres⟩ := bd_of hres
  have hPc := hP.sub (ws' := [(h_t, .inr (10, [.ref h_t_s, .ref h_t_was, .ref h_t_begun, .int t_states, .ref h_t_text, .int t_typed, .ref h_t_wrong, .ref h_t_cost, .ref h_t_first, .ref h_t_block, .ref h_t_many, .ref h_t_stack, .int (0 : Int32), .ref h_t_written, .int (0 : Int32), .ref h_t_own, .ref h_t_levelAt, .ref h_t_itemAt, .ref h_t_times, .int t_at, .int t_ownLength, .int t_depth, .int t_deepest, .int t_letters, .int t_repeats, .int t_corrections, .int t_mostCorrections, .int t_place, .int t_reason])), (h_t_stack, .inl (cI, 400, .inl t_stack))]) [0, 4] rfl
  have hDc := hD.sub (ws' := [(h_t, .inr (10, [.ref h_t_s, .ref h_t_was, .ref h_t_begun, .int t_states, .ref h_t_text, .int t_typed, .ref h_t_wrong, .ref h_t_cost, .ref h_t_first, .ref h_t_block, .ref h_t_many, .ref h_t_stack, .int (0 : Int32), .ref h_t_written, .int (0 : Int32), .ref h_t_own, .ref h_t_levelAt, .ref h_t_itemAt, .ref h_t_times, .int t_at, .int t_ownLength, .int t_depth, .int t_deepest, .int t_letters, .int t_repeats, .int t_corrections, .int t_mostCorrections, .int t_place, .int t_reason])), (h_t_stack, .inl (cI, 400, .inl t_stack))]) [0, 4] (by decide) rfl
  have hFc := va_free (wc := [(h_t, .inr (10, [.ref h_t_s, .ref h_t_was, .ref h_t_begun, .int t_states, .ref h_t_text, .int t_typed, .ref h_t_wrong, .ref h_t_cost, .ref h_t_first, .ref h_t_block, .ref h_t_many, .ref h_t_stack, .int (0 : Int32), .ref h_t_written, .int (0 : Int32), .ref h_t_own, .ref h_t_levelAt, .ref h_t_itemAt, .ref h_t_times, .int t_at, .int t_ownLength, .int t_depth, .int t_deepest, .int t_letters, .int t_repeats, .int t_corrections, .int t_mostCorrections, .int t_place, .int t_reason])), (h_t_stack, .inl (cI, 400, .inl t_stack))]) hD hS hA [0, 4] rfl
  refine va_callv (va_runV (As := [.int (0 : Int32), .int x1, .int x2, .int (rd t_s (5 : Int32))]) (rest := []) ⟨hx, hb, hml, hown, hts⟩ (cMD_puts l dC dI cI cJ cC cS h_t h_t_s h_t_was h_t_begun h_t_text h_t_wrong h_t_cost h_t_first h_t_block h_t_many h_t_stack h_t_written h_t_own h_t_levelAt h_t_itemAt h_t_times H.size t_states t_typed (0 : Int32) (0 : Int32) t_at t_ownLength t_depth t_deepest t_letters t_repeats t_corrections t_mostCorrections t_place t_reason t_stack (0 : Int32) x1 x2 (rd t_s (5 : Int32)) o10.1 o10.2 ho10) (cwV 4 hts gX11_describes_X11_puts rfl rfl rfl (by decide +kernel) ⟨Nat.le_of_ble_eq_true rfl, Nat.le_of_ble_eq_true rfl⟩) ⟨fun a U g mk q => by obtain ⟨q0, q1, qP, qK, qN, qD⟩ := q; exact ⟨q0, q1, qP, va_K.moved (u := U) (U := U.calling g mk a) (Vm.Alike.refl U.vm) qK, nwS (u := U) (U := U.calling g mk a) rfl qN, qD⟩, va_recv hK hPc (ci := 10) (q0 := 0) rfl rfl, fun U hU hW => ⟨rfl, by rw [hU], by rw [hU]; exact hPc, va_K.moved hW.alike hK, nwW hW hN, hDc.weaken (fun _ _ _ _ => trivial)⟩⟩ rfl rfl hl.1 rfl (lv_room (Nat.le_of_ble_eq_true rfl)) dX11_describes_20 ⟨Nat.zero_le _, Nat.zero_le _⟩) hS (fun q _ h => hFc q h) hFc (fun u9 t H1 locs ht hvm hw hB hz1 hk1 hS => ?_)
  obtain ⟨hP1, hK1, hD1⟩ := hB
  rw [ht] at hP1
  obtain ⟨hP, hD⟩ := va_join (wr := [(h_t_block, .inl (cI, 3125, .inl t_block)), (h_t_first, .inl (cI, 3125, .inl t_first)), (h_t_s, .inl (cI, 30, .inl t_s)), (h_t_written, .inl (cC, 400, .inl t_written))]) (w1 := [(h_t, .inr (10, [.ref h_t_s, .ref h_t_was, .ref h_t_begun, .int t_states, .ref h_t_text, .int t_typed, .ref h_t_wrong, .ref h_t_cost, .ref h_t_first, .ref h_t_block, .ref h_t_many, .ref h_t_stack, .int o10.1, .ref h_t_written, .int (0 : Int32), .ref h_t_own, .ref h_t_levelAt, .ref h_t_itemAt, .ref h_t_times, .int t_at, .int t_ownLength, .int t_depth, .int t_deepest, .int t_letters, .int t_repeats, .int t_corrections, .int t_mostCorrections, .int t_place, .int t_reason])), (h_t_stack, .inl (cI, 400, .inl o10.2))]) hP hD [0, 4] [1, 2, 3, 5] rfl rfl (by decide) (by decide) hk1 hFc hP1 hD1
  generalize H1 = H at hP hS ⊢
  have hP : va_P (dC, dI) vwCl [(h_t_block, .inl (cI, 3125, .inl t_block)), (h_t_first, .inl (cI, 3125, .inl t_first)), (h_t_s, .inl (cI, 30, .inl t_s)), (h_t_written, .inl (cC, 400, .inl t_written)), (h_t, .inr (10, [.ref h_t_s, .ref h_t_was, .ref h_t_begun, .int t_states, .ref h_t_text, .int t_typed, .ref h_t_wrong, .ref h_t_cost, .ref h_t_first, .ref h_t_block, .ref h_t_many, .ref h_t_stack, .int o10.1, .ref h_t_written, .int (0 : Int32), .ref h_t_own, .ref h_t_levelAt, .ref h_t_itemAt, .ref h_t_times, .int t_at, .int t_ownLength, .int t_depth, .int t_deepest, .int t_letters, .int t_repeats, .int t_corrections, .int t_mostCorrections, .int t_place, .int t_reason])), (h_t_stack, .inl (cI, 400, .inl o10.2))] H := hP
  have hD : va_D A [(h_t_block, .inl (cI, 3125, .inl t_block)), (h_t_first, .inl (cI, 3125, .inl t_first)), (h_t_s, .inl (cI, 30, .inl t_s)), (h_t_written, .inl (cC, 400, .inl t_written)), (h_t, .inr (10, [.ref h_t_s, .ref h_t_was, .ref h_t_begun, .int t_states, .ref h_t_text, .int t_typed, .ref h_t_wrong, .ref h_t_cost, .ref h_t_first, .ref h_t_block, .ref h_t_many, .ref h_t_stack, .int o10.1, .ref h_t_written, .int (0 : Int32), .ref h_t_own, .ref h_t_levelAt, .ref h_t_itemAt, .ref h_t_times, .int t_at, .int t_ownLength, .int t_depth, .int t_deepest, .int t_letters, .int t_repeats, .int t_corrections, .int t_mostCorrections, .int t_place, .int t_reason])), (h_t_stack, .inl (cI, 400, .inl o10.2))] := hD
  exact hL23 FU o10.1 (0 : Int32) o10.2 t_written H locs ls hres (hP.sub [4, 0, 1, 2, 5, 3] rfl) (hD.sub [4, 0, 1, 2, 5, 3] (by decide) rfl) hS (lv_sub hl [0] rfl)

-- MD_isPart
def fMD_isPart (t_s : Nat → Int32) (x1 : Int32) (x2 : Int32) : Option (Int32) :=
  if x1 < 0 then
    some (0 : Int32)
  else
    if x2 ≤ x1 then
      some (0 : Int32)
    else
      if (rd t_s (0 : Int32)) < x2 then
        some (0 : Int32)
      else
        some (1 : Int32)
theorem kMD_isPart_X11_isPart_0 : Cond.fieldLink RX11 7 "RepeatNestsModel" "s" "[I" ∈ wsX11_isPart := by decide +kernel
theorem iMD_isPart_X11_isPart_1 : ∀ w ∈ wsX110, w ∈ wsX11_isPart := by decide +kernel
set_option maxHeartbeats 4000000 in
set_option maxRecDepth 100000 in
theorem cMD_isPart (l : Launch) (dC : Nat → ClassId) (dI : Nat → Nat → Nat) (cI cJ cC cS : ClassId) (h_t h_t_s h_t_was h_t_begun h_t_text h_t_wrong h_t_cost h_t_first h_t_block h_t_many h_t_stack h_t_written h_t_own h_t_levelAt h_t_itemAt h_t_times : Nat) (sz : Nat) (t_states : Int32) (t_typed : Int32) (t_height : Int32) (t_length : Int32) (t_at : Int32) (t_ownLength : Int32) (t_depth : Int32) (t_deepest : Int32) (t_letters : Int32) (t_repeats : Int32) (t_corrections : Int32) (t_mostCorrections : Int32) (t_place : Int32) (t_reason : Int32) (t_s : Nat → Int32) (x1 : Int32) (x2 : Int32) (r : Int32) (hres : fMD_isPart t_s x1 x2 = some r) :
    Met l yX11_isPart wsX11_isPart ({ frames := 0, cells := 0, slots := 0, locals := 0 } : Room) (va_Pc [.ref h_t, .int x1, .int x2] (fun (U : State) => U.heap.size = sz ∧ va_P (dC, dI) vwCl [(h_t, .inr (10, [.ref h_t_s, .ref h_t_was, .ref h_t_begun, .int t_states, .ref h_t_text, .int t_typed, .ref h_t_wrong, .ref h_t_cost, .ref h_t_first, .ref h_t_block, .ref h_t_many, .ref h_t_stack, .int t_height, .ref h_t_written, .int t_length, .ref h_t_own, .ref h_t_levelAt, .ref h_t_itemAt, .ref h_t_times, .int t_at, .int t_ownLength, .int t_depth, .int t_deepest, .int t_letters, .int t_repeats, .int t_corrections, .int t_mostCorrections, .int t_place, .int t_reason])), (h_t_s, .inl (cI, 30, .inl t_s))] U.heap ∧ va_K (dC, dI) vwCl (tyA cI cJ cC cS) U ∧ nwN U ∧ va_D (fun _ => True) [(h_t, .inr (10, [.ref h_t_s, .ref h_t_was, .ref h_t_begun, .int t_states, .ref h_t_text, .int t_typed, .ref h_t_wrong, .ref h_t_cost, .ref h_t_first, .ref h_t_block, .ref h_t_many, .ref h_t_stack, .int t_height, .ref h_t_written, .int t_length, .ref h_t_own, .ref h_t_levelAt, .ref h_t_itemAt, .ref h_t_times, .int t_at, .int t_ownLength, .int t_depth, .int t_deepest, .int t_letters, .int t_repeats, .int t_corrections, .int t_mostCorrections, .int t_place, .int t_reason])), (h_t_s, .inl (cI, 30, .inl t_s))])) (va_Qi (fun (r9 : Int32) (_ : Unit) => r9 = r) (fun (_ : Unit) (t : State) => va_P (dC, dI) vwCl [(h_t, .inr (10, [.ref h_t_s, .ref h_t_was, .ref h_t_begun, .int t_states, .ref h_t_text, .int t_typed, .ref h_t_wrong, .ref h_t_cost, .ref h_t_first, .ref h_t_block, .ref h_t_many, .ref h_t_stack, .int t_height, .ref h_t_written, .int t_length, .ref h_t_own, .ref h_t_levelAt, .ref h_t_itemAt, .ref h_t_times, .int t_at, .int t_ownLength, .int t_depth, .int t_deepest, .int t_letters, .int t_repeats, .int t_corrections, .int t_mostCorrections, .int t_place, .int t_reason])), (h_t_s, .inl (cI, 30, .inl t_s))] t.heap ∧ va_K (dC, dI) vwCl (tyA cI cJ cC cS) t ∧ va_D (va_A [(h_t, .inr (10, [.ref h_t_s, .ref h_t_was, .ref h_t_begun, .int t_states, .ref h_t_text, .int t_typed, .ref h_t_wrong, .ref h_t_cost, .ref h_t_first, .ref h_t_block, .ref h_t_many, .ref h_t_stack, .int t_height, .ref h_t_written, .int t_length, .ref h_t_own, .ref h_t_levelAt, .ref h_t_itemAt, .ref h_t_times, .int t_at, .int t_ownLength, .int t_depth, .int t_deepest, .int t_letters, .int t_repeats, .int t_corrections, .int t_mostCorrections, .int t_place, .int t_reason])), (h_t_s, .inl (cI, 30, .inl t_s))] sz) [(h_t, .inr (10, [.ref h_t_s, .ref h_t_was, .ref h_t_begun, .int t_states, .ref h_t_text, .int t_typed, .ref h_t_wrong, .ref h_t_cost, .ref h_t_first, .ref h_t_block, .ref h_t_many, .ref h_t_stack, .int t_height, .ref h_t_written, .int t_length, .ref h_t_own, .ref h_t_levelAt, .ref h_t_itemAt, .ref h_t_times, .int t_at, .int t_ownLength, .int t_depth, .int t_deepest, .int t_letters, .int t_repeats, .int t_corrections, .int t_mostCorrections, .int t_place, .int t_reason])), (h_t_s, .inl (cI, 30, .inl t_s))]) (va_A [(h_t, .inr (10, [.ref h_t_s, .ref h_t_was, .ref h_t_begun, .int t_states, .ref h_t_text, .int t_typed, .ref h_t_wrong, .ref h_t_cost, .ref h_t_first, .ref h_t_block, .ref h_t_many, .ref h_t_stack, .int t_height, .ref h_t_written, .int t_length, .ref h_t_own, .ref h_t_levelAt, .ref h_t_itemAt, .ref h_t_times, .int t_at, .int t_ownLength, .int t_depth, .int t_deepest, .int t_letters, .int t_repeats, .int t_corrections, .int t_mostCorrections, .int t_place, .int t_reason])), (h_t_s, .inl (cI, 30, .inl t_s))] sz)) 0 0 (va_A [(h_t, .inr (10, [.ref h_t_s, .ref h_t_was, .ref h_t_begun, .int t_states, .ref h_t_text, .int t_typed, .ref h_t_wrong, .ref h_t_cost, .ref h_t_first, .ref h_t_block, .ref h_t_many, .ref h_t_stack, .int t_height, .ref h_t_written, .int t_length, .ref h_t_own, .ref h_t_levelAt, .ref h_t_itemAt, .ref h_t_times, .int t_at, .int t_ownLength, .int t_depth, .int t_deepest, .int t_letters, .int t_repeats, .int t_corrections, .int t_mostCorrections, .int t_place, .int t_reason])), (h_t_s, .inl (cI, 30, .inl t_s))] sz) := by
  refine Met.ofW (cc := cX11_isPart) (maxL := 3) (ret := (some .boolean)) (by decide) rfl ?_
  intro p e s m args below meth c s₁ B hml hv
  obtain ⟨hargs, hsz, hP, hK, hN, hD0⟩ := hv
  have hx := B.exec
  have hb := B.bytes
  have hr := B.returns
  have hts := atoms_spec (ws := wsX11_isPart) B.pre
  have hown : s.vm.findClass RX11 = some m.cls := findClass_of_methodNamed B.named
  have hlocks := B.notSynchronized
  subst hsz
  have hD := hD0.self (sz := s.heap.size)
  generalize hAe : va_A [(h_t, .inr (10, [.ref h_t_s, .ref h_t_was, .ref h_t_begun, .int t_states, .ref h_t_text, .int t_typed, .ref h_t_wrong, .ref h_t_cost, .ref h_t_first, .ref h_t_block, .ref h_t_many, .ref h_t_stack, .int t_height, .ref h_t_written, .int t_length, .ref h_t_own, .ref h_t_levelAt, .ref h_t_itemAt, .ref h_t_times, .int t_at, .int t_ownLength, .int t_depth, .int t_deepest, .int t_letters, .int t_repeats, .int t_corrections, .int t_mostCorrections, .int t_place, .int t_reason])), (h_t_s, .inl (cI, 30, .inl t_s))] s.heap.size = A at hD ⊢
  have hA : ∀ q : Nat, s.heap.size ≤ q → A q := fun q h => by rw [← hAe]; exact Or.inr h
  have hS : va_S A s.heap s.heap [] := va_S.rf
  have hP : va_P (dC, dI) vwCl [(h_t, .inr (10, [.ref h_t_s, .ref h_t_was, .ref h_t_begun, .int t_states, .ref h_t_text, .int t_typed, .ref h_t_wrong, .ref h_t_cost, .ref h_t_first, .ref h_t_block, .ref h_t_many, .ref h_t_stack, .int t_height, .ref h_t_written, .int t_length, .ref h_t_own, .ref h_t_levelAt, .ref h_t_itemAt, .ref h_t_times, .int t_at, .int t_ownLength, .int t_depth, .int t_deepest, .int t_letters, .int t_repeats, .int t_corrections, .int t_mostCorrections, .int t_place, .int t_reason])), (h_t_s, .inl (cI, 30, .inl t_s))] s.heap := hP
  have hl := lv_entry [.ref h_t, .int x1, .int x2] (n := 3) (Nat.le_of_ble_eq_true rfl)
  rw [show entryFrame m args 3 = entryFrame m ([.ref h_t, .int x1, .int x2] : List Value).toArray 3 from by rw [hargs], lg_entry_eq]
  generalize (lg_sl [.ref h_t, .int x1, .int x2] ++ List.replicate (3 - (lg_sl [.ref h_t, .int x1, .int x2]).length) Slot.unset).toArray = ls at hl ⊢
  have hl : lv_has ls 3 [(0, .ref h_t), (1, .int x1), (2, .int x2)] := hl
  generalize hQQ : MQ below (va_Qi (fun (r9 : Int32) (_ : Unit) => r9 = r) (fun (_ : Unit) (t : State) => va_P (dC, dI) vwCl [(h_t, .inr (10, [.ref h_t_s, .ref h_t_was, .ref h_t_begun, .int t_states, .ref h_t_text, .int t_typed, .ref h_t_wrong, .ref h_t_cost, .ref h_t_first, .ref h_t_block, .ref h_t_many, .ref h_t_stack, .int t_height, .ref h_t_written, .int t_length, .ref h_t_own, .ref h_t_levelAt, .ref h_t_itemAt, .ref h_t_times, .int t_at, .int t_ownLength, .int t_depth, .int t_deepest, .int t_letters, .int t_repeats, .int t_corrections, .int t_mostCorrections, .int t_place, .int t_reason])), (h_t_s, .inl (cI, 30, .inl t_s))] t.heap ∧ va_K (dC, dI) vwCl (tyA cI cJ cC cS) t ∧ va_D A [(h_t, .inr (10, [.ref h_t_s, .ref h_t_was, .ref h_t_begun, .int t_states, .ref h_t_text, .int t_typed, .ref h_t_wrong, .ref h_t_cost, .ref h_t_first, .ref h_t_block, .ref h_t_many, .ref h_t_stack, .int t_height, .ref h_t_written, .int t_length, .ref h_t_own, .ref h_t_levelAt, .ref h_t_itemAt, .ref h_t_times, .int t_at, .int t_ownLength, .int t_depth, .int t_deepest, .int t_letters, .int t_repeats, .int t_corrections, .int t_mostCorrections, .int t_place, .int t_reason])), (h_t_s, .inl (cI, 30, .inl t_s))]) A) args s 0 0 A = QQ
  obtain ⟨H, hH⟩ : ∃ H : Heap, H = s.heap := ⟨_, rfl⟩
  obtain ⟨locs, hlocs⟩ : ∃ locs : List Loc, locs = [] := ⟨_, rfl⟩
  rw [← hH] at hP
  have hS : va_S A s.heap H locs := by rw [hH, hlocs]; exact hS
  suffices hZ : W p l e (headSpec wsX11_isPart ({ frames := 0, cells := 0, slots := 0, locals := 0 } : Room)).room s m args below meth c H locs 0 0 QQ (F0 m 0 ls []) by rw [hH, hlocs] at hZ; exact hZ
  clear hH hlocs
  rw [fMD_isPart] at hres
  refine lv_iload_n hx hb dX11_isPart_0 rfl (lv_at hl 1 rfl) ?_
  refine lv_if_lt (tgt := 23) hx hb dX11_isPart_1 (by decide) (fun c_1 => ?_) (fun c_1 => ?_)
  · have hres := it_of hres c_1
    refine lv_iconst (v := (0 : Int32)) hx hb dX11_isPart_23 (by decide) ?_
    have e9_0 := Option.some.inj hres
    subst e9_0
    rw [← hQQ]
    exact W.zret (v := (0 : Int32)) hx hb hr rfl (fun t ht hW => ⟨⟨(0 : Int32), (), rfl, rfl, by rw [ht]; exact hP, va_K.moved hW.alike hK, hD⟩, hS.F ht⟩) hS.2.2 dX11_isPart_24
  · have hres := ie_of hres c_1
    refine lv_iload_n hx hb dX11_isPart_4 rfl (lv_at hl 1 rfl) ?_
    refine lv_iload_n hx hb dX11_isPart_5 rfl (lv_at hl 2 rfl) ?_
    refine lv_icmp_ge (tgt := 23) hx hb dX11_isPart_6 (by decide) (fun c_2 => ?_) (fun c_2 => ?_)
    · have hres := it_of hres c_2
      refine lv_iconst (v := (0 : Int32)) hx hb dX11_isPart_23 (by decide) ?_
      have e9_0 := Option.some.inj hres
      subst e9_0
      rw [← hQQ]
      exact W.zret (v := (0 : Int32)) hx hb hr rfl (fun t ht hW => ⟨⟨(0 : Int32), (), rfl, rfl, by rw [ht]; exact hP, va_K.moved hW.alike hK, hD⟩, hS.F ht⟩) hS.2.2 dX11_isPart_24
    · have hres := ie_of hres c_2
      refine lv_iload_n hx hb dX11_isPart_9 rfl (lv_at hl 2 rfl) ?_
      refine lv_aload_n hx hb dX11_isPart_10 rfl (lv_at hl 0 rfl) ?_
      refine va_get (D := (dC, dI)) (ci := 10) (v := .ref h_t_s) (C := RX11) (T := TX11) (N := 29) hx hb hts iMD_isPart_X11_isPart_1 hown hK hP 0 rfl rfl 0 (by decide) (hts _ kMD_isPart_X11_isPart_0) (fun _ h9 => h9) rfl dX11_isPart_11 ?_
      refine lv_iconst (v := (0 : Int32)) hx hb dX11_isPart_14 (by decide) ?_
      refine va_iald hx hb hK hP 1 0 rfl rfl (vin (by decide)) dX11_isPart_15 ?_
      refine lv_icmp_gt (tgt := 23) hx hb dX11_isPart_16 (by decide) (fun c_3 => ?_) (fun c_3 => ?_)
      · have hres := it_of hres c_3
        refine lv_iconst (v := (0 : Int32)) hx hb dX11_isPart_23 (by decide) ?_
        have e9_0 := Option.some.inj hres
        subst e9_0
        rw [← hQQ]
        exact W.zret (v := (0 : Int32)) hx hb hr rfl (fun t ht hW => ⟨⟨(0 : Int32), (), rfl, rfl, by rw [ht]; exact hP, va_K.moved hW.alike hK, hD⟩, hS.F ht⟩) hS.2.2 dX11_isPart_24
      · have hres := ie_of hres c_3
        refine lv_iconst (v := (1 : Int32)) hx hb dX11_isPart_19 (by decide) ?_
        refine lv_goto (tgt := 24) hx hb dX11_isPart_20 (by decide) ?_
        have e9_0 := Option.some.inj hres
        subst e9_0
        rw [← hQQ]
        exact W.zret (v := (1 : Int32)) hx hb hr rfl (fun t ht hW => ⟨⟨(1 : Int32), (), rfl, rfl, by rw [ht]; exact hP, va_K.moved hW.alike hK, hD⟩, hS.F ht⟩) hS.2.2 dX11_isPart_24

-- MD_levels
def fMD_levels_119 (k13 : Int32 → Int32 → Int32 → Int32 → Int32 → Option (Int32)) (x3 : Int32) (x4 : Int32) (x5 : Int32) (x6 : Int32) (s0 : Int32) (s1 : Int32) : Option (Int32) :=
    if (s0 + s1) ≤ x3 then
      k13 (s0 + s1) x3 x4 x5 (x6 + 1)
    else
      k13 (s0 + s1) (s0 + s1) x4 x5 (x6 + 1)
def fMD_levels_92 (k13 : Int32 → Int32 → Int32 → Int32 → Int32 → Option (Int32)) (x2 : Int32) (x3 : Int32) (x5 : Int32) (x6 : Int32) (x7 : Int32) (s0 : Int32) (s1 : Int32) : Option (Int32) :=
    if x7 = (40 : Int32) then
      fMD_levels_119 k13 x3 (s0 + s1) x5 x6 x2 (1 : Int32)
    else
      if x7 = (41 : Int32) then
        fMD_levels_119 k13 x3 (s0 + s1) x5 x6 x2 (-1 : Int32)
      else
        fMD_levels_119 k13 x3 (s0 + s1) x5 x6 x2 (0 : Int32)
def fMD_levels_87 (k13 : Int32 → Int32 → Int32 → Int32 → Int32 → Option (Int32)) (x2 : Int32) (x3 : Int32) (x5 : Int32) (x6 : Int32) (x7 : Int32) (s0 : Int32) : Option (Int32) :=
    fMD_levels_92 k13 x2 x3 x5 x6 x7 s0 (1 : Int32)
def fMD_levels_91 (k13 : Int32 → Int32 → Int32 → Int32 → Int32 → Option (Int32)) (x2 : Int32) (x3 : Int32) (x5 : Int32) (x6 : Int32) (x7 : Int32) (s0 : Int32) : Option (Int32) :=
    fMD_levels_92 k13 x2 x3 x5 x6 x7 s0 (0 : Int32)
def fMD_levels_55 (k13 : Int32 → Int32 → Int32 → Int32 → Int32 → Option (Int32)) (x2 : Int32) (x3 : Int32) (x4 : Int32) (x6 : Int32) (x7 : Int32) (s0 : Int32) : Option (Int32) :=
    if x2 = 0 then
      if x7 = (40 : Int32) then
        fMD_levels_87 k13 x2 x3 s0 x6 x7 x4
      else
        (fMD_in x7 (97 : Int32) (100 : Int32)).bind fun o9 =>
          if o9 = 0 then
            fMD_levels_91 k13 x2 x3 s0 x6 x7 x4
          else
            if s0 = 0 then
              fMD_levels_87 k13 x2 x3 s0 x6 x7 x4
            else
              fMD_levels_91 k13 x2 x3 s0 x6 x7 x4
    else
      fMD_levels_91 k13 x2 x3 s0 x6 x7 x4
def fMD_levels_50 (k13 : Int32 → Int32 → Int32 → Int32 → Int32 → Option (Int32)) (x2 : Int32) (x3 : Int32) (x4 : Int32) (x6 : Int32) (x7 : Int32) : Option (Int32) :=
    fMD_levels_55 k13 x2 x3 x4 x6 x7 (1 : Int32)
def fMD_levels_54 (k13 : Int32 → Int32 → Int32 → Int32 → Int32 → Option (Int32)) (x2 : Int32) (x3 : Int32) (x4 : Int32) (x6 : Int32) (x7 : Int32) : Option (Int32) :=
    fMD_levels_55 k13 x2 x3 x4 x6 x7 (0 : Int32)
def fMD_levels_13 (t_length : Int32) (t_written : Nat → Int32) (x1 : Int32) : Nat → Int32 → Int32 → Int32 → Int32 → Int32 → Option (Int32)
  | 0, _, _, _, _, _ => none
  | n + 1, x2, x3, x4, x5, x6 =>
    if t_length ≤ x6 then
      if x1 = 0 then
        some x4
      else
        some x3
    else
      if bIn x6 400 = true then
        if (rd t_written x6) = (91 : Int32) then
          fMD_levels_50 (fMD_levels_13 t_length t_written x1 n) x2 x3 x4 x6 (rd t_written x6)
        else
          if x5 = 0 then
            fMD_levels_54 (fMD_levels_13 t_length t_written x1 n) x2 x3 x4 x6 (rd t_written x6)
          else
            if (rd t_written x6) = (93 : Int32) then
              fMD_levels_54 (fMD_levels_13 t_length t_written x1 n) x2 x3 x4 x6 (rd t_written x6)
            else
              fMD_levels_50 (fMD_levels_13 t_length t_written x1 n) x2 x3 x4 x6 (rd t_written x6)
      else none
def fMD_levels (t_length : Int32) (t_written : Nat → Int32) (x1 : Int32) : Option (Int32) :=
  fMD_levels_13 t_length t_written x1 FU (0 : Int32) (0 : Int32) (0 : Int32) (0 : Int32) (0 : Int32)
theorem kMD_levels_X11_levels_0 : Cond.fieldLink RX11 105 "RepeatNestsModel" "length" "I" ∈ wsX11_levels := by decide +kernel
theorem iMD_levels_X11_levels_1 : ∀ w ∈ wsX110, w ∈ wsX11_levels := by decide +kernel
theorem kMD_levels_X11_levels_2 : Cond.fieldLink RX11 42 "RepeatNestsModel" "written" "[C" ∈ wsX11_levels := by decide +kernel
set_option maxHeartbeats 4000000 in
set_option maxRecDepth 100000 in
theorem cMD_levels (l : Launch) (dC : Nat → ClassId) (dI : Nat → Nat → Nat) (cI cJ cC cS : ClassId) (h_t h_t_s h_t_was h_t_begun h_t_text h_t_wrong h_t_cost h_t_first h_t_block h_t_many h_t_stack h_t_written h_t_own h_t_levelAt h_t_itemAt h_t_times : Nat) (sz : Nat) (t_states : Int32) (t_typed : Int32) (t_height : Int32) (t_length : Int32) (t_at : Int32) (t_ownLength : Int32) (t_depth : Int32) (t_deepest : Int32) (t_letters : Int32) (t_repeats : Int32) (t_corrections : Int32) (t_mostCorrections : Int32) (t_place : Int32) (t_reason : Int32) (t_written : Nat → Int32) (x1 : Int32) (r : Int32) (hres : fMD_levels t_length t_written x1 = some r) :
    Met l yX11_levels wsX11_levels ({ frames := 1, cells := 0, slots := 0, locals := 22 } : Room) (va_Pc [.ref h_t, .int x1] (fun (U : State) => U.heap.size = sz ∧ va_P (dC, dI) vwCl [(h_t, .inr (10, [.ref h_t_s, .ref h_t_was, .ref h_t_begun, .int t_states, .ref h_t_text, .int t_typed, .ref h_t_wrong, .ref h_t_cost, .ref h_t_first, .ref h_t_block, .ref h_t_many, .ref h_t_stack, .int t_height, .ref h_t_written, .int t_length, .ref h_t_own, .ref h_t_levelAt, .ref h_t_itemAt, .ref h_t_times, .int t_at, .int t_ownLength, .int t_depth, .int t_deepest, .int t_letters, .int t_repeats, .int t_corrections, .int t_mostCorrections, .int t_place, .int t_reason])), (h_t_written, .inl (cC, 400, .inl t_written))] U.heap ∧ va_K (dC, dI) vwCl (tyA cI cJ cC cS) U ∧ nwN U ∧ va_D (fun _ => True) [(h_t, .inr (10, [.ref h_t_s, .ref h_t_was, .ref h_t_begun, .int t_states, .ref h_t_text, .int t_typed, .ref h_t_wrong, .ref h_t_cost, .ref h_t_first, .ref h_t_block, .ref h_t_many, .ref h_t_stack, .int t_height, .ref h_t_written, .int t_length, .ref h_t_own, .ref h_t_levelAt, .ref h_t_itemAt, .ref h_t_times, .int t_at, .int t_ownLength, .int t_depth, .int t_deepest, .int t_letters, .int t_repeats, .int t_corrections, .int t_mostCorrections, .int t_place, .int t_reason])), (h_t_written, .inl (cC, 400, .inl t_written))])) (va_Qi (fun (r9 : Int32) (_ : Unit) => r9 = r) (fun (_ : Unit) (t : State) => va_P (dC, dI) vwCl [(h_t, .inr (10, [.ref h_t_s, .ref h_t_was, .ref h_t_begun, .int t_states, .ref h_t_text, .int t_typed, .ref h_t_wrong, .ref h_t_cost, .ref h_t_first, .ref h_t_block, .ref h_t_many, .ref h_t_stack, .int t_height, .ref h_t_written, .int t_length, .ref h_t_own, .ref h_t_levelAt, .ref h_t_itemAt, .ref h_t_times, .int t_at, .int t_ownLength, .int t_depth, .int t_deepest, .int t_letters, .int t_repeats, .int t_corrections, .int t_mostCorrections, .int t_place, .int t_reason])), (h_t_written, .inl (cC, 400, .inl t_written))] t.heap ∧ va_K (dC, dI) vwCl (tyA cI cJ cC cS) t ∧ va_D (va_A [(h_t, .inr (10, [.ref h_t_s, .ref h_t_was, .ref h_t_begun, .int t_states, .ref h_t_text, .int t_typed, .ref h_t_wrong, .ref h_t_cost, .ref h_t_first, .ref h_t_block, .ref h_t_many, .ref h_t_stack, .int t_height, .ref h_t_written, .int t_length, .ref h_t_own, .ref h_t_levelAt, .ref h_t_itemAt, .ref h_t_times, .int t_at, .int t_ownLength, .int t_depth, .int t_deepest, .int t_letters, .int t_repeats, .int t_corrections, .int t_mostCorrections, .int t_place, .int t_reason])), (h_t_written, .inl (cC, 400, .inl t_written))] sz) [(h_t, .inr (10, [.ref h_t_s, .ref h_t_was, .ref h_t_begun, .int t_states, .ref h_t_text, .int t_typed, .ref h_t_wrong, .ref h_t_cost, .ref h_t_first, .ref h_t_block, .ref h_t_many, .ref h_t_stack, .int t_height, .ref h_t_written, .int t_length, .ref h_t_own, .ref h_t_levelAt, .ref h_t_itemAt, .ref h_t_times, .int t_at, .int t_ownLength, .int t_depth, .int t_deepest, .int t_letters, .int t_repeats, .int t_corrections, .int t_mostCorrections, .int t_place, .int t_reason])), (h_t_written, .inl (cC, 400, .inl t_written))]) (va_A [(h_t, .inr (10, [.ref h_t_s, .ref h_t_was, .ref h_t_begun, .int t_states, .ref h_t_text, .int t_typed, .ref h_t_wrong, .ref h_t_cost, .ref h_t_first, .ref h_t_block, .ref h_t_many, .ref h_t_stack, .int t_height, .ref h_t_written, .int t_length, .ref h_t_own, .ref h_t_levelAt, .ref h_t_itemAt, .ref h_t_times, .int t_at, .int t_ownLength, .int t_depth, .int t_deepest, .int t_letters, .int t_repeats, .int t_corrections, .int t_mostCorrections, .int t_place, .int t_reason])), (h_t_written, .inl (cC, 400, .inl t_written))] sz)) 0 0 (va_A [(h_t, .inr (10, [.ref h_t_s, .ref h_t_was, .ref h_t_begun, .int t_states, .ref h_t_text, .int t_typed, .ref h_t_wrong, .ref h_t_cost, .ref h_t_first, .ref h_t_block, .ref h_t_many, .ref h_t_stack, .int t_height, .ref h_t_written, .int t_length, .ref h_t_own, .ref h_t_levelAt, .ref h_t_itemAt, .ref h_t_times, .int t_at, .int t_ownLength, .int t_depth, .int t_deepest, .int t_letters, .int t_repeats, .int t_corrections, .int t_mostCorrections, .int t_place, .int t_reason])), (h_t_written, .inl (cC, 400, .inl t_written))] sz) := by
  refine Met.ofW (cc := cX11_levels) (maxL := 8) (ret := (some .int)) (by decide) rfl ?_
  intro p e s m args below meth c s₁ B hml hv
  obtain ⟨hargs, hsz, hP, hK, hN, hD0⟩ := hv
  have hx := B.exec
  have hb := B.bytes
  have hr := B.returns
  have hts := atoms_spec (ws := wsX11_levels) B.pre
  have hown : s.vm.findClass RX11 = some m.cls := findClass_of_methodNamed B.named
  have hlocks := B.notSynchronized
  subst hsz
  have hD := hD0.self (sz := s.heap.size)
  generalize hAe : va_A [(h_t, .inr (10, [.ref h_t_s, .ref h_t_was, .ref h_t_begun, .int t_states, .ref h_t_text, .int t_typed, .ref h_t_wrong, .ref h_t_cost, .ref h_t_first, .ref h_t_block, .ref h_t_many, .ref h_t_stack, .int t_height, .ref h_t_written, .int t_length, .ref h_t_own, .ref h_t_levelAt, .ref h_t_itemAt, .ref h_t_times, .int t_at, .int t_ownLength, .int t_depth, .int t_deepest, .int t_letters, .int t_repeats, .int t_corrections, .int t_mostCorrections, .int t_place, .int t_reason])), (h_t_written, .inl (cC, 400, .inl t_written))] s.heap.size = A at hD ⊢
  have hA : ∀ q : Nat, s.heap.size ≤ q → A q := fun q h => by rw [← hAe]; exact Or.inr h
  have hS : va_S A s.heap s.heap [] := va_S.rf
  have hP : va_P (dC, dI) vwCl [(h_t, .inr (10, [.ref h_t_s, .ref h_t_was, .ref h_t_begun, .int t_states, .ref h_t_text, .int t_typed, .ref h_t_wrong, .ref h_t_cost, .ref h_t_first, .ref h_t_block, .ref h_t_many, .ref h_t_stack, .int t_height, .ref h_t_written, .int t_length, .ref h_t_own, .ref h_t_levelAt, .ref h_t_itemAt, .ref h_t_times, .int t_at, .int t_ownLength, .int t_depth, .int t_deepest, .int t_letters, .int t_repeats, .int t_corrections, .int t_mostCorrections, .int t_place, .int t_reason])), (h_t_written, .inl (cC, 400, .inl t_written))] s.heap := hP
  have hl := lv_entry [.ref h_t, .int x1] (n := 8) (Nat.le_of_ble_eq_true rfl)
  rw [show entryFrame m args 8 = entryFrame m ([.ref h_t, .int x1] : List Value).toArray 8 from by rw [hargs], lg_entry_eq]
  generalize (lg_sl [.ref h_t, .int x1] ++ List.replicate (8 - (lg_sl [.ref h_t, .int x1]).length) Slot.unset).toArray = ls at hl ⊢
  have hl : lv_has ls 8 [(0, .ref h_t), (1, .int x1)] := hl
  generalize hQQ : MQ below (va_Qi (fun (r9 : Int32) (_ : Unit) => r9 = r) (fun (_ : Unit) (t : State) => va_P (dC, dI) vwCl [(h_t, .inr (10, [.ref h_t_s, .ref h_t_was, .ref h_t_begun, .int t_states, .ref h_t_text, .int t_typed, .ref h_t_wrong, .ref h_t_cost, .ref h_t_first, .ref h_t_block, .ref h_t_many, .ref h_t_stack, .int t_height, .ref h_t_written, .int t_length, .ref h_t_own, .ref h_t_levelAt, .ref h_t_itemAt, .ref h_t_times, .int t_at, .int t_ownLength, .int t_depth, .int t_deepest, .int t_letters, .int t_repeats, .int t_corrections, .int t_mostCorrections, .int t_place, .int t_reason])), (h_t_written, .inl (cC, 400, .inl t_written))] t.heap ∧ va_K (dC, dI) vwCl (tyA cI cJ cC cS) t ∧ va_D A [(h_t, .inr (10, [.ref h_t_s, .ref h_t_was, .ref h_t_begun, .int t_states, .ref h_t_text, .int t_typed, .ref h_t_wrong, .ref h_t_cost, .ref h_t_first, .ref h_t_block, .ref h_t_many, .ref h_t_stack, .int t_height, .ref h_t_written, .int t_length, .ref h_t_own, .ref h_t_levelAt, .ref h_t_itemAt, .ref h_t_times, .int t_at, .int t_ownLength, .int t_depth, .int t_deepest, .int t_letters, .int t_repeats, .int t_corrections, .int t_mostCorrections, .int t_place, .int t_reason])), (h_t_written, .inl (cC, 400, .inl t_written))]) A) args s 0 0 A = QQ
  obtain ⟨H, hH⟩ : ∃ H : Heap, H = s.heap := ⟨_, rfl⟩
  obtain ⟨locs, hlocs⟩ : ∃ locs : List Loc, locs = [] := ⟨_, rfl⟩
  rw [← hH] at hP
  have hS : va_S A s.heap H locs := by rw [hH, hlocs]; exact hS
  suffices hZ : W p l e (headSpec wsX11_levels ({ frames := 1, cells := 0, slots := 0, locals := 22 } : Room)).room s m args below meth c H locs 0 0 QQ (F0 m 0 ls []) by rw [hH, hlocs] at hZ; exact hZ
  clear hH hlocs
  have hL13 : ∀ (n13 : Nat) , ∀ (x2 : Int32) (x3 : Int32) (x4 : Int32) (x5 : Int32) (x6 : Int32) (H : Heap) (locs : List Loc) (ls : Array Slot), fMD_levels_13 t_length t_written x1 n13 x2 x3 x4 x5 x6 = some r → va_P (dC, dI) vwCl [(h_t, .inr (10, [.ref h_t_s, .ref h_t_was, .ref h_t_begun, .int t_states, .ref h_t_text, .int t_typed, .ref h_t_wrong, .ref h_t_cost, .ref h_t_first, .ref h_t_block, .ref h_t_many, .ref h_t_stack, .int t_height, .ref h_t_written, .int t_length, .ref h_t_own, .ref h_t_levelAt, .ref h_t_itemAt, .ref h_t_times, .int t_at, .int t_ownLength, .int t_depth, .int t_deepest, .int t_letters, .int t_repeats, .int t_corrections, .int t_mostCorrections, .int t_place, .int t_reason])), (h_t_written, .inl (cC, 400, .inl t_written))] H → va_D A [(h_t, .inr (10, [.ref h_t_s, .ref h_t_was, .ref h_t_begun, .int t_states, .ref h_t_text, .int t_typed, .ref h_t_wrong, .ref h_t_cost, .ref h_t_first, .ref h_t_block, .ref h_t_many, .ref h_t_stack, .int t_height, .ref h_t_written, .int t_length, .ref h_t_own, .ref h_t_levelAt, .ref h_t_itemAt, .ref h_t_times, .int t_at, .int t_ownLength, .int t_depth, .int t_deepest, .int t_letters, .int t_repeats, .int t_corrections, .int t_mostCorrections, .int t_place, .int t_reason])), (h_t_written, .inl (cC, 400, .inl t_written))] → va_S A s.heap H locs → lv_has ls 8 [(0, .ref h_t), (1, .int x1), (2, .int x2), (3, .int x3), (4, .int x4), (5, .int x5), (6, .int x6)] → W p l e (headSpec wsX11_levels ({ frames := 1, cells := 0, slots := 0, locals := 22 } : Room)).room s m args below meth c H locs 0 0 QQ (F0 m 13 ls []) := by
    intro n13
    induction n13 with
    | zero =>
      intro x2 x3 x4 x5 x6 H locs ls hres
      rw [fMD_levels_13] at hres
      cases hres
    | succ n13 ih13 =>
      have hK119 : ∀ (x3 : Int32) (x4 : Int32) (x5 : Int32) (x6 : Int32) (s0 : Int32) (s1 : Int32) (H : Heap) (locs : List Loc) (ls : Array Slot), fMD_levels_119 (fMD_levels_13 t_length t_written x1 n13) x3 x4 x5 x6 s0 s1 = some r → va_P (dC, dI) vwCl [(h_t, .inr (10, [.ref h_t_s, .ref h_t_was, .ref h_t_begun, .int t_states, .ref h_t_text, .int t_typed, .ref h_t_wrong, .ref h_t_cost, .ref h_t_first, .ref h_t_block, .ref h_t_many, .ref h_t_stack, .int t_height, .ref h_t_written, .int t_length, .ref h_t_own, .ref h_t_levelAt, .ref h_t_itemAt, .ref h_t_times, .int t_at, .int t_ownLength, .int t_depth, .int t_deepest, .int t_letters, .int t_repeats, .int t_corrections, .int t_mostCorrections, .int t_place, .int t_reason])), (h_t_written, .inl (cC, 400, .inl t_written))] H → va_D A [(h_t, .inr (10, [.ref h_t_s, .ref h_t_was, .ref h_t_begun, .int t_states, .ref h_t_text, .int t_typed, .ref h_t_wrong, .ref h_t_cost, .ref h_t_first, .ref h_t_block, .ref h_t_many, .ref h_t_stack, .int t_height, .ref h_t_written, .int t_length, .ref h_t_own, .ref h_t_levelAt, .ref h_t_itemAt, .ref h_t_times, .int t_at, .int t_ownLength, .int t_depth, .int t_deepest, .int t_letters, .int t_repeats, .int t_corrections, .int t_mostCorrections, .int t_place, .int t_reason])), (h_t_written, .inl (cC, 400, .inl t_written))] → va_S A s.heap H locs → lv_has ls 8 [(0, .ref h_t), (1, .int x1), (3, .int x3), (4, .int x4), (5, .int x5), (6, .int x6)] → W p l e (headSpec wsX11_levels ({ frames := 1, cells := 0, slots := 0, locals := 22 } : Room)).room s m args below meth c H locs 0 0 QQ (F0 m 119 ls [.int s1, .int s0]) := by
        intro x3 x4 x5 x6 s0 s1 H locs ls hres hP hD hS hl
        rw [fMD_levels_119] at hres
        refine lv_iadd hx hb dX11_levels_119 ?_
        refine lv_istore_n (lv' := [(2, .int (s0 + s1)), (0, .ref h_t), (1, .int x1), (3, .int x3), (4, .int x4), (5, .int x5), (6, .int x6)]) hx hb dX11_levels_120 rfl hl (by decide) rfl (fun ls hl => ?_)
        refine lv_iload_n hx hb dX11_levels_121 rfl (lv_at hl 0 rfl) ?_
        refine lv_iload_n hx hb dX11_levels_122 rfl (lv_at hl 3 rfl) ?_
        refine lv_icmp_le (tgt := 130) hx hb dX11_levels_123 (by decide) (fun c_12 => ?_) (fun c_12 => ?_)
        · have hres := it_of hres c_12
          refine lv_iload_n hx hb dX11_levels_130 rfl (lv_at hl 3 rfl) ?_
          refine lv_istore_n (lv' := [(3, .int x3), (2, .int (s0 + s1)), (0, .ref h_t), (1, .int x1), (4, .int x4), (5, .int x5), (6, .int x6)]) hx hb dX11_levels_131 rfl hl (by decide) rfl (fun ls hl => ?_)
          refine lv_iinc (v := (x6 + 1)) (lv' := [(6, .int (x6 + 1)), (3, .int x3), (2, .int (s0 + s1)), (0, .ref h_t), (1, .int x1), (4, .int x4), (5, .int x5)]) hx hb dX11_levels_132 hl (k := 6) rfl rfl (by decide) rfl (fun ls hl => ?_)
          refine lv_goto (tgt := 13) hx hb dX11_levels_135 (by decide) ?_
          exact ih13 (s0 + s1) x3 x4 x5 (x6 + 1) H locs ls hres hP hD hS (lv_sub hl [3, 4, 2, 1, 5, 6, 0] rfl)
        · have hres := ie_of hres c_12
          refine lv_iload_n hx hb dX11_levels_126 rfl (lv_at hl 0 rfl) ?_
          refine lv_goto (tgt := 131) hx hb dX11_levels_127 (by decide) ?_
          refine lv_istore_n (lv' := [(3, .int (s0 + s1)), (2, .int (s0 + s1)), (0, .ref h_t), (1, .int x1), (4, .int x4), (5, .int x5), (6, .int x6)]) hx hb dX11_levels_131 rfl hl (by decide) rfl (fun ls hl => ?_)
          refine lv_iinc (v := (x6 + 1)) (lv' := [(6, .int (x6 + 1)), (3, .int (s0 + s1)), (2, .int (s0 + s1)), (0, .ref h_t), (1, .int x1), (4, .int x4), (5, .int x5)]) hx hb dX11_levels_132 hl (k := 6) rfl rfl (by decide) rfl (fun ls hl => ?_)
          refine lv_goto (tgt := 13) hx hb dX11_levels_135 (by decide) ?_
          exact ih13 (s0 + s1) (s0 + s1) x4 x5 (x6 + 1) H locs ls hres hP hD hS (lv_sub hl [3, 4, 2, 1, 5, 6, 0] rfl)
      have hK92 : ∀ (x2 : Int32) (x3 : Int32) (x5 : Int32) (x6 : Int32) (x7 : Int32) (s0 : Int32) (s1 : Int32) (H : Heap) (locs : List Loc) (ls : Array Slot), fMD_levels_92 (fMD_levels_13 t_length t_written x1 n13) x2 x3 x5 x6 x7 s0 s1 = some r → va_P (dC, dI) vwCl [(h_t, .inr (10, [.ref h_t_s, .ref h_t_was, .ref h_t_begun, .int t_states, .ref h_t_text, .int t_typed, .ref h_t_wrong, .ref h_t_cost, .ref h_t_first, .ref h_t_block, .ref h_t_many, .ref h_t_stack, .int t_height, .ref h_t_written, .int t_length, .ref h_t_own, .ref h_t_levelAt, .ref h_t_itemAt, .ref h_t_times, .int t_at, .int t_ownLength, .int t_depth, .int t_deepest, .int t_letters, .int t_repeats, .int t_corrections, .int t_mostCorrections, .int t_place, .int t_reason])), (h_t_written, .inl (cC, 400, .inl t_written))] H → va_D A [(h_t, .inr (10, [.ref h_t_s, .ref h_t_was, .ref h_t_begun, .int t_states, .ref h_t_text, .int t_typed, .ref h_t_wrong, .ref h_t_cost, .ref h_t_first, .ref h_t_block, .ref h_t_many, .ref h_t_stack, .int t_height, .ref h_t_written, .int t_length, .ref h_t_own, .ref h_t_levelAt, .ref h_t_itemAt, .ref h_t_times, .int t_at, .int t_ownLength, .int t_depth, .int t_deepest, .int t_letters, .int t_repeats, .int t_corrections, .int t_mostCorrections, .int t_place, .int t_reason])), (h_t_written, .inl (cC, 400, .inl t_written))] → va_S A s.heap H locs → lv_has ls 8 [(0, .ref h_t), (1, .int x1), (2, .int x2), (3, .int x3), (5, .int x5), (6, .int x6), (7, .int x7)] → W p l e (headSpec wsX11_levels ({ frames := 1, cells := 0, slots := 0, locals := 22 } : Room)).room s m args below meth c H locs 0 0 QQ (F0 m 92 ls [.int s1, .int s0]) := by
        intro x2 x3 x5 x6 x7 s0 s1 H locs ls hres hP hD hS hl
        rw [fMD_levels_92] at hres
        refine lv_iadd hx hb dX11_levels_92 ?_
        refine lv_istore (lv' := [(4, .int (s0 + s1)), (0, .ref h_t), (1, .int x1), (2, .int x2), (3, .int x3), (5, .int x5), (6, .int x6), (7, .int x7)]) hx hb dX11_levels_93 hl (by decide) rfl (fun ls hl => ?_)
        refine lv_iload_n hx hb dX11_levels_95 rfl (lv_at hl 3 rfl) ?_
        refine lv_iload hx hb dX11_levels_96 (lv_at hl 7 rfl) ?_
        refine lv_bipush (v := (40 : Int32)) hx hb dX11_levels_98 (by decide) ?_
        refine lv_icmp_ne (tgt := 107) hx hb dX11_levels_100 (by decide) (fun c_13 => ?_) (fun c_13 => ?_)
        · have hres := ie_of hres c_13
          refine lv_iload hx hb dX11_levels_107 (lv_at hl 7 rfl) ?_
          refine lv_bipush (v := (41 : Int32)) hx hb dX11_levels_109 (by decide) ?_
          refine lv_icmp_ne (tgt := 118) hx hb dX11_levels_111 (by decide) (fun c_14 => ?_) (fun c_14 => ?_)
          · have hres := ie_of hres c_14
            refine lv_iconst (v := (0 : Int32)) hx hb dX11_levels_118 (by decide) ?_
            exact hK119 x3 (s0 + s1) x5 x6 x2 (0 : Int32) H locs ls hres hP hD hS (lv_sub hl [1, 2, 4, 0, 5, 6] rfl)
          · have hres := it_of hres c_14
            refine lv_iconst (v := (-1 : Int32)) hx hb dX11_levels_114 (by decide) ?_
            refine lv_goto (tgt := 119) hx hb dX11_levels_115 (by decide) ?_
            exact hK119 x3 (s0 + s1) x5 x6 x2 (-1 : Int32) H locs ls hres hP hD hS (lv_sub hl [1, 2, 4, 0, 5, 6] rfl)
        · have hres := it_of hres c_13
          refine lv_iconst (v := (1 : Int32)) hx hb dX11_levels_103 (by decide) ?_
          refine lv_goto (tgt := 119) hx hb dX11_levels_104 (by decide) ?_
          exact hK119 x3 (s0 + s1) x5 x6 x2 (1 : Int32) H locs ls hres hP hD hS (lv_sub hl [1, 2, 4, 0, 5, 6] rfl)
      have hK87 : ∀ (x2 : Int32) (x3 : Int32) (x5 : Int32) (x6 : Int32) (x7 : Int32) (s0 : Int32) (H : Heap) (locs : List Loc) (ls : Array Slot), fMD_levels_87 (fMD_levels_13 t_length t_written x1 n13) x2 x3 x5 x6 x7 s0 = some r → va_P (dC, dI) vwCl [(h_t, .inr (10, [.ref h_t_s, .ref h_t_was, .ref h_t_begun, .int t_states, .ref h_t_text, .int t_typed, .ref h_t_wrong, .ref h_t_cost, .ref h_t_first, .ref h_t_block, .ref h_t_many, .ref h_t_stack, .int t_height, .ref h_t_written, .int t_length, .ref h_t_own, .ref h_t_levelAt, .ref h_t_itemAt, .ref h_t_times, .int t_at, .int t_ownLength, .int t_depth, .int t_deepest, .int t_letters, .int t_repeats, .int t_corrections, .int t_mostCorrections, .int t_place, .int t_reason])), (h_t_written, .inl (cC, 400, .inl t_written))] H → va_D A [(h_t, .inr (10, [.ref h_t_s, .ref h_t_was, .ref h_t_begun, .int t_states, .ref h_t_text, .int t_typed, .ref h_t_wrong, .ref h_t_cost, .ref h_t_first, .ref h_t_block, .ref h_t_many, .ref h_t_stack, .int t_height, .ref h_t_written, .int t_length, .ref h_t_own, .ref h_t_levelAt, .ref h_t_itemAt, .ref h_t_times, .int t_at, .int t_ownLength, .int t_depth, .int t_deepest, .int t_letters, .int t_repeats, .int t_corrections, .int t_mostCorrections, .int t_place, .int t_reason])), (h_t_written, .inl (cC, 400, .inl t_written))] → va_S A s.heap H locs → lv_has ls 8 [(0, .ref h_t), (1, .int x1), (2, .int x2), (3, .int x3), (5, .int x5), (6, .int x6), (7, .int x7)] → W p l e (headSpec wsX11_levels ({ frames := 1, cells := 0, slots := 0, locals := 22 } : Room)).room s m args below meth c H locs 0 0 QQ (F0 m 87 ls [.int s0]) := by
        intro x2 x3 x5 x6 x7 s0 H locs ls hres hP hD hS hl
        rw [fMD_levels_87] at hres
        refine lv_iconst (v := (1 : Int32)) hx hb dX11_levels_87 (by decide) ?_
        refine lv_goto (tgt := 92) hx hb dX11_levels_88 (by decide) ?_
        exact hK92 x2 x3 x5 x6 x7 s0 (1 : Int32) H locs ls hres hP hD hS (lv_sub hl [0, 1, 2, 3, 4, 5, 6] rfl)
      have hK91 : ∀ (x2 : Int32) (x3 : Int32) (x5 : Int32) (x6 : Int32) (x7 : Int32) (s0 : Int32) (H : Heap) (locs : List Loc) (ls : Array Slot), fMD_levels_91 (fMD_levels_13 t_length t_written x1 n13) x2 x3 x5 x6 x7 s0 = some r → va_P (dC, dI) vwCl [(h_t, .inr (10, [.ref h_t_s, .ref h_t_was, .ref h_t_begun, .int t_states, .ref h_t_text, .int t_typed, .ref h_t_wrong, .ref h_t_cost, .ref h_t_first, .ref h_t_block, .ref h_t_many, .ref h_t_stack, .int t_height, .ref h_t_written, .int t_length, .ref h_t_own, .ref h_t_levelAt, .ref h_t_itemAt, .ref h_t_times, .int t_at, .int t_ownLength, .int t_depth, .int t_deepest, .int t_letters, .int t_repeats, .int t_corrections, .int t_mostCorrections, .int t_place, .int t_reason])), (h_t_written, .inl (cC, 400, .inl t_written))] H → va_D A [(h_t, .inr (10, [.ref h_t_s, .ref h_t_was, .ref h_t_begun, .int t_states, .ref h_t_text, .int t_typed, .ref h_t_wrong, .ref h_t_cost, .ref h_t_first, .ref h_t_block, .ref h_t_many, .ref h_t_stack, .int t_height, .ref h_t_written, .int t_length, .ref h_t_own, .ref h_t_levelAt, .ref h_t_itemAt, .ref h_t_times, .int t_at, .int t_ownLength, .int t_depth, .int t_deepest, .int t_letters, .int t_repeats, .int t_corrections, .int t_mostCorrections, .int t_place, .int t_reason])), (h_t_written, .inl (cC, 400, .inl t_written))] → va_S A s.heap H locs → lv_has ls 8 [(0, .ref h_t), (1, .int x1), (2, .int x2), (3, .int x3), (5, .int x5), (6, .int x6), (7, .int x7)] → W p l e (headSpec wsX11_levels ({ frames := 1, cells := 0, slots := 0, locals := 22 } : Room)).room s m args below meth c H locs 0 0 QQ (F0 m 91 ls [.int s0]) := by
        intro x2 x3 x5 x6 x7 s0 H locs ls hres hP hD hS hl
        rw [fMD_levels_91] at hres
        refine lv_iconst (v := (0 : Int32)) hx hb dX11_levels_91 (by decide) ?_
        exact hK92 x2 x3 x5 x6 x7 s0 (0 : Int32) H locs ls hres hP hD hS (lv_sub hl [0, 1, 2, 3, 4, 5, 6] rfl)
      have hK55 : ∀ (x2 : Int32) (x3 : Int32) (x4 : Int32) (x6 : Int32) (x7 : Int32) (s0 : Int32) (H : Heap) (locs : List Loc) (ls : Array Slot), fMD_levels_55 (fMD_levels_13 t_length t_written x1 n13) x2 x3 x4 x6 x7 s0 = some r → va_P (dC, dI) vwCl [(h_t, .inr (10, [.ref h_t_s, .ref h_t_was, .ref h_t_begun, .int t_states, .ref h_t_text, .int t_typed, .ref h_t_wrong, .ref h_t_cost, .ref h_t_first, .ref h_t_block, .ref h_t_many, .ref h_t_stack, .int t_height, .ref h_t_written, .int t_length, .ref h_t_own, .ref h_t_levelAt, .ref h_t_itemAt, .ref h_t_times, .int t_at, .int t_ownLength, .int t_depth, .int t_deepest, .int t_letters, .int t_repeats, .int t_corrections, .int t_mostCorrections, .int t_place, .int t_reason])), (h_t_written, .inl (cC, 400, .inl t_written))] H → va_D A [(h_t, .inr (10, [.ref h_t_s, .ref h_t_was, .ref h_t_begun, .int t_states, .ref h_t_text, .int t_typed, .ref h_t_wrong, .ref h_t_cost, .ref h_t_first, .ref h_t_block, .ref h_t_many, .ref h_t_stack, .int t_height, .ref h_t_written, .int t_length, .ref h_t_own, .ref h_t_levelAt, .ref h_t_itemAt, .ref h_t_times, .int t_at, .int t_ownLength, .int t_depth, .int t_deepest, .int t_letters, .int t_repeats, .int t_corrections, .int t_mostCorrections, .int t_place, .int t_reason])), (h_t_written, .inl (cC, 400, .inl t_written))] → va_S A s.heap H locs → lv_has ls 8 [(0, .ref h_t), (1, .int x1), (2, .int x2), (3, .int x3), (4, .int x4), (6, .int x6), (7, .int x7)] → W p l e (headSpec wsX11_levels ({ frames := 1, cells := 0, slots := 0, locals := 22 } : Room)).room s m args below meth c H locs 0 0 QQ (F0 m 55 ls [.int s0]) := by
        intro x2 x3 x4 x6 x7 s0 H locs ls hres hP hD hS hl
        rw [fMD_levels_55] at hres
        refine lv_istore (lv' := [(5, .int s0), (0, .ref h_t), (1, .int x1), (2, .int x2), (3, .int x3), (4, .int x4), (6, .int x6), (7, .int x7)]) hx hb dX11_levels_55 hl (by decide) rfl (fun ls hl => ?_)
        refine lv_iload hx hb dX11_levels_57 (lv_at hl 5 rfl) ?_
        refine lv_iload_n hx hb dX11_levels_59 rfl (lv_at hl 3 rfl) ?_
        refine lv_if_ne (tgt := 91) hx hb dX11_levels_60 (by decide) (fun c_7 => ?_) (fun c_7 => ?_)
        · have hres := ie_of hres c_7
          exact hK91 x2 x3 s0 x6 x7 x4 H locs ls hres hP hD hS (lv_sub hl [1, 2, 3, 4, 0, 6, 7] rfl)
        · have hres := it_of hres c_7
          refine lv_iload hx hb dX11_levels_63 (lv_at hl 7 rfl) ?_
          refine lv_bipush (v := (40 : Int32)) hx hb dX11_levels_65 (by decide) ?_
          refine lv_icmp_eq (tgt := 87) hx hb dX11_levels_67 (by decide) (fun c_8 => ?_) (fun c_8 => ?_)
          · have hres := it_of hres c_8
            exact hK87 x2 x3 s0 x6 x7 x4 H locs ls hres hP hD hS (lv_sub hl [1, 2, 3, 4, 0, 6, 7] rfl)
          · have hres := ie_of hres c_8
            refine lv_iload hx hb dX11_levels_70 (lv_at hl 7 rfl) ?_
            refine lv_bipush (v := (97 : Int32)) hx hb dX11_levels_72 (by decide) ?_
            refine lv_bipush (v := (100 : Int32)) hx hb dX11_levels_74 (by decide) ?_
            obtain ⟨o9, ho9, hres⟩ := bd_of hres
            have hPc := hP.sub (ws' := []) [] rfl
            have hDc := hD.sub (ws' := []) [] (by decide) rfl
            have hFc := va_free (wc := []) hD hS hA [] rfl
            refine va_calli (va_runS (As := [.int x7, .int (97 : Int32), .int (100 : Int32)]) (rest := [.int x4]) ⟨hx, hb, hml, hown, hts⟩ (cMD_in l dC dI cI cJ cC cS H.size x7 (97 : Int32) (100 : Int32) o9 ho9) (va_cwS 3 hts gX11_levels_X11_in rfl rfl rfl (by decide +kernel) ⟨Nat.le_of_ble_eq_true rfl, Nat.le_of_ble_eq_true rfl⟩) ⟨fun a U g mk q => by obtain ⟨q0, q1, qP, qK, qN, qD⟩ := q; exact ⟨q0, q1, qP, va_K.moved (u := U) (U := U.calling g mk a) (Vm.Alike.refl U.vm) qK, nwS (u := U) (U := U.calling g mk a) rfl qN, qD⟩, fun U hU hW => ⟨rfl, by rw [hU], by rw [hU]; exact hPc, va_K.moved hW.alike hK, nwW hW hN, hDc.weaken (fun _ _ _ _ => trivial)⟩⟩ rfl rfl hl.1 rfl (lv_room (Nat.le_of_ble_eq_true rfl)) dX11_levels_76 ⟨Nat.zero_le _, Nat.zero_le _⟩) hS (fun q _ h => hFc q h) hFc (fun r9 u9 t H1 locs ht hvm hw hB hz1 hk1 hS => ?_)
            have hw := hw.symm
            subst hw
            obtain ⟨hP1, hK1, hD1⟩ := hB
            rw [ht] at hP1
            obtain ⟨hP, hD⟩ := va_join (wr := [(h_t, .inr (10, [.ref h_t_s, .ref h_t_was, .ref h_t_begun, .int t_states, .ref h_t_text, .int t_typed, .ref h_t_wrong, .ref h_t_cost, .ref h_t_first, .ref h_t_block, .ref h_t_many, .ref h_t_stack, .int t_height, .ref h_t_written, .int t_length, .ref h_t_own, .ref h_t_levelAt, .ref h_t_itemAt, .ref h_t_times, .int t_at, .int t_ownLength, .int t_depth, .int t_deepest, .int t_letters, .int t_repeats, .int t_corrections, .int t_mostCorrections, .int t_place, .int t_reason])), (h_t_written, .inl (cC, 400, .inl t_written))]) (w1 := []) hP hD [] [0, 1] rfl rfl (by decide) (by decide) hk1 hFc hP1 hD1
            generalize H1 = H at hP hS ⊢
            have hP : va_P (dC, dI) vwCl [(h_t, .inr (10, [.ref h_t_s, .ref h_t_was, .ref h_t_begun, .int t_states, .ref h_t_text, .int t_typed, .ref h_t_wrong, .ref h_t_cost, .ref h_t_first, .ref h_t_block, .ref h_t_many, .ref h_t_stack, .int t_height, .ref h_t_written, .int t_length, .ref h_t_own, .ref h_t_levelAt, .ref h_t_itemAt, .ref h_t_times, .int t_at, .int t_ownLength, .int t_depth, .int t_deepest, .int t_letters, .int t_repeats, .int t_corrections, .int t_mostCorrections, .int t_place, .int t_reason])), (h_t_written, .inl (cC, 400, .inl t_written))] H := hP
            have hD : va_D A [(h_t, .inr (10, [.ref h_t_s, .ref h_t_was, .ref h_t_begun, .int t_states, .ref h_t_text, .int t_typed, .ref h_t_wrong, .ref h_t_cost, .ref h_t_first, .ref h_t_block, .ref h_t_many, .ref h_t_stack, .int t_height, .ref h_t_written, .int t_length, .ref h_t_own, .ref h_t_levelAt, .ref h_t_itemAt, .ref h_t_times, .int t_at, .int t_ownLength, .int t_depth, .int t_deepest, .int t_letters, .int t_repeats, .int t_corrections, .int t_mostCorrections, .int t_place, .int t_reason])), (h_t_written, .inl (cC, 400, .inl t_written))] := hD
            refine lv_if_eq (tgt := 91) hx hb dX11_levels_79 (by decide) (fun c_10 => ?_) (fun c_10 => ?_)
            · have hres := it_of hres c_10
              exact hK91 x2 x3 s0 x6 x7 x4 H locs ls hres hP hD hS (lv_sub hl [1, 2, 3, 4, 0, 6, 7] rfl)
            · have hres := ie_of hres c_10
              refine lv_iload hx hb dX11_levels_82 (lv_at hl 0 rfl) ?_
              refine lv_if_ne (tgt := 91) hx hb dX11_levels_84 (by decide) (fun c_11 => ?_) (fun c_11 => ?_)
              · have hres := ie_of hres c_11
                exact hK91 x2 x3 s0 x6 x7 x4 H locs ls hres hP hD hS (lv_sub hl [1, 2, 3, 4, 0, 6, 7] rfl)
              · have hres := it_of hres c_11
                exact hK87 x2 x3 s0 x6 x7 x4 H locs ls hres hP hD hS (lv_sub hl [1, 2, 3, 4, 0, 6, 7] rfl)
      have hK50 : ∀ (x2 : Int32) (x3 : Int32) (x4 : Int32) (x6 : Int32) (x7 : Int32) (H : Heap) (locs : List Loc) (ls : Array Slot), fMD_levels_50 (fMD_levels_13 t_length t_written x1 n13) x2 x3 x4 x6 x7 = some r → va_P (dC, dI) vwCl [(h_t, .inr (10, [.ref h_t_s, .ref h_t_was, .ref h_t_begun, .int t_states, .ref h_t_text, .int t_typed, .ref h_t_wrong, .ref h_t_cost, .ref h_t_first, .ref h_t_block, .ref h_t_many, .ref h_t_stack, .int t_height, .ref h_t_written, .int t_length, .ref h_t_own, .ref h_t_levelAt, .ref h_t_itemAt, .ref h_t_times, .int t_at, .int t_ownLength, .int t_depth, .int t_deepest, .int t_letters, .int t_repeats, .int t_corrections, .int t_mostCorrections, .int t_place, .int t_reason])), (h_t_written, .inl (cC, 400, .inl t_written))] H → va_D A [(h_t, .inr (10, [.ref h_t_s, .ref h_t_was, .ref h_t_begun, .int t_states, .ref h_t_text, .int t_typed, .ref h_t_wrong, .ref h_t_cost, .ref h_t_first, .ref h_t_block, .ref h_t_many, .ref h_t_stack, .int t_height, .ref h_t_written, .int t_length, .ref h_t_own, .ref h_t_levelAt, .ref h_t_itemAt, .ref h_t_times, .int t_at, .int t_ownLength, .int t_depth, .int t_deepest, .int t_letters, .int t_repeats, .int t_corrections, .int t_mostCorrections, .int t_place, .int t_reason])), (h_t_written, .inl (cC, 400, .inl t_written))] → va_S A s.heap H locs → lv_has ls 8 [(0, .ref h_t), (1, .int x1), (2, .int x2), (3, .int x3), (4, .int x4), (6, .int x6), (7, .int x7)] → W p l e (headSpec wsX11_levels ({ frames := 1, cells := 0, slots := 0, locals := 22 } : Room)).room s m args below meth c H locs 0 0 QQ (F0 m 50 ls []) := by
        intro x2 x3 x4 x6 x7 H locs ls hres hP hD hS hl
        rw [fMD_levels_50] at hres
        refine lv_iconst (v := (1 : Int32)) hx hb dX11_levels_50 (by decide) ?_
        refine lv_goto (tgt := 55) hx hb dX11_levels_51 (by decide) ?_
        exact hK55 x2 x3 x4 x6 x7 (1 : Int32) H locs ls hres hP hD hS (lv_sub hl [0, 1, 2, 3, 4, 5, 6] rfl)
      have hK54 : ∀ (x2 : Int32) (x3 : Int32) (x4 : Int32) (x6 : Int32) (x7 : Int32) (H : Heap) (locs : List Loc) (ls : Array Slot), fMD_levels_54 (fMD_levels_13 t_length t_written x1 n13) x2 x3 x4 x6 x7 = some r → va_P (dC, dI) vwCl [(h_t, .inr (10, [.ref h_t_s, .ref h_t_was, .ref h_t_begun, .int t_states, .ref h_t_text, .int t_typed, .ref h_t_wrong, .ref h_t_cost, .ref h_t_first, .ref h_t_block, .ref h_t_many, .ref h_t_stack, .int t_height, .ref h_t_written, .int t_length, .ref h_t_own, .ref h_t_levelAt, .ref h_t_itemAt, .ref h_t_times, .int t_at, .int t_ownLength, .int t_depth, .int t_deepest, .int t_letters, .int t_repeats, .int t_corrections, .int t_mostCorrections, .int t_place, .int t_reason])), (h_t_written, .inl (cC, 400, .inl t_written))] H → va_D A [(h_t, .inr (10, [.ref h_t_s, .ref h_t_was, .ref h_t_begun, .int t_states, .ref h_t_text, .int t_typed, .ref h_t_wrong, .ref h_t_cost, .ref h_t_first, .ref h_t_block, .ref h_t_many, .ref h_t_stack, .int t_height, .ref h_t_written, .int t_length, .ref h_t_own, .ref h_t_levelAt, .ref h_t_itemAt, .ref h_t_times, .int t_at, .int t_ownLength, .int t_depth, .int t_deepest, .int t_letters, .int t_repeats, .int t_corrections, .int t_mostCorrections, .int t_place, .int t_reason])), (h_t_written, .inl (cC, 400, .inl t_written))] → va_S A s.heap H locs → lv_has ls 8 [(0, .ref h_t), (1, .int x1), (2, .int x2), (3, .int x3), (4, .int x4), (6, .int x6), (7, .int x7)] → W p l e (headSpec wsX11_levels ({ frames := 1, cells := 0, slots := 0, locals := 22 } : Room)).room s m args below meth c H locs 0 0 QQ (F0 m 54 ls []) := by
        intro x2 x3 x4 x6 x7 H locs ls hres hP hD hS hl
        rw [fMD_levels_54] at hres
        refine lv_iconst (v := (0 : Int32)) hx hb dX11_levels_54 (by decide) ?_
        exact hK55 x2 x3 x4 x6 x7 (0 : Int32) H locs ls hres hP hD hS (lv_sub hl [0, 1, 2, 3, 4, 5, 6] rfl)
      intro x2 x3 x4 x5 x6 H locs ls hres hP hD hS hl
      rw [fMD_levels_13] at hres
      refine lv_iload hx hb dX11_levels_13 (lv_at hl 6 rfl) ?_
      refine lv_aload_n hx hb dX11_levels_15 rfl (lv_at hl 0 rfl) ?_
      refine va_get (D := (dC, dI)) (ci := 10) (v := .int t_length) (C := RX11) (T := TX11) (N := 29) hx hb hts iMD_levels_X11_levels_1 hown hK hP 0 rfl rfl 14 (by decide) (hts _ kMD_levels_X11_levels_0) (fun _ h9 => h9) rfl dX11_levels_16 ?_
      refine lv_icmp_ge (tgt := 138) hx hb dX11_levels_19 (by decide) (fun c_1 => ?_) (fun c_1 => ?_)
      · have hres := it_of hres c_1
        refine lv_iload_n hx hb dX11_levels_138 rfl (lv_at hl 1 rfl) ?_
        refine lv_if_eq (tgt := 146) hx hb dX11_levels_139 (by decide) (fun c_2 => ?_) (fun c_2 => ?_)
        · have hres := it_of hres c_2
          refine lv_iload hx hb dX11_levels_146 (lv_at hl 4 rfl) ?_
          have e9_0 := Option.some.inj hres
          subst e9_0
          rw [← hQQ]
          exact W.iret (v := x4) hx hb hr (fun t ht hW => ⟨⟨x4, (), rfl, rfl, by rw [ht]; exact hP, va_K.moved hW.alike hK, hD⟩, hS.F ht⟩) hS.2.2 dX11_levels_148
        · have hres := ie_of hres c_2
          refine lv_iload_n hx hb dX11_levels_142 rfl (lv_at hl 3 rfl) ?_
          refine lv_goto (tgt := 148) hx hb dX11_levels_143 (by decide) ?_
          have e9_0 := Option.some.inj hres
          subst e9_0
          rw [← hQQ]
          exact W.iret (v := x3) hx hb hr (fun t ht hW => ⟨⟨x3, (), rfl, rfl, by rw [ht]; exact hP, va_K.moved hW.alike hK, hD⟩, hS.F ht⟩) hS.2.2 dX11_levels_148
      · have hres := ie_of hres c_1
        refine lv_aload_n hx hb dX11_levels_22 rfl (lv_at hl 0 rfl) ?_
        refine va_get (D := (dC, dI)) (ci := 10) (v := .ref h_t_written) (C := RX11) (T := TX11) (N := 29) hx hb hts iMD_levels_X11_levels_1 hown hK hP 0 rfl rfl 13 (by decide) (hts _ kMD_levels_X11_levels_2) (fun _ h9 => h9) rfl dX11_levels_23 ?_
        refine lv_iload hx hb dX11_levels_26 (lv_at hl 6 rfl) ?_
        obtain ⟨c_3, hres⟩ := ck_of hres
        refine va_cald hx hb hK hP 1 2 rfl rfl c_3 dX11_levels_28 ?_
        refine lv_istore (lv' := [(7, .int (rd t_written x6)), (0, .ref h_t), (1, .int x1), (2, .int x2), (3, .int x3), (4, .int x4), (5, .int x5), (6, .int x6)]) hx hb dX11_levels_29 hl (by decide) rfl (fun ls hl => ?_)
        refine lv_iload hx hb dX11_levels_31 (lv_at hl 0 rfl) ?_
        refine lv_bipush (v := (91 : Int32)) hx hb dX11_levels_33 (by decide) ?_
        refine lv_icmp_eq (tgt := 50) hx hb dX11_levels_35 (by decide) (fun c_4 => ?_) (fun c_4 => ?_)
        · have hres := it_of hres c_4
          exact hK50 x2 x3 x4 x6 (rd t_written x6) H locs ls hres hP hD hS (lv_sub hl [1, 2, 3, 4, 5, 7, 0] rfl)
        · have hres := ie_of hres c_4
          refine lv_iload hx hb dX11_levels_38 (lv_at hl 6 rfl) ?_
          refine lv_if_eq (tgt := 54) hx hb dX11_levels_40 (by decide) (fun c_5 => ?_) (fun c_5 => ?_)
          · have hres := it_of hres c_5
            exact hK54 x2 x3 x4 x6 (rd t_written x6) H locs ls hres hP hD hS (lv_sub hl [1, 2, 3, 4, 5, 7, 0] rfl)
          · have hres := ie_of hres c_5
            refine lv_iload hx hb dX11_levels_43 (lv_at hl 0 rfl) ?_
            refine lv_bipush (v := (93 : Int32)) hx hb dX11_levels_45 (by decide) ?_
            refine lv_icmp_eq (tgt := 54) hx hb dX11_levels_47 (by decide) (fun c_6 => ?_) (fun c_6 => ?_)
            · have hres := it_of hres c_6
              exact hK54 x2 x3 x4 x6 (rd t_written x6) H locs ls hres hP hD hS (lv_sub hl [1, 2, 3, 4, 5, 7, 0] rfl)
            · have hres := ie_of hres c_6
              exact hK50 x2 x3 x4 x6 (rd t_written x6) H locs ls hres hP hD hS (lv_sub hl [1, 2, 3, 4, 5, 7, 0] rfl)
  rw [fMD_levels] at hres
  refine lv_iconst (v := (0 : Int32)) hx hb dX11_levels_0 (by decide) ?_
  refine lv_istore_n (lv' := [(2, .int (0 : Int32)), (0, .ref h_t), (1, .int x1)]) hx hb dX11_levels_1 rfl hl (by decide) rfl (fun ls hl => ?_)
  refine lv_iconst (v := (0 : Int32)) hx hb dX11_levels_2 (by decide) ?_
  refine lv_istore_n (lv' := [(3, .int (0 : Int32)), (2, .int (0 : Int32)), (0, .ref h_t), (1, .int x1)]) hx hb dX11_levels_3 rfl hl (by decide) rfl (fun ls hl => ?_)
  refine lv_iconst (v := (0 : Int32)) hx hb dX11_levels_4 (by decide) ?_
  refine lv_istore (lv' := [(4, .int (0 : Int32)), (3, .int (0 : Int32)), (2, .int (0 : Int32)), (0, .ref h_t), (1, .int x1)]) hx hb dX11_levels_5 hl (by decide) rfl (fun ls hl => ?_)
  refine lv_iconst (v := (0 : Int32)) hx hb dX11_levels_7 (by decide) ?_
  refine lv_istore (lv' := [(5, .int (0 : Int32)), (4, .int (0 : Int32)), (3, .int (0 : Int32)), (2, .int (0 : Int32)), (0, .ref h_t), (1, .int x1)]) hx hb dX11_levels_8 hl (by decide) rfl (fun ls hl => ?_)
  refine lv_iconst (v := (0 : Int32)) hx hb dX11_levels_10 (by decide) ?_
  refine lv_istore (lv' := [(6, .int (0 : Int32)), (5, .int (0 : Int32)), (4, .int (0 : Int32)), (3, .int (0 : Int32)), (2, .int (0 : Int32)), (0, .ref h_t), (1, .int x1)]) hx hb dX11_levels_11 hl (by decide) rfl (fun ls hl => ?_)
  exact hL13 FU (0 : Int32) (0 : Int32) (0 : Int32) (0 : Int32) (0 : Int32) H locs ls hres hP hD hS (lv_sub hl [5, 6, 4, 3, 2, 1, 0] rfl)

-- MD_signs
def fMD_signs_4 (t_length : Int32) (t_written : Nat → Int32) (x1 : Int32) : Nat → Int32 → Int32 → Option (Int32)
  | 0, _, _ => none
  | n + 1, x2, x3 =>
    if t_length ≤ x3 then
      some x2
    else
      if bIn x3 400 = true then
        if (rd t_written x3) = x1 then
          fMD_signs_4 t_length t_written x1 n (x2 + (1 : Int32)) (x3 + 1)
        else
          fMD_signs_4 t_length t_written x1 n (x2 + (0 : Int32)) (x3 + 1)
      else none
def fMD_signs (t_length : Int32) (t_written : Nat → Int32) (x1 : Int32) : Option (Int32) :=
  fMD_signs_4 t_length t_written x1 FU (0 : Int32) (0 : Int32)
theorem kMD_signs_X11_signs_0 : Cond.fieldLink RX11 105 "RepeatNestsModel" "length" "I" ∈ wsX11_signs := by decide +kernel
theorem iMD_signs_X11_signs_1 : ∀ w ∈ wsX110, w ∈ wsX11_signs := by decide +kernel
theorem kMD_signs_X11_signs_2 : Cond.fieldLink RX11 42 "RepeatNestsModel" "written" "[C" ∈ wsX11_signs := by decide +kernel
set_option maxHeartbeats 4000000 in
set_option maxRecDepth 100000 in
theorem cMD_signs (l : Launch) (dC : Nat → ClassId) (dI : Nat → Nat → Nat) (cI cJ cC cS : ClassId) (h_t h_t_s h_t_was h_t_begun h_t_text h_t_wrong h_t_cost h_t_first h_t_block h_t_many h_t_stack h_t_written h_t_own h_t_levelAt h_t_itemAt h_t_times : Nat) (sz : Nat) (t_states : Int32) (t_typed : Int32) (t_height : Int32) (t_length : Int32) (t_at : Int32) (t_ownLength : Int32) (t_depth : Int32) (t_deepest : Int32) (t_letters : Int32) (t_repeats : Int32) (t_corrections : Int32) (t_mostCorrections : Int32) (t_place : Int32) (t_reason : Int32) (t_written : Nat → Int32) (x1 : Int32) (r : Int32) (hres : fMD_signs t_length t_written x1 = some r) :
    Met l yX11_signs wsX11_signs ({ frames := 0, cells := 0, slots := 0, locals := 0 } : Room) (va_Pc [.ref h_t, .int x1] (fun (U : State) => U.heap.size = sz ∧ va_P (dC, dI) vwCl [(h_t, .inr (10, [.ref h_t_s, .ref h_t_was, .ref h_t_begun, .int t_states, .ref h_t_text, .int t_typed, .ref h_t_wrong, .ref h_t_cost, .ref h_t_first, .ref h_t_block, .ref h_t_many, .ref h_t_stack, .int t_height, .ref h_t_written, .int t_length, .ref h_t_own, .ref h_t_levelAt, .ref h_t_itemAt, .ref h_t_times, .int t_at, .int t_ownLength, .int t_depth, .int t_deepest, .int t_letters, .int t_repeats, .int t_corrections, .int t_mostCorrections, .int t_place, .int t_reason])), (h_t_written, .inl (cC, 400, .inl t_written))] U.heap ∧ va_K (dC, dI) vwCl (tyA cI cJ cC cS) U ∧ nwN U ∧ va_D (fun _ => True) [(h_t, .inr (10, [.ref h_t_s, .ref h_t_was, .ref h_t_begun, .int t_states, .ref h_t_text, .int t_typed, .ref h_t_wrong, .ref h_t_cost, .ref h_t_first, .ref h_t_block, .ref h_t_many, .ref h_t_stack, .int t_height, .ref h_t_written, .int t_length, .ref h_t_own, .ref h_t_levelAt, .ref h_t_itemAt, .ref h_t_times, .int t_at, .int t_ownLength, .int t_depth, .int t_deepest, .int t_letters, .int t_repeats, .int t_corrections, .int t_mostCorrections, .int t_place, .int t_reason])), (h_t_written, .inl (cC, 400, .inl t_written))])) (va_Qi (fun (r9 : Int32) (_ : Unit) => r9 = r) (fun (_ : Unit) (t : State) => va_P (dC, dI) vwCl [(h_t, .inr (10, [.ref h_t_s, .ref h_t_was, .ref h_t_begun, .int t_states, .ref h_t_text, .int t_typed, .ref h_t_wrong, .ref h_t_cost, .ref h_t_first, .ref h_t_block, .ref h_t_many, .ref h_t_stack, .int t_height, .ref h_t_written, .int t_length, .ref h_t_own, .ref h_t_levelAt, .ref h_t_itemAt, .ref h_t_times, .int t_at, .int t_ownLength, .int t_depth, .int t_deepest, .int t_letters, .int t_repeats, .int t_corrections, .int t_mostCorrections, .int t_place, .int t_reason])), (h_t_written, .inl (cC, 400, .inl t_written))] t.heap ∧ va_K (dC, dI) vwCl (tyA cI cJ cC cS) t ∧ va_D (va_A [(h_t, .inr (10, [.ref h_t_s, .ref h_t_was, .ref h_t_begun, .int t_states, .ref h_t_text, .int t_typed, .ref h_t_wrong, .ref h_t_cost, .ref h_t_first, .ref h_t_block, .ref h_t_many, .ref h_t_stack, .int t_height, .ref h_t_written, .int t_length, .ref h_t_own, .ref h_t_levelAt, .ref h_t_itemAt, .ref h_t_times, .int t_at, .int t_ownLength, .int t_depth, .int t_deepest, .int t_letters, .int t_repeats, .int t_corrections, .int t_mostCorrections, .int t_place, .int t_reason])), (h_t_written, .inl (cC, 400, .inl t_written))] sz) [(h_t, .inr (10, [.ref h_t_s, .ref h_t_was, .ref h_t_begun, .int t_states, .ref h_t_text, .int t_typed, .ref h_t_wrong, .ref h_t_cost, .ref h_t_first, .ref h_t_block, .ref h_t_many, .ref h_t_stack, .int t_height, .ref h_t_written, .int t_length, .ref h_t_own, .ref h_t_levelAt, .ref h_t_itemAt, .ref h_t_times, .int t_at, .int t_ownLength, .int t_depth, .int t_deepest, .int t_letters, .int t_repeats, .int t_corrections, .int t_mostCorrections, .int t_place, .int t_reason])), (h_t_written, .inl (cC, 400, .inl t_written))]) (va_A [(h_t, .inr (10, [.ref h_t_s, .ref h_t_was, .ref h_t_begun, .int t_states, .ref h_t_text, .int t_typed, .ref h_t_wrong, .ref h_t_cost, .ref h_t_first, .ref h_t_block, .ref h_t_many, .ref h_t_stack, .int t_height, .ref h_t_written, .int t_length, .ref h_t_own, .ref h_t_levelAt, .ref h_t_itemAt, .ref h_t_times, .int t_at, .int t_ownLength, .int t_depth, .int t_deepest, .int t_letters, .int t_repeats, .int t_corrections, .int t_mostCorrections, .int t_place, .int t_reason])), (h_t_written, .inl (cC, 400, .inl t_written))] sz)) 0 0 (va_A [(h_t, .inr (10, [.ref h_t_s, .ref h_t_was, .ref h_t_begun, .int t_states, .ref h_t_text, .int t_typed, .ref h_t_wrong, .ref h_t_cost, .ref h_t_first, .ref h_t_block, .ref h_t_many, .ref h_t_stack, .int t_height, .ref h_t_written, .int t_length, .ref h_t_own, .ref h_t_levelAt, .ref h_t_itemAt, .ref h_t_times, .int t_at, .int t_ownLength, .int t_depth, .int t_deepest, .int t_letters, .int t_repeats, .int t_corrections, .int t_mostCorrections, .int t_place, .int t_reason])), (h_t_written, .inl (cC, 400, .inl t_written))] sz) := by
  refine Met.ofW (cc := cX11_signs) (maxL := 4) (ret := (some .int)) (by decide) rfl ?_
  intro p e s m args below meth c s₁ B hml hv
  obtain ⟨hargs, hsz, hP, hK, hN, hD0⟩ := hv
  have hx := B.exec
  have hb := B.bytes
  have hr := B.returns
  have hts := atoms_spec (ws := wsX11_signs) B.pre
  have hown : s.vm.findClass RX11 = some m.cls := findClass_of_methodNamed B.named
  have hlocks := B.notSynchronized
  subst hsz
  have hD := hD0.self (sz := s.heap.size)
  generalize hAe : va_A [(h_t, .inr (10, [.ref h_t_s, .ref h_t_was, .ref h_t_begun, .int t_states, .ref h_t_text, .int t_typed, .ref h_t_wrong, .ref h_t_cost, .ref h_t_first, .ref h_t_block, .ref h_t_many, .ref h_t_stack, .int t_height, .ref h_t_written, .int t_length, .ref h_t_own, .ref h_t_levelAt, .ref h_t_itemAt, .ref h_t_times, .int t_at, .int t_ownLength, .int t_depth, .int t_deepest, .int t_letters, .int t_repeats, .int t_corrections, .int t_mostCorrections, .int t_place, .int t_reason])), (h_t_written, .inl (cC, 400, .inl t_written))] s.heap.size = A at hD ⊢
  have hA : ∀ q : Nat, s.heap.size ≤ q → A q := fun q h => by rw [← hAe]; exact Or.inr h
  have hS : va_S A s.heap s.heap [] := va_S.rf
  have hP : va_P (dC, dI) vwCl [(h_t, .inr (10, [.ref h_t_s, .ref h_t_was, .ref h_t_begun, .int t_states, .ref h_t_text, .int t_typed, .ref h_t_wrong, .ref h_t_cost, .ref h_t_first, .ref h_t_block, .ref h_t_many, .ref h_t_stack, .int t_height, .ref h_t_written, .int t_length, .ref h_t_own, .ref h_t_levelAt, .ref h_t_itemAt, .ref h_t_times, .int t_at, .int t_ownLength, .int t_depth, .int t_deepest, .int t_letters, .int t_repeats, .int t_corrections, .int t_mostCorrections, .int t_place, .int t_reason])), (h_t_written, .inl (cC, 400, .inl t_written))] s.heap := hP
  have hl := lv_entry [.ref h_t, .int x1] (n := 4) (Nat.le_of_ble_eq_true rfl)
  rw [show entryFrame m args 4 = entryFrame m ([.ref h_t, .int x1] : List Value).toArray 4 from by rw [hargs], lg_entry_eq]
  generalize (lg_sl [.ref h_t, .int x1] ++ List.replicate (4 - (lg_sl [.ref h_t, .int x1]).length) Slot.unset).toArray = ls at hl ⊢
  have hl : lv_has ls 4 [(0, .ref h_t), (1, .int x1)] := hl
  generalize hQQ : MQ below (va_Qi (fun (r9 : Int32) (_ : Unit) => r9 = r) (fun (_ : Unit) (t : State) => va_P (dC, dI) vwCl [(h_t, .inr (10, [.ref h_t_s, .ref h_t_was, .ref h_t_begun, .int t_states, .ref h_t_text, .int t_typed, .ref h_t_wrong, .ref h_t_cost, .ref h_t_first, .ref h_t_block, .ref h_t_many, .ref h_t_stack, .int t_height, .ref h_t_written, .int t_length, .ref h_t_own, .ref h_t_levelAt, .ref h_t_itemAt, .ref h_t_times, .int t_at, .int t_ownLength, .int t_depth, .int t_deepest, .int t_letters, .int t_repeats, .int t_corrections, .int t_mostCorrections, .int t_place, .int t_reason])), (h_t_written, .inl (cC, 400, .inl t_written))] t.heap ∧ va_K (dC, dI) vwCl (tyA cI cJ cC cS) t ∧ va_D A [(h_t, .inr (10, [.ref h_t_s, .ref h_t_was, .ref h_t_begun, .int t_states, .ref h_t_text, .int t_typed, .ref h_t_wrong, .ref h_t_cost, .ref h_t_first, .ref h_t_block, .ref h_t_many, .ref h_t_stack, .int t_height, .ref h_t_written, .int t_length, .ref h_t_own, .ref h_t_levelAt, .ref h_t_itemAt, .ref h_t_times, .int t_at, .int t_ownLength, .int t_depth, .int t_deepest, .int t_letters, .int t_repeats, .int t_corrections, .int t_mostCorrections, .int t_place, .int t_reason])), (h_t_written, .inl (cC, 400, .inl t_written))]) A) args s 0 0 A = QQ
  obtain ⟨H, hH⟩ : ∃ H : Heap, H = s.heap := ⟨_, rfl⟩
  obtain ⟨locs, hlocs⟩ : ∃ locs : List Loc, locs = [] := ⟨_, rfl⟩
  rw [← hH] at hP
  have hS : va_S A s.heap H locs := by rw [hH, hlocs]; exact hS
  suffices hZ : W p l e (headSpec wsX11_signs ({ frames := 0, cells := 0, slots := 0, locals := 0 } : Room)).room s m args below meth c H locs 0 0 QQ (F0 m 0 ls []) by rw [hH, hlocs] at hZ; exact hZ
  clear hH hlocs
  have hL4 : ∀ (n4 : Nat) , ∀ (x2 : Int32) (x3 : Int32) (H : Heap) (locs : List Loc) (ls : Array Slot), fMD_signs_4 t_length t_written x1 n4 x2 x3 = some r → va_P (dC, dI) vwCl [(h_t, .inr (10, [.ref h_t_s, .ref h_t_was, .ref h_t_begun, .int t_states, .ref h_t_text, .int t_typed, .ref h_t_wrong, .ref h_t_cost, .ref h_t_first, .ref h_t_block, .ref h_t_many, .ref h_t_stack, .int t_height, .ref h_t_written, .int t_length, .ref h_t_own, .ref h_t_levelAt, .ref h_t_itemAt, .ref h_t_times, .int t_at, .int t_ownLength, .int t_depth, .int t_deepest, .int t_letters, .int t_repeats, .int t_corrections, .int t_mostCorrections, .int t_place, .int t_reason])), (h_t_written, .inl (cC, 400, .inl t_written))] H → va_D A [(h_t, .inr (10, [.ref h_t_s, .ref h_t_was, .ref h_t_begun, .int t_states, .ref h_t_text, .int t_typed, .ref h_t_wrong, .ref h_t_cost, .ref h_t_first, .ref h_t_block, .ref h_t_many, .ref h_t_stack, .int t_height, .ref h_t_written, .int t_length, .ref h_t_own, .ref h_t_levelAt, .ref h_t_itemAt, .ref h_t_times, .int t_at, .int t_ownLength, .int t_depth, .int t_deepest, .int t_letters, .int t_repeats, .int t_corrections, .int t_mostCorrections, .int t_place, .int t_reason])), (h_t_written, .inl (cC, 400, .inl t_written))] → va_S A s.heap H locs → lv_has ls 4 [(0, .ref h_t), (1, .int x1), (2, .int x2), (3, .int x3)] → W p l e (headSpec wsX11_signs ({ frames := 0, cells := 0, slots := 0, locals := 0 } : Room)).room s m args below meth c H locs 0 0 QQ (F0 m 4 ls []) := by
    intro n4
    induction n4 with
    | zero =>
      intro x2 x3 H locs ls hres
      rw [fMD_signs_4] at hres
      cases hres
    | succ n4 ih4 =>
      intro x2 x3 H locs ls hres hP hD hS hl
      rw [fMD_signs_4] at hres
      refine lv_iload_n hx hb dX11_signs_4 rfl (lv_at hl 3 rfl) ?_
      refine lv_aload_n hx hb dX11_signs_5 rfl (lv_at hl 0 rfl) ?_
      refine va_get (D := (dC, dI)) (ci := 10) (v := .int t_length) (C := RX11) (T := TX11) (N := 29) hx hb hts iMD_signs_X11_signs_1 hown hK hP 0 rfl rfl 14 (by decide) (hts _ kMD_signs_X11_signs_0) (fun _ h9 => h9) rfl dX11_signs_6 ?_
      refine lv_icmp_ge (tgt := 36) hx hb dX11_signs_9 (by decide) (fun c_1 => ?_) (fun c_1 => ?_)
      · have hres := it_of hres c_1
        refine lv_iload_n hx hb dX11_signs_36 rfl (lv_at hl 2 rfl) ?_
        have e9_0 := Option.some.inj hres
        subst e9_0
        rw [← hQQ]
        exact W.iret (v := x2) hx hb hr (fun t ht hW => ⟨⟨x2, (), rfl, rfl, by rw [ht]; exact hP, va_K.moved hW.alike hK, hD⟩, hS.F ht⟩) hS.2.2 dX11_signs_37
      · have hres := ie_of hres c_1
        refine lv_iload_n hx hb dX11_signs_12 rfl (lv_at hl 2 rfl) ?_
        refine lv_aload_n hx hb dX11_signs_13 rfl (lv_at hl 0 rfl) ?_
        refine va_get (D := (dC, dI)) (ci := 10) (v := .ref h_t_written) (C := RX11) (T := TX11) (N := 29) hx hb hts iMD_signs_X11_signs_1 hown hK hP 0 rfl rfl 13 (by decide) (hts _ kMD_signs_X11_signs_2) (fun _ h9 => h9) rfl dX11_signs_14 ?_
        refine lv_iload_n hx hb dX11_signs_17 rfl (lv_at hl 3 rfl) ?_
        obtain ⟨c_2, hres⟩ := ck_of hres
        refine va_cald hx hb hK hP 1 2 rfl rfl c_2 dX11_signs_18 ?_
        refine lv_iload_n hx hb dX11_signs_19 rfl (lv_at hl 1 rfl) ?_
        refine lv_icmp_ne (tgt := 27) hx hb dX11_signs_20 (by decide) (fun c_3 => ?_) (fun c_3 => ?_)
        · have hres := ie_of hres c_3
          refine lv_iconst (v := (0 : Int32)) hx hb dX11_signs_27 (by decide) ?_
          refine lv_iadd hx hb dX11_signs_28 ?_
          refine lv_istore_n (lv' := [(2, .int (x2 + (0 : Int32))), (0, .ref h_t), (1, .int x1), (3, .int x3)]) hx hb dX11_signs_29 rfl hl (by decide) rfl (fun ls hl => ?_)
          refine lv_iinc (v := (x3 + 1)) (lv' := [(3, .int (x3 + 1)), (2, .int (x2 + (0 : Int32))), (0, .ref h_t), (1, .int x1)]) hx hb dX11_signs_30 hl (k := 3) rfl rfl (by decide) rfl (fun ls hl => ?_)
          refine lv_goto (tgt := 4) hx hb dX11_signs_33 (by decide) ?_
          exact ih4 (x2 + (0 : Int32)) (x3 + 1) H locs ls hres hP hD hS (lv_sub hl [2, 3, 1, 0] rfl)
        · have hres := it_of hres c_3
          refine lv_iconst (v := (1 : Int32)) hx hb dX11_signs_23 (by decide) ?_
          refine lv_goto (tgt := 28) hx hb dX11_signs_24 (by decide) ?_
          refine lv_iadd hx hb dX11_signs_28 ?_
          refine lv_istore_n (lv' := [(2, .int (x2 + (1 : Int32))), (0, .ref h_t), (1, .int x1), (3, .int x3)]) hx hb dX11_signs_29 rfl hl (by decide) rfl (fun ls hl => ?_)
          refine lv_iinc (v := (x3 + 1)) (lv' := [(3, .int (x3 + 1)), (2, .int (x2 + (1 : Int32))), (0, .ref h_t), (1, .int x1)]) hx hb dX11_signs_30 hl (k := 3) rfl rfl (by decide) rfl (fun ls hl => ?_)
          refine lv_goto (tgt := 4) hx hb dX11_signs_33 (by decide) ?_
          exact ih4 (x2 + (1 : Int32)) (x3 + 1) H locs ls hres hP hD hS (lv_sub hl [2, 3, 1, 0] rfl)
  rw [fMD_signs] at hres
  refine lv_iconst (v := (0 : Int32)) hx hb dX11_signs_0 (by decide) ?_
  refine lv_istore_n (lv' := [(2, .int (0 : Int32)), (0, .ref h_t), (1, .int x1)]) hx hb dX11_signs_1 rfl hl (by decide) rfl (fun ls hl => ?_)
  refine lv_iconst (v := (0 : Int32)) hx hb dX11_signs_2 (by decide) ?_
  refine lv_istore_n (lv' := [(3, .int (0 : Int32)), (2, .int (0 : Int32)), (0, .ref h_t), (1, .int x1)]) hx hb dX11_signs_3 rfl hl (by decide) rfl (fun ls hl => ?_)
  exact hL4 FU (0 : Int32) (0 : Int32) H locs ls hres hP hD hS (lv_sub hl [2, 3, 1, 0] rfl)

-- MD_cheapest
def fMD_cheapest (t_s : Nat → Int32) (t_height : Int32) (t_length : Int32) (t_block : Nat → Int32) (t_cost : Nat → Int32) (t_first : Nat → Int32) (t_stack : Nat → Int32) (t_written : Nat → Int32) (t_wrong : Nat → Int32) (x1 : Int32) (x2 : Int32) (x3 : Int32) : Option (Int32 × Int32 × Int32 × (Nat → Int32) × (Nat → Int32) × (Nat → Int32) × (Nat → Int32) × (Nat → Int32) × (Nat → Int32)) :=
  (fMD_isPart t_s x1 x2).bind fun o1 =>
    if o1 = 0 then
      some ((-1000001 : Int32), t_height, t_length, t_block, t_cost, t_first, t_stack, t_written, t_wrong)
    else
      (fMD_in x3 (0 : Int32) (7 : Int32)).bind fun o3 =>
        if o3 = 0 then
          some ((-1000001 : Int32), t_height, t_length, t_block, t_cost, t_first, t_stack, t_written, t_wrong)
        else
          (fMD_lays t_s t_block t_cost t_first t_wrong).bind fun o5 =>
            (fMD_describes o5.1 o5.2.2.1 t_s t_stack t_written x1 x2).bind fun o6 =>
              (fMD_part (rd t_s (5 : Int32)) x1 x2).bind fun o7 =>
                if x3 = (0 : Int32) then
                  if bIn o7 3125 = true then
                    some ((rd o5.2.1 o7), o6.1, o6.2.1, o5.1, o5.2.1, o5.2.2.1, o6.2.2.1, o6.2.2.2, o5.2.2.2)
                  else none
                else
                  if x3 = (1 : Int32) then
                    (fMD_levels o6.2.1 o6.2.2.2 (0 : Int32)).bind fun o11 =>
                      some (o11, o6.1, o6.2.1, o5.1, o5.2.1, o5.2.2.1, o6.2.2.1, o6.2.2.2, o5.2.2.2)
                  else
                    if x3 = (2 : Int32) then
                      (fMD_levels o6.2.1 o6.2.2.2 (1 : Int32)).bind fun o13 =>
                        some (o13, o6.1, o6.2.1, o5.1, o5.2.1, o5.2.2.1, o6.2.2.1, o6.2.2.2, o5.2.2.2)
                    else
                      if x3 = (3 : Int32) then
                        (fMD_signs o6.2.1 o6.2.2.2 (40 : Int32)).bind fun o15 =>
                          some (o15, o6.1, o6.2.1, o5.1, o5.2.1, o5.2.2.1, o6.2.2.1, o6.2.2.2, o5.2.2.2)
                      else
                        if x3 = (4 : Int32) then
                          (fMD_signs o6.2.1 o6.2.2.2 (91 : Int32)).bind fun o17 =>
                            some (o17, o6.1, o6.2.1, o5.1, o5.2.1, o5.2.2.1, o6.2.2.1, o6.2.2.2, o5.2.2.2)
                        else
                          if x3 = (5 : Int32) then
                            some (o6.2.1, o6.1, o6.2.1, o5.1, o5.2.1, o5.2.2.1, o6.2.2.1, o6.2.2.2, o5.2.2.2)
                          else
                            if x3 = (6 : Int32) then
                              if bIn o7 3125 = true then
                                some ((rd o5.2.2.1 o7), o6.1, o6.2.1, o5.1, o5.2.1, o5.2.2.1, o6.2.2.1, o6.2.2.2, o5.2.2.2)
                              else none
                            else
                              if bIn o7 3125 = true then
                                if (rd o5.2.2.1 o7) = (1 : Int32) then
                                  some ((1 : Int32), o6.1, o6.2.1, o5.1, o5.2.1, o5.2.2.1, o6.2.2.1, o6.2.2.2, o5.2.2.2)
                                else
                                  if bIn o7 3125 = true then
                                    if bIn o7 3125 = true then
                                      if (rd o5.1 o7) = 0 then none else
                                        some (((rd o5.2.2.1 o7) / (rd o5.1 o7)), o6.1, o6.2.1, o5.1, o5.2.1, o5.2.2.1, o6.2.2.1, o6.2.2.2, o5.2.2.2)
                                    else none
                                  else none
                              else none
theorem kMD_cheapest_X11_cheapest_0 : Cond.constant RX11 57 (-1000001) ∈ wsX11_cheapest := by decide +kernel
theorem kMD_cheapest_X11_cheapest_1 : Cond.fieldLink RX11 7 "RepeatNestsModel" "s" "[I" ∈ wsX11_cheapest := by decide +kernel
theorem iMD_cheapest_X11_cheapest_2 : ∀ w ∈ wsX110, w ∈ wsX11_cheapest := by decide +kernel
theorem kMD_cheapest_X11_cheapest_3 : Cond.fieldLink RX11 26 "RepeatNestsModel" "cost" "[I" ∈ wsX11_cheapest := by decide +kernel
theorem kMD_cheapest_X11_cheapest_4 : Cond.fieldLink RX11 105 "RepeatNestsModel" "length" "I" ∈ wsX11_cheapest := by decide +kernel
theorem kMD_cheapest_X11_cheapest_5 : Cond.fieldLink RX11 29 "RepeatNestsModel" "first" "[I" ∈ wsX11_cheapest := by decide +kernel
theorem kMD_cheapest_X11_cheapest_6 : Cond.fieldLink RX11 32 "RepeatNestsModel" "block" "[I" ∈ wsX11_cheapest := by decide +kernel
set_option maxHeartbeats 4000000 in
set_option maxRecDepth 100000 in
theorem cMD_cheapest (l : Launch) (dC : Nat → ClassId) (dI : Nat → Nat → Nat) (cI cJ cC cS : ClassId) (h_t h_t_s h_t_was h_t_begun h_t_text h_t_wrong h_t_cost h_t_first h_t_block h_t_many h_t_stack h_t_written h_t_own h_t_levelAt h_t_itemAt h_t_times : Nat) (sz : Nat) (t_states : Int32) (t_typed : Int32) (t_height : Int32) (t_length : Int32) (t_at : Int32) (t_ownLength : Int32) (t_depth : Int32) (t_deepest : Int32) (t_letters : Int32) (t_repeats : Int32) (t_corrections : Int32) (t_mostCorrections : Int32) (t_place : Int32) (t_reason : Int32) (t_block : Nat → Int32) (t_cost : Nat → Int32) (t_first : Nat → Int32) (t_s : Nat → Int32) (t_stack : Nat → Int32) (t_written : Nat → Int32) (t_wrong : Nat → Int32) (x1 : Int32) (x2 : Int32) (x3 : Int32) (r : Int32) (y_t_height : Int32) (y_t_length : Int32) (y_t_block : Nat → Int32) (y_t_cost : Nat → Int32) (y_t_first : Nat → Int32) (y_t_stack : Nat → Int32) (y_t_written : Nat → Int32) (y_t_wrong : Nat → Int32) (hres : fMD_cheapest t_s t_height t_length t_block t_cost t_first t_stack t_written t_wrong x1 x2 x3 = some (r, y_t_height, y_t_length, y_t_block, y_t_cost, y_t_first, y_t_stack, y_t_written, y_t_wrong)) :
    Met l yX11_cheapest wsX11_cheapest ({ frames := 4, cells := 0, slots := 0, locals := 92 } : Room) (va_Pc [.ref h_t, .int x1, .int x2, .int x3] (fun (U : State) => U.heap.size = sz ∧ va_P (dC, dI) vwCl [(h_t, .inr (10, [.ref h_t_s, .ref h_t_was, .ref h_t_begun, .int t_states, .ref h_t_text, .int t_typed, .ref h_t_wrong, .ref h_t_cost, .ref h_t_first, .ref h_t_block, .ref h_t_many, .ref h_t_stack, .int t_height, .ref h_t_written, .int t_length, .ref h_t_own, .ref h_t_levelAt, .ref h_t_itemAt, .ref h_t_times, .int t_at, .int t_ownLength, .int t_depth, .int t_deepest, .int t_letters, .int t_repeats, .int t_corrections, .int t_mostCorrections, .int t_place, .int t_reason])), (h_t_block, .inl (cI, 3125, .inl t_block)), (h_t_cost, .inl (cI, 3125, .inl t_cost)), (h_t_first, .inl (cI, 3125, .inl t_first)), (h_t_s, .inl (cI, 30, .inl t_s)), (h_t_stack, .inl (cI, 400, .inl t_stack)), (h_t_written, .inl (cC, 400, .inl t_written)), (h_t_wrong, .inl (cI, 15625, .inl t_wrong))] U.heap ∧ va_K (dC, dI) vwCl (tyA cI cJ cC cS) U ∧ nwN U ∧ va_D (fun _ => True) [(h_t, .inr (10, [.ref h_t_s, .ref h_t_was, .ref h_t_begun, .int t_states, .ref h_t_text, .int t_typed, .ref h_t_wrong, .ref h_t_cost, .ref h_t_first, .ref h_t_block, .ref h_t_many, .ref h_t_stack, .int t_height, .ref h_t_written, .int t_length, .ref h_t_own, .ref h_t_levelAt, .ref h_t_itemAt, .ref h_t_times, .int t_at, .int t_ownLength, .int t_depth, .int t_deepest, .int t_letters, .int t_repeats, .int t_corrections, .int t_mostCorrections, .int t_place, .int t_reason])), (h_t_block, .inl (cI, 3125, .inl t_block)), (h_t_cost, .inl (cI, 3125, .inl t_cost)), (h_t_first, .inl (cI, 3125, .inl t_first)), (h_t_s, .inl (cI, 30, .inl t_s)), (h_t_stack, .inl (cI, 400, .inl t_stack)), (h_t_written, .inl (cC, 400, .inl t_written)), (h_t_wrong, .inl (cI, 15625, .inl t_wrong))])) (va_Qi (fun (r9 : Int32) (_ : Unit) => r9 = r) (fun (_ : Unit) (t : State) => va_P (dC, dI) vwCl [(h_t, .inr (10, [.ref h_t_s, .ref h_t_was, .ref h_t_begun, .int t_states, .ref h_t_text, .int t_typed, .ref h_t_wrong, .ref h_t_cost, .ref h_t_first, .ref h_t_block, .ref h_t_many, .ref h_t_stack, .int y_t_height, .ref h_t_written, .int y_t_length, .ref h_t_own, .ref h_t_levelAt, .ref h_t_itemAt, .ref h_t_times, .int t_at, .int t_ownLength, .int t_depth, .int t_deepest, .int t_letters, .int t_repeats, .int t_corrections, .int t_mostCorrections, .int t_place, .int t_reason])), (h_t_block, .inl (cI, 3125, .inl y_t_block)), (h_t_cost, .inl (cI, 3125, .inl y_t_cost)), (h_t_first, .inl (cI, 3125, .inl y_t_first)), (h_t_s, .inl (cI, 30, .inl t_s)), (h_t_stack, .inl (cI, 400, .inl y_t_stack)), (h_t_written, .inl (cC, 400, .inl y_t_written)), (h_t_wrong, .inl (cI, 15625, .inl y_t_wrong))] t.heap ∧ va_K (dC, dI) vwCl (tyA cI cJ cC cS) t ∧ va_D (va_A [(h_t, .inr (10, [.ref h_t_s, .ref h_t_was, .ref h_t_begun, .int t_states, .ref h_t_text, .int t_typed, .ref h_t_wrong, .ref h_t_cost, .ref h_t_first, .ref h_t_block, .ref h_t_many, .ref h_t_stack, .int t_height, .ref h_t_written, .int t_length, .ref h_t_own, .ref h_t_levelAt, .ref h_t_itemAt, .ref h_t_times, .int t_at, .int t_ownLength, .int t_depth, .int t_deepest, .int t_letters, .int t_repeats, .int t_corrections, .int t_mostCorrections, .int t_place, .int t_reason])), (h_t_block, .inl (cI, 3125, .inl t_block)), (h_t_cost, .inl (cI, 3125, .inl t_cost)), (h_t_first, .inl (cI, 3125, .inl t_first)), (h_t_s, .inl (cI, 30, .inl t_s)), (h_t_stack, .inl (cI, 400, .inl t_stack)), (h_t_written, .inl (cC, 400, .inl t_written)), (h_t_wrong, .inl (cI, 15625, .inl t_wrong))] sz) [(h_t, .inr (10, [.ref h_t_s, .ref h_t_was, .ref h_t_begun, .int t_states, .ref h_t_text, .int t_typed, .ref h_t_wrong, .ref h_t_cost, .ref h_t_first, .ref h_t_block, .ref h_t_many, .ref h_t_stack, .int y_t_height, .ref h_t_written, .int y_t_length, .ref h_t_own, .ref h_t_levelAt, .ref h_t_itemAt, .ref h_t_times, .int t_at, .int t_ownLength, .int t_depth, .int t_deepest, .int t_letters, .int t_repeats, .int t_corrections, .int t_mostCorrections, .int t_place, .int t_reason])), (h_t_block, .inl (cI, 3125, .inl y_t_block)), (h_t_cost, .inl (cI, 3125, .inl y_t_cost)), (h_t_first, .inl (cI, 3125, .inl y_t_first)), (h_t_s, .inl (cI, 30, .inl t_s)), (h_t_stack, .inl (cI, 400, .inl y_t_stack)), (h_t_written, .inl (cC, 400, .inl y_t_written)), (h_t_wrong, .inl (cI, 15625, .inl y_t_wrong))]) (va_A [(h_t, .inr (10, [.ref h_t_s, .ref h_t_was, .ref h_t_begun, .int t_states, .ref h_t_text, .int t_typed, .ref h_t_wrong, .ref h_t_cost, .ref h_t_first, .ref h_t_block, .ref h_t_many, .ref h_t_stack, .int t_height, .ref h_t_written, .int t_length, .ref h_t_own, .ref h_t_levelAt, .ref h_t_itemAt, .ref h_t_times, .int t_at, .int t_ownLength, .int t_depth, .int t_deepest, .int t_letters, .int t_repeats, .int t_corrections, .int t_mostCorrections, .int t_place, .int t_reason])), (h_t_block, .inl (cI, 3125, .inl t_block)), (h_t_cost, .inl (cI, 3125, .inl t_cost)), (h_t_first, .inl (cI, 3125, .inl t_first)), (h_t_s, .inl (cI, 30, .inl t_s)), (h_t_stack, .inl (cI, 400, .inl t_stack)), (h_t_written, .inl (cC, 400, .inl t_written)), (h_t_wrong, .inl (cI, 15625, .inl t_wrong))] sz)) 0 0 (va_A [(h_t, .inr (10, [.ref h_t_s, .ref h_t_was, .ref h_t_begun, .int t_states, .ref h_t_text, .int t_typed, .ref h_t_wrong, .ref h_t_cost, .ref h_t_first, .ref h_t_block, .ref h_t_many, .ref h_t_stack, .int t_height, .ref h_t_written, .int t_length, .ref h_t_own, .ref h_t_levelAt, .ref h_t_itemAt, .ref h_t_times, .int t_at, .int t_ownLength, .int t_depth, .int t_deepest, .int t_letters, .int t_repeats, .int t_corrections, .int t_mostCorrections, .int t_place, .int t_reason])), (h_t_block, .inl (cI, 3125, .inl t_block)), (h_t_cost, .inl (cI, 3125, .inl t_cost)), (h_t_first, .inl (cI, 3125, .inl t_first)), (h_t_s, .inl (cI, 30, .inl t_s)), (h_t_stack, .inl (cI, 400, .inl t_stack)), (h_t_written, .inl (cC, 400, .inl t_written)), (h_t_wrong, .inl (cI, 15625, .inl t_wrong))] sz) := by
  refine Met.ofW (cc := cX11_cheapest) (maxL := 5) (ret := (some .int)) (by decide) rfl ?_
  intro p e s m args below meth c s₁ B hml hv
  obtain ⟨hargs, hsz, hP, hK, hN, hD0⟩ := hv
  have hx := B.exec
  have hb := B.bytes
  have hr := B.returns
  have hts := atoms_spec (ws := wsX11_cheapest) B.pre
  have hown : s.vm.findClass RX11 = some m.cls := findClass_of_methodNamed B.named
  have hlocks := B.notSynchronized
  subst hsz
  have hD := hD0.self (sz := s.heap.size)
  generalize hAe : va_A [(h_t, .inr (10, [.ref h_t_s, .ref h_t_was, .ref h_t_begun, .int t_states, .ref h_t_text, .int t_typed, .ref h_t_wrong, .ref h_t_cost, .ref h_t_first, .ref h_t_block, .ref h_t_many, .ref h_t_stack, .int t_height, .ref h_t_written, .int t_length, .ref h_t_own, .ref h_t_levelAt, .ref h_t_itemAt, .ref h_t_times, .int t_at, .int t_ownLength, .int t_depth, .int t_deepest, .int t_letters, .int t_repeats, .int t_corrections, .int t_mostCorrections, .int t_place, .int t_reason])), (h_t_block, .inl (cI, 3125, .inl t_block)), (h_t_cost, .inl (cI, 3125, .inl t_cost)), (h_t_first, .inl (cI, 3125, .inl t_first)), (h_t_s, .inl (cI, 30, .inl t_s)), (h_t_stack, .inl (cI, 400, .inl t_stack)), (h_t_written, .inl (cC, 400, .inl t_written)), (h_t_wrong, .inl (cI, 15625, .inl t_wrong))] s.heap.size = A at hD ⊢
  have hA : ∀ q : Nat, s.heap.size ≤ q → A q := fun q h => by rw [← hAe]; exact Or.inr h
  have hS : va_S A s.heap s.heap [] := va_S.rf
  have hP : va_P (dC, dI) vwCl [(h_t, .inr (10, [.ref h_t_s, .ref h_t_was, .ref h_t_begun, .int t_states, .ref h_t_text, .int t_typed, .ref h_t_wrong, .ref h_t_cost, .ref h_t_first, .ref h_t_block, .ref h_t_many, .ref h_t_stack, .int t_height, .ref h_t_written, .int t_length, .ref h_t_own, .ref h_t_levelAt, .ref h_t_itemAt, .ref h_t_times, .int t_at, .int t_ownLength, .int t_depth, .int t_deepest, .int t_letters, .int t_repeats, .int t_corrections, .int t_mostCorrections, .int t_place, .int t_reason])), (h_t_block, .inl (cI, 3125, .inl t_block)), (h_t_cost, .inl (cI, 3125, .inl t_cost)), (h_t_first, .inl (cI, 3125, .inl t_first)), (h_t_s, .inl (cI, 30, .inl t_s)), (h_t_stack, .inl (cI, 400, .inl t_stack)), (h_t_written, .inl (cC, 400, .inl t_written)), (h_t_wrong, .inl (cI, 15625, .inl t_wrong))] s.heap := hP
  have hl := lv_entry [.ref h_t, .int x1, .int x2, .int x3] (n := 5) (Nat.le_of_ble_eq_true rfl)
  rw [show entryFrame m args 5 = entryFrame m ([.ref h_t, .int x1, .int x2, .int x3] : List Value).toArray 5 from by rw [hargs], lg_entry_eq]
  generalize (lg_sl [.ref h_t, .int x1, .int x2, .int x3] ++ List.replicate (5 - (lg_sl [.ref h_t, .int x1, .int x2, .int x3]).length) Slot.unset).toArray = ls at hl ⊢
  have hl : lv_has ls 5 [(0, .ref h_t), (1, .int x1), (2, .int x2), (3, .int x3)] := hl
  generalize hQQ : MQ below (va_Qi (fun (r9 : Int32) (_ : Unit) => r9 = r) (fun (_ : Unit) (t : State) => va_P (dC, dI) vwCl [(h_t, .inr (10, [.ref h_t_s, .ref h_t_was, .ref h_t_begun, .int t_states, .ref h_t_text, .int t_typed, .ref h_t_wrong, .ref h_t_cost, .ref h_t_first, .ref h_t_block, .ref h_t_many, .ref h_t_stack, .int y_t_height, .ref h_t_written, .int y_t_length, .ref h_t_own, .ref h_t_levelAt, .ref h_t_itemAt, .ref h_t_times, .int t_at, .int t_ownLength, .int t_depth, .int t_deepest, .int t_letters, .int t_repeats, .int t_corrections, .int t_mostCorrections, .int t_place, .int t_reason])), (h_t_block, .inl (cI, 3125, .inl y_t_block)), (h_t_cost, .inl (cI, 3125, .inl y_t_cost)), (h_t_first, .inl (cI, 3125, .inl y_t_first)), (h_t_s, .inl (cI, 30, .inl t_s)), (h_t_stack, .inl (cI, 400, .inl y_t_stack)), (h_t_written, .inl (cC, 400, .inl y_t_written)), (h_t_wrong, .inl (cI, 15625, .inl y_t_wrong))] t.heap ∧ va_K (dC, dI) vwCl (tyA cI cJ cC cS) t ∧ va_D A [(h_t, .inr (10, [.ref h_t_s, .ref h_t_was, .ref h_t_begun, .int t_states, .ref h_t_text, .int t_typed, .ref h_t_wrong, .ref h_t_cost, .ref h_t_first, .ref h_t_block, .ref h_t_many, .ref h_t_stack, .int y_t_height, .ref h_t_written, .int y_t_length, .ref h_t_own, .ref h_t_levelAt, .ref h_t_itemAt, .ref h_t_times, .int t_at, .int t_ownLength, .int t_depth, .int t_deepest, .int t_letters, .int t_repeats, .int t_corrections, .int t_mostCorrections, .int t_place, .int t_reason])), (h_t_block, .inl (cI, 3125, .inl y_t_block)), (h_t_cost, .inl (cI, 3125, .inl y_t_cost)), (h_t_first, .inl (cI, 3125, .inl y_t_first)), (h_t_s, .inl (cI, 30, .inl t_s)), (h_t_stack, .inl (cI, 400, .inl y_t_stack)), (h_t_written, .inl (cC, 400, .inl y_t_written)), (h_t_wrong, .inl (cI, 15625, .inl y_t_wrong))]) A) args s 0 0 A = QQ
  obtain ⟨H, hH⟩ : ∃ H : Heap, H = s.heap := ⟨_, rfl⟩
  obtain ⟨locs, hlocs⟩ : ∃ locs : List Loc, locs = [] := ⟨_, rfl⟩
  rw [← hH] at hP
  have hS : va_S A s.heap H locs := by rw [hH, hlocs]; exact hS
  suffices hZ : W p l e (headSpec wsX11_cheapest ({ frames := 4, cells := 0, slots := 0, locals := 92 } : Room)).room s m args below meth c H locs 0 0 QQ (F0 m 0 ls []) by rw [hH, hlocs] at hZ; exact hZ
  clear hH hlocs
  rw [fMD_cheapest] at hres
  refine lv_aload_n hx hb dX11_cheapest_0 rfl (lv_at hl 0 rfl) ?_
  refine lv_iload_n hx hb dX11_cheapest_1 rfl (lv_at hl 1 rfl) ?_
  refine lv_iload_n hx hb dX11_cheapest_2 rfl (lv_at hl 2 rfl) ?_
  obtain ⟨o1, ho1, hres⟩ := bd_of hres
  have hPc := hP.sub (ws' := [(h_t, .inr (10, [.ref h_t_s, .ref h_t_was, .ref h_t_begun, .int t_states, .ref h_t_text, .int t_typed, .ref h_t_wrong, .ref h_t_cost, .ref h_t_first, .ref h_t_block, .ref h_t_many, .ref h_t_stack, .int t_height, .ref h_t_written, .int t_length, .ref h_t_own, .ref h_t_levelAt, .ref h_t_itemAt, .ref h_t_times, .int t_at, .int t_ownLength, .int t_depth, .int t_deepest, .int t_letters, .int t_repeats, .int t_corrections, .int t_mostCorrections, .int t_place, .int t_reason])), (h_t_s, .inl (cI, 30, .inl t_s))]) [0, 4] rfl
  have hDc := hD.sub (ws' := [(h_t, .inr (10, [.ref h_t_s, .ref h_t_was, .ref h_t_begun, .int t_states, .ref h_t_text, .int t_typed, .ref h_t_wrong, .ref h_t_cost, .ref h_t_first, .ref h_t_block, .ref h_t_many, .ref h_t_stack, .int t_height, .ref h_t_written, .int t_length, .ref h_t_own, .ref h_t_levelAt, .ref h_t_itemAt, .ref h_t_times, .int t_at, .int t_ownLength, .int t_depth, .int t_deepest, .int t_letters, .int t_repeats, .int t_corrections, .int t_mostCorrections, .int t_place, .int t_reason])), (h_t_s, .inl (cI, 30, .inl t_s))]) [0, 4] (by decide) rfl
  have hFc := va_free (wc := [(h_t, .inr (10, [.ref h_t_s, .ref h_t_was, .ref h_t_begun, .int t_states, .ref h_t_text, .int t_typed, .ref h_t_wrong, .ref h_t_cost, .ref h_t_first, .ref h_t_block, .ref h_t_many, .ref h_t_stack, .int t_height, .ref h_t_written, .int t_length, .ref h_t_own, .ref h_t_levelAt, .ref h_t_itemAt, .ref h_t_times, .int t_at, .int t_ownLength, .int t_depth, .int t_deepest, .int t_letters, .int t_repeats, .int t_corrections, .int t_mostCorrections, .int t_place, .int t_reason])), (h_t_s, .inl (cI, 30, .inl t_s))]) hD hS hA [0, 4] rfl
  refine va_calli (va_runV (As := [.int x1, .int x2]) (rest := []) ⟨hx, hb, hml, hown, hts⟩ (cMD_isPart l dC dI cI cJ cC cS h_t h_t_s h_t_was h_t_begun h_t_text h_t_wrong h_t_cost h_t_first h_t_block h_t_many h_t_stack h_t_written h_t_own h_t_levelAt h_t_itemAt h_t_times H.size t_states t_typed t_height t_length t_at t_ownLength t_depth t_deepest t_letters t_repeats t_corrections t_mostCorrections t_place t_reason t_s x1 x2 o1 ho1) (cwV 2 hts gX11_cheapest_X11_isPart rfl rfl rfl (by decide +kernel) ⟨Nat.le_of_ble_eq_true rfl, Nat.le_of_ble_eq_true rfl⟩) ⟨fun a U g mk q => by obtain ⟨q0, q1, qP, qK, qN, qD⟩ := q; exact ⟨q0, q1, qP, va_K.moved (u := U) (U := U.calling g mk a) (Vm.Alike.refl U.vm) qK, nwS (u := U) (U := U.calling g mk a) rfl qN, qD⟩, va_recv hK hPc (ci := 10) (q0 := 0) rfl rfl, fun U hU hW => ⟨rfl, by rw [hU], by rw [hU]; exact hPc, va_K.moved hW.alike hK, nwW hW hN, hDc.weaken (fun _ _ _ _ => trivial)⟩⟩ rfl rfl hl.1 rfl (lv_room (Nat.le_of_ble_eq_true rfl)) dX11_cheapest_3 ⟨Nat.zero_le _, Nat.zero_le _⟩) hS (fun q _ h => hFc q h) hFc (fun r9 u9 t H1 locs ht hvm hw hB hz1 hk1 hS => ?_)
  have hw := hw.symm
  subst hw
  obtain ⟨hP1, hK1, hD1⟩ := hB
  rw [ht] at hP1
  obtain ⟨hP, hD⟩ := va_join (wr := [(h_t_block, .inl (cI, 3125, .inl t_block)), (h_t_cost, .inl (cI, 3125, .inl t_cost)), (h_t_first, .inl (cI, 3125, .inl t_first)), (h_t_stack, .inl (cI, 400, .inl t_stack)), (h_t_written, .inl (cC, 400, .inl t_written)), (h_t_wrong, .inl (cI, 15625, .inl t_wrong))]) (w1 := [(h_t, .inr (10, [.ref h_t_s, .ref h_t_was, .ref h_t_begun, .int t_states, .ref h_t_text, .int t_typed, .ref h_t_wrong, .ref h_t_cost, .ref h_t_first, .ref h_t_block, .ref h_t_many, .ref h_t_stack, .int t_height, .ref h_t_written, .int t_length, .ref h_t_own, .ref h_t_levelAt, .ref h_t_itemAt, .ref h_t_times, .int t_at, .int t_ownLength, .int t_depth, .int t_deepest, .int t_letters, .int t_repeats, .int t_corrections, .int t_mostCorrections, .int t_place, .int t_reason])), (h_t_s, .inl (cI, 30, .inl t_s))]) hP hD [0, 4] [1, 2, 3, 5, 6, 7] rfl rfl (by decide) (by decide) hk1 hFc hP1 hD1
  generalize H1 = H at hP hS ⊢
  have hP : va_P (dC, dI) vwCl [(h_t_block, .inl (cI, 3125, .inl t_block)), (h_t_cost, .inl (cI, 3125, .inl t_cost)), (h_t_first, .inl (cI, 3125, .inl t_first)), (h_t_stack, .inl (cI, 400, .inl t_stack)), (h_t_written, .inl (cC, 400, .inl t_written)), (h_t_wrong, .inl (cI, 15625, .inl t_wrong)), (h_t, .inr (10, [.ref h_t_s, .ref h_t_was, .ref h_t_begun, .int t_states, .ref h_t_text, .int t_typed, .ref h_t_wrong, .ref h_t_cost, .ref h_t_first, .ref h_t_block, .ref h_t_many, .ref h_t_stack, .int t_height, .ref h_t_written, .int t_length, .ref h_t_own, .ref h_t_levelAt, .ref h_t_itemAt, .ref h_t_times, .int t_at, .int t_ownLength, .int t_depth, .int t_deepest, .int t_letters, .int t_repeats, .int t_corrections, .int t_mostCorrections, .int t_place, .int t_reason])), (h_t_s, .inl (cI, 30, .inl t_s))] H := hP
  have hD : va_D A [(h_t_block, .inl (cI, 3125, .inl t_block)), (h_t_cost, .inl (cI, 3125, .inl t_cost)), (h_t_first, .inl (cI, 3125, .inl t_first)), (h_t_stack, .inl (cI, 400, .inl t_stack)), (h_t_written, .inl (cC, 400, .inl t_written)), (h_t_wrong, .inl (cI, 15625, .inl t_wrong)), (h_t, .inr (10, [.ref h_t_s, .ref h_t_was, .ref h_t_begun, .int t_states, .ref h_t_text, .int t_typed, .ref h_t_wrong, .ref h_t_cost, .ref h_t_first, .ref h_t_block, .ref h_t_many, .ref h_t_stack, .int t_height, .ref h_t_written, .int t_length, .ref h_t_own, .ref h_t_levelAt, .ref h_t_itemAt, .ref h_t_times, .int t_at, .int t_ownLength, .int t_depth, .int t_deepest, .int t_letters, .int t_repeats, .int t_corrections, .int t_mostCorrections, .int t_place, .int t_reason])), (h_t_s, .inl (cI, 30, .inl t_s))] := hD
  refine lv_if_eq (tgt := 19) hx hb dX11_cheapest_6 (by decide) (fun c_2 => ?_) (fun c_2 => ?_)
  · have hres := it_of hres c_2
    refine lv_ldc (v := (-1000001 : Int32)) hx hb hown (hts _ kMD_cheapest_X11_cheapest_0) dX11_cheapest_19 ?_
    obtain ⟨e9_0, e9_1, e9_2, e9_3, e9_4, e9_5, e9_6, e9_7, e9_8⟩ := tup9 hres
    subst e9_0
    subst e9_1
    subst e9_2
    subst e9_3
    subst e9_4
    subst e9_5
    subst e9_6
    subst e9_7
    subst e9_8
    rw [← hQQ]
    exact W.iret (v := (-1000001 : Int32)) hx hb hr (fun t ht hW => ⟨⟨(-1000001 : Int32), (), rfl, rfl, by rw [ht]; exact hP.sub [6, 0, 1, 2, 7, 3, 4, 5] rfl, va_K.moved hW.alike hK, hD.sub [6, 0, 1, 2, 7, 3, 4, 5] (by decide) rfl⟩, hS.F ht⟩) hS.2.2 dX11_cheapest_21
  · have hres := ie_of hres c_2
    refine lv_iload_n hx hb dX11_cheapest_9 rfl (lv_at hl 3 rfl) ?_
    refine lv_iconst (v := (0 : Int32)) hx hb dX11_cheapest_10 (by decide) ?_
    refine lv_bipush (v := (7 : Int32)) hx hb dX11_cheapest_11 (by decide) ?_
    obtain ⟨o3, ho3, hres⟩ := bd_of hres
    have hPc := hP.sub (ws' := []) [] rfl
    have hDc := hD.sub (ws' := []) [] (by decide) rfl
    have hFc := va_free (wc := []) hD hS hA [] rfl
    refine va_calli (va_runS (As := [.int x3, .int (0 : Int32), .int (7 : Int32)]) (rest := []) ⟨hx, hb, hml, hown, hts⟩ (cMD_in l dC dI cI cJ cC cS H.size x3 (0 : Int32) (7 : Int32) o3 ho3) (va_cwS 3 hts gX11_cheapest_X11_in rfl rfl rfl (by decide +kernel) ⟨Nat.le_of_ble_eq_true rfl, Nat.le_of_ble_eq_true rfl⟩) ⟨fun a U g mk q => by obtain ⟨q0, q1, qP, qK, qN, qD⟩ := q; exact ⟨q0, q1, qP, va_K.moved (u := U) (U := U.calling g mk a) (Vm.Alike.refl U.vm) qK, nwS (u := U) (U := U.calling g mk a) rfl qN, qD⟩, fun U hU hW => ⟨rfl, by rw [hU], by rw [hU]; exact hPc, va_K.moved hW.alike hK, nwW hW hN, hDc.weaken (fun _ _ _ _ => trivial)⟩⟩ rfl rfl hl.1 rfl (lv_room (Nat.le_of_ble_eq_true rfl)) dX11_cheapest_13 ⟨Nat.zero_le _, Nat.zero_le _⟩) hS (fun q _ h => hFc q h) hFc (fun r9 u9 t H1 locs ht hvm hw hB hz1 hk1 hS => ?_)
    have hw := hw.symm
    subst hw
    obtain ⟨hP1, hK1, hD1⟩ := hB
    rw [ht] at hP1
    obtain ⟨hP, hD⟩ := va_join (wr := [(h_t_block, .inl (cI, 3125, .inl t_block)), (h_t_cost, .inl (cI, 3125, .inl t_cost)), (h_t_first, .inl (cI, 3125, .inl t_first)), (h_t_stack, .inl (cI, 400, .inl t_stack)), (h_t_written, .inl (cC, 400, .inl t_written)), (h_t_wrong, .inl (cI, 15625, .inl t_wrong)), (h_t, .inr (10, [.ref h_t_s, .ref h_t_was, .ref h_t_begun, .int t_states, .ref h_t_text, .int t_typed, .ref h_t_wrong, .ref h_t_cost, .ref h_t_first, .ref h_t_block, .ref h_t_many, .ref h_t_stack, .int t_height, .ref h_t_written, .int t_length, .ref h_t_own, .ref h_t_levelAt, .ref h_t_itemAt, .ref h_t_times, .int t_at, .int t_ownLength, .int t_depth, .int t_deepest, .int t_letters, .int t_repeats, .int t_corrections, .int t_mostCorrections, .int t_place, .int t_reason])), (h_t_s, .inl (cI, 30, .inl t_s))]) (w1 := []) hP hD [] [0, 1, 2, 3, 4, 5, 6, 7] rfl rfl (by decide) (by decide) hk1 hFc hP1 hD1
    generalize H1 = H at hP hS ⊢
    have hP : va_P (dC, dI) vwCl [(h_t_block, .inl (cI, 3125, .inl t_block)), (h_t_cost, .inl (cI, 3125, .inl t_cost)), (h_t_first, .inl (cI, 3125, .inl t_first)), (h_t_stack, .inl (cI, 400, .inl t_stack)), (h_t_written, .inl (cC, 400, .inl t_written)), (h_t_wrong, .inl (cI, 15625, .inl t_wrong)), (h_t, .inr (10, [.ref h_t_s, .ref h_t_was, .ref h_t_begun, .int t_states, .ref h_t_text, .int t_typed, .ref h_t_wrong, .ref h_t_cost, .ref h_t_first, .ref h_t_block, .ref h_t_many, .ref h_t_stack, .int t_height, .ref h_t_written, .int t_length, .ref h_t_own, .ref h_t_levelAt, .ref h_t_itemAt, .ref h_t_times, .int t_at, .int t_ownLength, .int t_depth, .int t_deepest, .int t_letters, .int t_repeats, .int t_corrections, .int t_mostCorrections, .int t_place, .int t_reason])), (h_t_s, .inl (cI, 30, .inl t_s))] H := hP
    have hD : va_D A [(h_t_block, .inl (cI, 3125, .inl t_block)), (h_t_cost, .inl (cI, 3125, .inl t_cost)), (h_t_first, .inl (cI, 3125, .inl t_first)), (h_t_stack, .inl (cI, 400, .inl t_stack)), (h_t_written, .inl (cC, 400, .inl t_written)), (h_t_wrong, .inl (cI, 15625, .inl t_wrong)), (h_t, .inr (10, [.ref h_t_s, .ref h_t_was, .ref h_t_begun, .int t_states, .ref h_t_text, .int t_typed, .ref h_t_wrong, .ref h_t_cost, .ref h_t_first, .ref h_t_block, .ref h_t_many, .ref h_t_stack, .int t_height, .ref h_t_written, .int t_length, .ref h_t_own, .ref h_t_levelAt, .ref h_t_itemAt, .ref h_t_times, .int t_at, .int t_ownLength, .int t_depth, .int t_deepest, .int t_letters, .int t_repeats, .int t_corrections, .int t_mostCorrections, .int t_place, .int t_reason])), (h_t_s, .inl (cI, 30, .inl t_s))] := hD
    refine lv_if_ne (tgt := 22) hx hb dX11_cheapest_16 (by decide) (fun c_4 => ?_) (fun c_4 => ?_)
    · have hres := ie_of hres c_4
      refine lv_aload_n hx hb dX11_cheapest_22 rfl (lv_at hl 0 rfl) ?_
      obtain ⟨o5, ho5, hres⟩ := bd_of hres
      have hPc := hP.sub (ws' := [(h_t, .inr (10, [.ref h_t_s, .ref h_t_was, .ref h_t_begun, .int t_states, .ref h_t_text, .int t_typed, .ref h_t_wrong, .ref h_t_cost, .ref h_t_first, .ref h_t_block, .ref h_t_many, .ref h_t_stack, .int t_height, .ref h_t_written, .int t_length, .ref h_t_own, .ref h_t_levelAt, .ref h_t_itemAt, .ref h_t_times, .int t_at, .int t_ownLength, .int t_depth, .int t_deepest, .int t_letters, .int t_repeats, .int t_corrections, .int t_mostCorrections, .int t_place, .int t_reason])), (h_t_block, .inl (cI, 3125, .inl t_block)), (h_t_cost, .inl (cI, 3125, .inl t_cost)), (h_t_first, .inl (cI, 3125, .inl t_first)), (h_t_s, .inl (cI, 30, .inl t_s)), (h_t_wrong, .inl (cI, 15625, .inl t_wrong))]) [6, 0, 1, 2, 7, 5] rfl
      have hDc := hD.sub (ws' := [(h_t, .inr (10, [.ref h_t_s, .ref h_t_was, .ref h_t_begun, .int t_states, .ref h_t_text, .int t_typed, .ref h_t_wrong, .ref h_t_cost, .ref h_t_first, .ref h_t_block, .ref h_t_many, .ref h_t_stack, .int t_height, .ref h_t_written, .int t_length, .ref h_t_own, .ref h_t_levelAt, .ref h_t_itemAt, .ref h_t_times, .int t_at, .int t_ownLength, .int t_depth, .int t_deepest, .int t_letters, .int t_repeats, .int t_corrections, .int t_mostCorrections, .int t_place, .int t_reason])), (h_t_block, .inl (cI, 3125, .inl t_block)), (h_t_cost, .inl (cI, 3125, .inl t_cost)), (h_t_first, .inl (cI, 3125, .inl t_first)), (h_t_s, .inl (cI, 30, .inl t_s)), (h_t_wrong, .inl (cI, 15625, .inl t_wrong))]) [6, 0, 1, 2, 7, 5] (by decide) rfl
      have hFc := va_free (wc := [(h_t, .inr (10, [.ref h_t_s, .ref h_t_was, .ref h_t_begun, .int t_states, .ref h_t_text, .int t_typed, .ref h_t_wrong, .ref h_t_cost, .ref h_t_first, .ref h_t_block, .ref h_t_many, .ref h_t_stack, .int t_height, .ref h_t_written, .int t_length, .ref h_t_own, .ref h_t_levelAt, .ref h_t_itemAt, .ref h_t_times, .int t_at, .int t_ownLength, .int t_depth, .int t_deepest, .int t_letters, .int t_repeats, .int t_corrections, .int t_mostCorrections, .int t_place, .int t_reason])), (h_t_block, .inl (cI, 3125, .inl t_block)), (h_t_cost, .inl (cI, 3125, .inl t_cost)), (h_t_first, .inl (cI, 3125, .inl t_first)), (h_t_s, .inl (cI, 30, .inl t_s)), (h_t_wrong, .inl (cI, 15625, .inl t_wrong))]) hD hS hA [6, 0, 1, 2, 7, 5] rfl
      refine va_callv (va_runV (As := []) (rest := []) ⟨hx, hb, hml, hown, hts⟩ (cMD_lays l dC dI cI cJ cC cS h_t h_t_s h_t_was h_t_begun h_t_text h_t_wrong h_t_cost h_t_first h_t_block h_t_many h_t_stack h_t_written h_t_own h_t_levelAt h_t_itemAt h_t_times H.size t_states t_typed t_height t_length t_at t_ownLength t_depth t_deepest t_letters t_repeats t_corrections t_mostCorrections t_place t_reason t_block t_cost t_first t_s t_wrong o5.1 o5.2.1 o5.2.2.1 o5.2.2.2 ho5) (cwV 0 hts gX11_cheapest_X11_lays rfl rfl rfl (by decide +kernel) ⟨Nat.le_of_ble_eq_true rfl, Nat.le_of_ble_eq_true rfl⟩) ⟨fun a U g mk q => by obtain ⟨q0, q1, qP, qK, qN, qD⟩ := q; exact ⟨q0, q1, qP, va_K.moved (u := U) (U := U.calling g mk a) (Vm.Alike.refl U.vm) qK, nwS (u := U) (U := U.calling g mk a) rfl qN, qD⟩, va_recv hK hPc (ci := 10) (q0 := 0) rfl rfl, fun U hU hW => ⟨rfl, by rw [hU], by rw [hU]; exact hPc, va_K.moved hW.alike hK, nwW hW hN, hDc.weaken (fun _ _ _ _ => trivial)⟩⟩ rfl rfl hl.1 rfl (lv_room (Nat.le_of_ble_eq_true rfl)) dX11_cheapest_23 ⟨Nat.zero_le _, Nat.zero_le _⟩) hS (fun q _ h => hFc q h) hFc (fun u9 t H1 locs ht hvm hw hB hz1 hk1 hS => ?_)
      obtain ⟨hP1, hK1, hD1⟩ := hB
      rw [ht] at hP1
      obtain ⟨hP, hD⟩ := va_join (wr := [(h_t_stack, .inl (cI, 400, .inl t_stack)), (h_t_written, .inl (cC, 400, .inl t_written))]) (w1 := [(h_t, .inr (10, [.ref h_t_s, .ref h_t_was, .ref h_t_begun, .int t_states, .ref h_t_text, .int t_typed, .ref h_t_wrong, .ref h_t_cost, .ref h_t_first, .ref h_t_block, .ref h_t_many, .ref h_t_stack, .int t_height, .ref h_t_written, .int t_length, .ref h_t_own, .ref h_t_levelAt, .ref h_t_itemAt, .ref h_t_times, .int t_at, .int t_ownLength, .int t_depth, .int t_deepest, .int t_letters, .int t_repeats, .int t_corrections, .int t_mostCorrections, .int t_place, .int t_reason])), (h_t_block, .inl (cI, 3125, .inl o5.1)), (h_t_cost, .inl (cI, 3125, .inl o5.2.1)), (h_t_first, .inl (cI, 3125, .inl o5.2.2.1)), (h_t_s, .inl (cI, 30, .inl t_s)), (h_t_wrong, .inl (cI, 15625, .inl o5.2.2.2))]) hP hD [6, 0, 1, 2, 7, 5] [3, 4] rfl rfl (by decide) (by decide) hk1 hFc hP1 hD1
      generalize H1 = H at hP hS ⊢
      have hP : va_P (dC, dI) vwCl [(h_t_stack, .inl (cI, 400, .inl t_stack)), (h_t_written, .inl (cC, 400, .inl t_written)), (h_t, .inr (10, [.ref h_t_s, .ref h_t_was, .ref h_t_begun, .int t_states, .ref h_t_text, .int t_typed, .ref h_t_wrong, .ref h_t_cost, .ref h_t_first, .ref h_t_block, .ref h_t_many, .ref h_t_stack, .int t_height, .ref h_t_written, .int t_length, .ref h_t_own, .ref h_t_levelAt, .ref h_t_itemAt, .ref h_t_times, .int t_at, .int t_ownLength, .int t_depth, .int t_deepest, .int t_letters, .int t_repeats, .int t_corrections, .int t_mostCorrections, .int t_place, .int t_reason])), (h_t_block, .inl (cI, 3125, .inl o5.1)), (h_t_cost, .inl (cI, 3125, .inl o5.2.1)), (h_t_first, .inl (cI, 3125, .inl o5.2.2.1)), (h_t_s, .inl (cI, 30, .inl t_s)), (h_t_wrong, .inl (cI, 15625, .inl o5.2.2.2))] H := hP
      have hD : va_D A [(h_t_stack, .inl (cI, 400, .inl t_stack)), (h_t_written, .inl (cC, 400, .inl t_written)), (h_t, .inr (10, [.ref h_t_s, .ref h_t_was, .ref h_t_begun, .int t_states, .ref h_t_text, .int t_typed, .ref h_t_wrong, .ref h_t_cost, .ref h_t_first, .ref h_t_block, .ref h_t_many, .ref h_t_stack, .int t_height, .ref h_t_written, .int t_length, .ref h_t_own, .ref h_t_levelAt, .ref h_t_itemAt, .ref h_t_times, .int t_at, .int t_ownLength, .int t_depth, .int t_deepest, .int t_letters, .int t_repeats, .int t_corrections, .int t_mostCorrections, .int t_place, .int t_reason])), (h_t_block, .inl (cI, 3125, .inl o5.1)), (h_t_cost, .inl (cI, 3125, .inl o5.2.1)), (h_t_first, .inl (cI, 3125, .inl o5.2.2.1)), (h_t_s, .inl (cI, 30, .inl t_s)), (h_t_wrong, .inl (cI, 15625, .inl o5.2.2.2))] := hD
      refine lv_aload_n hx hb dX11_cheapest_26 rfl (lv_at hl 0 rfl) ?_
      refine lv_iload_n hx hb dX11_cheapest_27 rfl (lv_at hl 1 rfl) ?_
      refine lv_iload_n hx hb dX11_cheapest_28 rfl (lv_at hl 2 rfl) ?_
      obtain ⟨o6, ho6, hres⟩ := bd_of hres
      have hPc := hP.sub (ws' := [(h_t, .inr (10, [.ref h_t_s, .ref h_t_was, .ref h_t_begun, .int t_states, .ref h_t_text, .int t_typed, .ref h_t_wrong, .ref h_t_cost, .ref h_t_first, .ref h_t_block, .ref h_t_many, .ref h_t_stack, .int t_height, .ref h_t_written, .int t_length, .ref h_t_own, .ref h_t_levelAt, .ref h_t_itemAt, .ref h_t_times, .int t_at, .int t_ownLength, .int t_depth, .int t_deepest, .int t_letters, .int t_repeats, .int t_corrections, .int t_mostCorrections, .int t_place, .int t_reason])), (h_t_block, .inl (cI, 3125, .inl o5.1)), (h_t_first, .inl (cI, 3125, .inl o5.2.2.1)), (h_t_s, .inl (cI, 30, .inl t_s)), (h_t_stack, .inl (cI, 400, .inl t_stack)), (h_t_written, .inl (cC, 400, .inl t_written))]) [2, 3, 5, 6, 0, 1] rfl
      have hDc := hD.sub (ws' := [(h_t, .inr (10, [.ref h_t_s, .ref h_t_was, .ref h_t_begun, .int t_states, .ref h_t_text, .int t_typed, .ref h_t_wrong, .ref h_t_cost, .ref h_t_first, .ref h_t_block, .ref h_t_many, .ref h_t_stack, .int t_height, .ref h_t_written, .int t_length, .ref h_t_own, .ref h_t_levelAt, .ref h_t_itemAt, .ref h_t_times, .int t_at, .int t_ownLength, .int t_depth, .int t_deepest, .int t_letters, .int t_repeats, .int t_corrections, .int t_mostCorrections, .int t_place, .int t_reason])), (h_t_block, .inl (cI, 3125, .inl o5.1)), (h_t_first, .inl (cI, 3125, .inl o5.2.2.1)), (h_t_s, .inl (cI, 30, .inl t_s)), (h_t_stack, .inl (cI, 400, .inl t_stack)), (h_t_written, .inl (cC, 400, .inl t_written))]) [2, 3, 5, 6, 0, 1] (by decide) rfl
      have hFc := va_free (wc := [(h_t, .inr (10, [.ref h_t_s, .ref h_t_was, .ref h_t_begun, .int t_states, .ref h_t_text, .int t_typed, .ref h_t_wrong, .ref h_t_cost, .ref h_t_first, .ref h_t_block, .ref h_t_many, .ref h_t_stack, .int t_height, .ref h_t_written, .int t_length, .ref h_t_own, .ref h_t_levelAt, .ref h_t_itemAt, .ref h_t_times, .int t_at, .int t_ownLength, .int t_depth, .int t_deepest, .int t_letters, .int t_repeats, .int t_corrections, .int t_mostCorrections, .int t_place, .int t_reason])), (h_t_block, .inl (cI, 3125, .inl o5.1)), (h_t_first, .inl (cI, 3125, .inl o5.2.2.1)), (h_t_s, .inl (cI, 30, .inl t_s)), (h_t_stack, .inl (cI, 400, .inl t_stack)), (h_t_written, .inl (cC, 400, .inl t_written))]) hD hS hA [2, 3, 5, 6, 0, 1] rfl
      refine va_callv (va_runV (As := [.int x1, .int x2]) (rest := []) ⟨hx, hb, hml, hown, hts⟩ (cMD_describes l dC dI cI cJ cC cS h_t h_t_s h_t_was h_t_begun h_t_text h_t_wrong h_t_cost h_t_first h_t_block h_t_many h_t_stack h_t_written h_t_own h_t_levelAt h_t_itemAt h_t_times H.size t_states t_typed t_height t_length t_at t_ownLength t_depth t_deepest t_letters t_repeats t_corrections t_mostCorrections t_place t_reason o5.1 o5.2.2.1 t_s t_stack t_written x1 x2 o6.1 o6.2.1 o6.2.2.1 o6.2.2.2 ho6) (cwV 2 hts gX11_cheapest_X11_describes rfl rfl rfl (by decide +kernel) ⟨Nat.le_of_ble_eq_true rfl, Nat.le_of_ble_eq_true rfl⟩) ⟨fun a U g mk q => by obtain ⟨q0, q1, qP, qK, qN, qD⟩ := q; exact ⟨q0, q1, qP, va_K.moved (u := U) (U := U.calling g mk a) (Vm.Alike.refl U.vm) qK, nwS (u := U) (U := U.calling g mk a) rfl qN, qD⟩, va_recv hK hPc (ci := 10) (q0 := 0) rfl rfl, fun U hU hW => ⟨rfl, by rw [hU], by rw [hU]; exact hPc, va_K.moved hW.alike hK, nwW hW hN, hDc.weaken (fun _ _ _ _ => trivial)⟩⟩ rfl rfl hl.1 rfl (lv_room (Nat.le_of_ble_eq_true rfl)) dX11_cheapest_29 ⟨Nat.zero_le _, Nat.zero_le _⟩) hS (fun q _ h => hFc q h) hFc (fun u9 t H1 locs ht hvm hw hB hz1 hk1 hS => ?_)
      obtain ⟨hP1, hK1, hD1⟩ := hB
      rw [ht] at hP1
      obtain ⟨hP, hD⟩ := va_join (wr := [(h_t_cost, .inl (cI, 3125, .inl o5.2.1)), (h_t_wrong, .inl (cI, 15625, .inl o5.2.2.2))]) (w1 := [(h_t, .inr (10, [.ref h_t_s, .ref h_t_was, .ref h_t_begun, .int t_states, .ref h_t_text, .int t_typed, .ref h_t_wrong, .ref h_t_cost, .ref h_t_first, .ref h_t_block, .ref h_t_many, .ref h_t_stack, .int o6.1, .ref h_t_written, .int o6.2.1, .ref h_t_own, .ref h_t_levelAt, .ref h_t_itemAt, .ref h_t_times, .int t_at, .int t_ownLength, .int t_depth, .int t_deepest, .int t_letters, .int t_repeats, .int t_corrections, .int t_mostCorrections, .int t_place, .int t_reason])), (h_t_block, .inl (cI, 3125, .inl o5.1)), (h_t_first, .inl (cI, 3125, .inl o5.2.2.1)), (h_t_s, .inl (cI, 30, .inl t_s)), (h_t_stack, .inl (cI, 400, .inl o6.2.2.1)), (h_t_written, .inl (cC, 400, .inl o6.2.2.2))]) hP hD [2, 3, 5, 6, 0, 1] [4, 7] rfl rfl (by decide) (by decide) hk1 hFc hP1 hD1
      generalize H1 = H at hP hS ⊢
      have hP : va_P (dC, dI) vwCl [(h_t_cost, .inl (cI, 3125, .inl o5.2.1)), (h_t_wrong, .inl (cI, 15625, .inl o5.2.2.2)), (h_t, .inr (10, [.ref h_t_s, .ref h_t_was, .ref h_t_begun, .int t_states, .ref h_t_text, .int t_typed, .ref h_t_wrong, .ref h_t_cost, .ref h_t_first, .ref h_t_block, .ref h_t_many, .ref h_t_stack, .int o6.1, .ref h_t_written, .int o6.2.1, .ref h_t_own, .ref h_t_levelAt, .ref h_t_itemAt, .ref h_t_times, .int t_at, .int t_ownLength, .int t_depth, .int t_deepest, .int t_letters, .int t_repeats, .int t_corrections, .int t_mostCorrections, .int t_place, .int t_reason])), (h_t_block, .inl (cI, 3125, .inl o5.1)), (h_t_first, .inl (cI, 3125, .inl o5.2.2.1)), (h_t_s, .inl (cI, 30, .inl t_s)), (h_t_stack, .inl (cI, 400, .inl o6.2.2.1)), (h_t_written, .inl (cC, 400, .inl o6.2.2.2))] H := hP
      have hD : va_D A [(h_t_cost, .inl (cI, 3125, .inl o5.2.1)), (h_t_wrong, .inl (cI, 15625, .inl o5.2.2.2)), (h_t, .inr (10, [.ref h_t_s, .ref h_t_was, .ref h_t_begun, .int t_states, .ref h_t_text, .int t_typed, .ref h_t_wrong, .ref h_t_cost, .ref h_t_first, .ref h_t_block, .ref h_t_many, .ref h_t_stack, .int o6.1, .ref h_t_written, .int o6.2.1, .ref h_t_own, .ref h_t_levelAt, .ref h_t_itemAt, .ref h_t_times, .int t_at, .int t_ownLength, .int t_depth, .int t_deepest, .int t_letters, .int t_repeats, .int t_corrections, .int t_mostCorrections, .int t_place, .int t_reason])), (h_t_block, .inl (cI, 3125, .inl o5.1)), (h_t_first, .inl (cI, 3125, .inl o5.2.2.1)), (h_t_s, .inl (cI, 30, .inl t_s)), (h_t_stack, .inl (cI, 400, .inl o6.2.2.1)), (h_t_written, .inl (cC, 400, .inl o6.2.2.2))] := hD
      refine lv_aload_n hx hb dX11_cheapest_32 rfl (lv_at hl 0 rfl) ?_
      refine va_get (D := (dC, dI)) (ci := 10) (v := .ref h_t_s) (C := RX11) (T := TX11) (N := 29) hx hb hts iMD_cheapest_X11_cheapest_2 hown hK hP 2 rfl rfl 0 (by decide) (hts _ kMD_cheapest_X11_cheapest_1) (fun _ h9 => h9) rfl dX11_cheapest_33 ?_
      refine lv_iconst (v := (5 : Int32)) hx hb dX11_cheapest_36 (by decide) ?_
      refine va_iald hx hb hK hP 5 0 rfl rfl (vin (by decide)) dX11_cheapest_37 ?_
      refine lv_iload_n hx hb dX11_cheapest_38 rfl (lv_at hl 1 rfl) ?_
      refine lv_iload_n hx hb dX11_cheapest_39 rfl (lv_at hl 2 rfl) ?_
      obtain ⟨o7, ho7, hres⟩ := bd_of hres
      have hPc := hP.sub (ws' := []) [] rfl
      have hDc := hD.sub (ws' := []) [] (by decide) rfl
      have hFc := va_free (wc := []) hD hS hA [] rfl
      refine va_calli (va_runS (As := [.int (rd t_s (5 : Int32)), .int x1, .int x2]) (rest := []) ⟨hx, hb, hml, hown, hts⟩ (cMD_part l dC dI cI cJ cC cS H.size (rd t_s (5 : Int32)) x1 x2 o7 ho7) (va_cwS 3 hts gX11_cheapest_X11_part rfl rfl rfl (by decide +kernel) ⟨Nat.le_of_ble_eq_true rfl, Nat.le_of_ble_eq_true rfl⟩) ⟨fun a U g mk q => by obtain ⟨q0, q1, qP, qK, qN, qD⟩ := q; exact ⟨q0, q1, qP, va_K.moved (u := U) (U := U.calling g mk a) (Vm.Alike.refl U.vm) qK, nwS (u := U) (U := U.calling g mk a) rfl qN, qD⟩, fun U hU hW => ⟨rfl, by rw [hU], by rw [hU]; exact hPc, va_K.moved hW.alike hK, nwW hW hN, hDc.weaken (fun _ _ _ _ => trivial)⟩⟩ rfl rfl hl.1 rfl (lv_room (Nat.le_of_ble_eq_true rfl)) dX11_cheapest_40 ⟨Nat.zero_le _, Nat.zero_le _⟩) hS (fun q _ h => hFc q h) hFc (fun r9 u9 t H1 locs ht hvm hw hB hz1 hk1 hS => ?_)
      have hw := hw.symm
      subst hw
      obtain ⟨hP1, hK1, hD1⟩ := hB
      rw [ht] at hP1
      obtain ⟨hP, hD⟩ := va_join (wr := [(h_t_cost, .inl (cI, 3125, .inl o5.2.1)), (h_t_wrong, .inl (cI, 15625, .inl o5.2.2.2)), (h_t, .inr (10, [.ref h_t_s, .ref h_t_was, .ref h_t_begun, .int t_states, .ref h_t_text, .int t_typed, .ref h_t_wrong, .ref h_t_cost, .ref h_t_first, .ref h_t_block, .ref h_t_many, .ref h_t_stack, .int o6.1, .ref h_t_written, .int o6.2.1, .ref h_t_own, .ref h_t_levelAt, .ref h_t_itemAt, .ref h_t_times, .int t_at, .int t_ownLength, .int t_depth, .int t_deepest, .int t_letters, .int t_repeats, .int t_corrections, .int t_mostCorrections, .int t_place, .int t_reason])), (h_t_block, .inl (cI, 3125, .inl o5.1)), (h_t_first, .inl (cI, 3125, .inl o5.2.2.1)), (h_t_s, .inl (cI, 30, .inl t_s)), (h_t_stack, .inl (cI, 400, .inl o6.2.2.1)), (h_t_written, .inl (cC, 400, .inl o6.2.2.2))]) (w1 := []) hP hD [] [0, 1, 2, 3, 4, 5, 6, 7] rfl rfl (by decide) (by decide) hk1 hFc hP1 hD1
      generalize H1 = H at hP hS ⊢
      have hP : va_P (dC, dI) vwCl [(h_t_cost, .inl (cI, 3125, .inl o5.2.1)), (h_t_wrong, .inl (cI, 15625, .inl o5.2.2.2)), (h_t, .inr (10, [.ref h_t_s, .ref h_t_was, .ref h_t_begun, .int t_states, .ref h_t_text, .int t_typed, .ref h_t_wrong, .ref h_t_cost, .ref h_t_first, .ref h_t_block, .ref h_t_many, .ref h_t_stack, .int o6.1, .ref h_t_written, .int o6.2.1, .ref h_t_own, .ref h_t_levelAt, .ref h_t_itemAt, .ref h_t_times, .int t_at, .int t_ownLength, .int t_depth, .int t_deepest, .int t_letters, .int t_repeats, .int t_corrections, .int t_mostCorrections, .int t_place, .int t_reason])), (h_t_block, .inl (cI, 3125, .inl o5.1)), (h_t_first, .inl (cI, 3125, .inl o5.2.2.1)), (h_t_s, .inl (cI, 30, .inl t_s)), (h_t_stack, .inl (cI, 400, .inl o6.2.2.1)), (h_t_written, .inl (cC, 400, .inl o6.2.2.2))] H := hP
      have hD : va_D A [(h_t_cost, .inl (cI, 3125, .inl o5.2.1)), (h_t_wrong, .inl (cI, 15625, .inl o5.2.2.2)), (h_t, .inr (10, [.ref h_t_s, .ref h_t_was, .ref h_t_begun, .int t_states, .ref h_t_text, .int t_typed, .ref h_t_wrong, .ref h_t_cost, .ref h_t_first, .ref h_t_block, .ref h_t_many, .ref h_t_stack, .int o6.1, .ref h_t_written, .int o6.2.1, .ref h_t_own, .ref h_t_levelAt, .ref h_t_itemAt, .ref h_t_times, .int t_at, .int t_ownLength, .int t_depth, .int t_deepest, .int t_letters, .int t_repeats, .int t_corrections, .int t_mostCorrections, .int t_place, .int t_reason])), (h_t_block, .inl (cI, 3125, .inl o5.1)), (h_t_first, .inl (cI, 3125, .inl o5.2.2.1)), (h_t_s, .inl (cI, 30, .inl t_s)), (h_t_stack, .inl (cI, 400, .inl o6.2.2.1)), (h_t_written, .inl (cC, 400, .inl o6.2.2.2))] := hD
      refine lv_istore (lv' := [(4, .int o7), (0, .ref h_t), (1, .int x1), (2, .int x2), (3, .int x3)]) hx hb dX11_cheapest_43 hl (by decide) rfl (fun ls hl => ?_)
      refine lv_iload_n hx hb dX11_cheapest_45 rfl (lv_at hl 4 rfl) ?_
      by_cases c_8 : x3 = (0 : Int32)
      · have hres := it_of hres c_8
        refine lv_tableIn (off := 42) (tgt := 88) hx hb dX11_cheapest_46 (by rw [c_8]; decide) (by rw [c_8]; decide) (by rw [c_8]; rfl) (by decide) ?_
        refine lv_aload_n hx hb dX11_cheapest_88 rfl (lv_at hl 1 rfl) ?_
        refine va_get (D := (dC, dI)) (ci := 10) (v := .ref h_t_cost) (C := RX11) (T := TX11) (N := 29) hx hb hts iMD_cheapest_X11_cheapest_2 hown hK hP 2 rfl rfl 7 (by decide) (hts _ kMD_cheapest_X11_cheapest_3) (fun _ h9 => h9) rfl dX11_cheapest_89 ?_
        refine lv_iload hx hb dX11_cheapest_92 (lv_at hl 0 rfl) ?_
        obtain ⟨c_9, hres⟩ := ck_of hres
        refine va_iald hx hb hK hP 0 0 rfl rfl c_9 dX11_cheapest_94 ?_
        obtain ⟨e9_0, e9_1, e9_2, e9_3, e9_4, e9_5, e9_6, e9_7, e9_8⟩ := tup9 hres
        subst e9_0
        subst e9_1
        subst e9_2
        subst e9_3
        subst e9_4
        subst e9_5
        subst e9_6
        subst e9_7
        subst e9_8
        rw [← hQQ]
        exact W.iret (v := (rd o5.2.1 o7)) hx hb hr (fun t ht hW => ⟨⟨(rd o5.2.1 o7), (), rfl, rfl, by rw [ht]; exact hP.sub [2, 3, 0, 4, 5, 6, 7, 1] rfl, va_K.moved hW.alike hK, hD.sub [2, 3, 0, 4, 5, 6, 7, 1] (by decide) rfl⟩, hS.F ht⟩) hS.2.2 dX11_cheapest_95
      · have hres := ie_of hres c_8
        by_cases c_10 : x3 = (1 : Int32)
        · have hres := it_of hres c_10
          refine lv_tableIn (off := 50) (tgt := 96) hx hb dX11_cheapest_46 (by rw [c_10]; decide) (by rw [c_10]; decide) (by rw [c_10]; rfl) (by decide) ?_
          refine lv_aload_n hx hb dX11_cheapest_96 rfl (lv_at hl 1 rfl) ?_
          refine lv_iconst (v := (0 : Int32)) hx hb dX11_cheapest_97 (by decide) ?_
          obtain ⟨o11, ho11, hres⟩ := bd_of hres
          have hPc := hP.sub (ws' := [(h_t, .inr (10, [.ref h_t_s, .ref h_t_was, .ref h_t_begun, .int t_states, .ref h_t_text, .int t_typed, .ref h_t_wrong, .ref h_t_cost, .ref h_t_first, .ref h_t_block, .ref h_t_many, .ref h_t_stack, .int o6.1, .ref h_t_written, .int o6.2.1, .ref h_t_own, .ref h_t_levelAt, .ref h_t_itemAt, .ref h_t_times, .int t_at, .int t_ownLength, .int t_depth, .int t_deepest, .int t_letters, .int t_repeats, .int t_corrections, .int t_mostCorrections, .int t_place, .int t_reason])), (h_t_written, .inl (cC, 400, .inl o6.2.2.2))]) [2, 7] rfl
          have hDc := hD.sub (ws' := [(h_t, .inr (10, [.ref h_t_s, .ref h_t_was, .ref h_t_begun, .int t_states, .ref h_t_text, .int t_typed, .ref h_t_wrong, .ref h_t_cost, .ref h_t_first, .ref h_t_block, .ref h_t_many, .ref h_t_stack, .int o6.1, .ref h_t_written, .int o6.2.1, .ref h_t_own, .ref h_t_levelAt, .ref h_t_itemAt, .ref h_t_times, .int t_at, .int t_ownLength, .int t_depth, .int t_deepest, .int t_letters, .int t_repeats, .int t_corrections, .int t_mostCorrections, .int t_place, .int t_reason])), (h_t_written, .inl (cC, 400, .inl o6.2.2.2))]) [2, 7] (by decide) rfl
          have hFc := va_free (wc := [(h_t, .inr (10, [.ref h_t_s, .ref h_t_was, .ref h_t_begun, .int t_states, .ref h_t_text, .int t_typed, .ref h_t_wrong, .ref h_t_cost, .ref h_t_first, .ref h_t_block, .ref h_t_many, .ref h_t_stack, .int o6.1, .ref h_t_written, .int o6.2.1, .ref h_t_own, .ref h_t_levelAt, .ref h_t_itemAt, .ref h_t_times, .int t_at, .int t_ownLength, .int t_depth, .int t_deepest, .int t_letters, .int t_repeats, .int t_corrections, .int t_mostCorrections, .int t_place, .int t_reason])), (h_t_written, .inl (cC, 400, .inl o6.2.2.2))]) hD hS hA [2, 7] rfl
          refine va_calli (va_runV (As := [.int (0 : Int32)]) (rest := []) ⟨hx, hb, hml, hown, hts⟩ (cMD_levels l dC dI cI cJ cC cS h_t h_t_s h_t_was h_t_begun h_t_text h_t_wrong h_t_cost h_t_first h_t_block h_t_many h_t_stack h_t_written h_t_own h_t_levelAt h_t_itemAt h_t_times H.size t_states t_typed o6.1 o6.2.1 t_at t_ownLength t_depth t_deepest t_letters t_repeats t_corrections t_mostCorrections t_place t_reason o6.2.2.2 (0 : Int32) o11 ho11) (cwV 1 hts gX11_cheapest_X11_levels rfl rfl rfl (by decide +kernel) ⟨Nat.le_of_ble_eq_true rfl, Nat.le_of_ble_eq_true rfl⟩) ⟨fun a U g mk q => by obtain ⟨q0, q1, qP, qK, qN, qD⟩ := q; exact ⟨q0, q1, qP, va_K.moved (u := U) (U := U.calling g mk a) (Vm.Alike.refl U.vm) qK, nwS (u := U) (U := U.calling g mk a) rfl qN, qD⟩, va_recv hK hPc (ci := 10) (q0 := 0) rfl rfl, fun U hU hW => ⟨rfl, by rw [hU], by rw [hU]; exact hPc, va_K.moved hW.alike hK, nwW hW hN, hDc.weaken (fun _ _ _ _ => trivial)⟩⟩ rfl rfl hl.1 rfl (lv_room (Nat.le_of_ble_eq_true rfl)) dX11_cheapest_98 ⟨Nat.zero_le _, Nat.zero_le _⟩) hS (fun q _ h => hFc q h) hFc (fun r9 u9 t H1 locs ht hvm hw hB hz1 hk1 hS => ?_)
          have hw := hw.symm
          subst hw
          obtain ⟨hP1, hK1, hD1⟩ := hB
          rw [ht] at hP1
          obtain ⟨hP, hD⟩ := va_join (wr := [(h_t_cost, .inl (cI, 3125, .inl o5.2.1)), (h_t_wrong, .inl (cI, 15625, .inl o5.2.2.2)), (h_t_block, .inl (cI, 3125, .inl o5.1)), (h_t_first, .inl (cI, 3125, .inl o5.2.2.1)), (h_t_s, .inl (cI, 30, .inl t_s)), (h_t_stack, .inl (cI, 400, .inl o6.2.2.1))]) (w1 := [(h_t, .inr (10, [.ref h_t_s, .ref h_t_was, .ref h_t_begun, .int t_states, .ref h_t_text, .int t_typed, .ref h_t_wrong, .ref h_t_cost, .ref h_t_first, .ref h_t_block, .ref h_t_many, .ref h_t_stack, .int o6.1, .ref h_t_written, .int o6.2.1, .ref h_t_own, .ref h_t_levelAt, .ref h_t_itemAt, .ref h_t_times, .int t_at, .int t_ownLength, .int t_depth, .int t_deepest, .int t_letters, .int t_repeats, .int t_corrections, .int t_mostCorrections, .int t_place, .int t_reason])), (h_t_written, .inl (cC, 400, .inl o6.2.2.2))]) hP hD [2, 7] [0, 1, 3, 4, 5, 6] rfl rfl (by decide) (by decide) hk1 hFc hP1 hD1
          generalize H1 = H at hP hS ⊢
          have hP : va_P (dC, dI) vwCl [(h_t_cost, .inl (cI, 3125, .inl o5.2.1)), (h_t_wrong, .inl (cI, 15625, .inl o5.2.2.2)), (h_t_block, .inl (cI, 3125, .inl o5.1)), (h_t_first, .inl (cI, 3125, .inl o5.2.2.1)), (h_t_s, .inl (cI, 30, .inl t_s)), (h_t_stack, .inl (cI, 400, .inl o6.2.2.1)), (h_t, .inr (10, [.ref h_t_s, .ref h_t_was, .ref h_t_begun, .int t_states, .ref h_t_text, .int t_typed, .ref h_t_wrong, .ref h_t_cost, .ref h_t_first, .ref h_t_block, .ref h_t_many, .ref h_t_stack, .int o6.1, .ref h_t_written, .int o6.2.1, .ref h_t_own, .ref h_t_levelAt, .ref h_t_itemAt, .ref h_t_times, .int t_at, .int t_ownLength, .int t_depth, .int t_deepest, .int t_letters, .int t_repeats, .int t_corrections, .int t_mostCorrections, .int t_place, .int t_reason])), (h_t_written, .inl (cC, 400, .inl o6.2.2.2))] H := hP
          have hD : va_D A [(h_t_cost, .inl (cI, 3125, .inl o5.2.1)), (h_t_wrong, .inl (cI, 15625, .inl o5.2.2.2)), (h_t_block, .inl (cI, 3125, .inl o5.1)), (h_t_first, .inl (cI, 3125, .inl o5.2.2.1)), (h_t_s, .inl (cI, 30, .inl t_s)), (h_t_stack, .inl (cI, 400, .inl o6.2.2.1)), (h_t, .inr (10, [.ref h_t_s, .ref h_t_was, .ref h_t_begun, .int t_states, .ref h_t_text, .int t_typed, .ref h_t_wrong, .ref h_t_cost, .ref h_t_first, .ref h_t_block, .ref h_t_many, .ref h_t_stack, .int o6.1, .ref h_t_written, .int o6.2.1, .ref h_t_own, .ref h_t_levelAt, .ref h_t_itemAt, .ref h_t_times, .int t_at, .int t_ownLength, .int t_depth, .int t_deepest, .int t_letters, .int t_repeats, .int t_corrections, .int t_mostCorrections, .int t_place, .int t_reason])), (h_t_written, .inl (cC, 400, .inl o6.2.2.2))] := hD
          obtain ⟨e9_0, e9_1, e9_2, e9_3, e9_4, e9_5, e9_6, e9_7, e9_8⟩ := tup9 hres
          subst e9_0
          subst e9_1
          subst e9_2
          subst e9_3
          subst e9_4
          subst e9_5
          subst e9_6
          subst e9_7
          subst e9_8
          rw [← hQQ]
          exact W.iret (v := o11) hx hb hr (fun t ht hW => ⟨⟨o11, (), rfl, rfl, by rw [ht]; exact hP.sub [6, 2, 0, 3, 4, 5, 7, 1] rfl, va_K.moved hW.alike hK, hD.sub [6, 2, 0, 3, 4, 5, 7, 1] (by decide) rfl⟩, hS.F ht⟩) hS.2.2 dX11_cheapest_101
        · have hres := ie_of hres c_10
          by_cases c_12 : x3 = (2 : Int32)
          · have hres := it_of hres c_12
            refine lv_tableIn (off := 56) (tgt := 102) hx hb dX11_cheapest_46 (by rw [c_12]; decide) (by rw [c_12]; decide) (by rw [c_12]; rfl) (by decide) ?_
            refine lv_aload_n hx hb dX11_cheapest_102 rfl (lv_at hl 1 rfl) ?_
            refine lv_iconst (v := (1 : Int32)) hx hb dX11_cheapest_103 (by decide) ?_
            obtain ⟨o13, ho13, hres⟩ := bd_of hres
            have hPc := hP.sub (ws' := [(h_t, .inr (10, [.ref h_t_s, .ref h_t_was, .ref h_t_begun, .int t_states, .ref h_t_text, .int t_typed, .ref h_t_wrong, .ref h_t_cost, .ref h_t_first, .ref h_t_block, .ref h_t_many, .ref h_t_stack, .int o6.1, .ref h_t_written, .int o6.2.1, .ref h_t_own, .ref h_t_levelAt, .ref h_t_itemAt, .ref h_t_times, .int t_at, .int t_ownLength, .int t_depth, .int t_deepest, .int t_letters, .int t_repeats, .int t_corrections, .int t_mostCorrections, .int t_place, .int t_reason])), (h_t_written, .inl (cC, 400, .inl o6.2.2.2))]) [2, 7] rfl
            have hDc := hD.sub (ws' := [(h_t, .inr (10, [.ref h_t_s, .ref h_t_was, .ref h_t_begun, .int t_states, .ref h_t_text, .int t_typed, .ref h_t_wrong, .ref h_t_cost, .ref h_t_first, .ref h_t_block, .ref h_t_many, .ref h_t_stack, .int o6.1, .ref h_t_written, .int o6.2.1, .ref h_t_own, .ref h_t_levelAt, .ref h_t_itemAt, .ref h_t_times, .int t_at, .int t_ownLength, .int t_depth, .int t_deepest, .int t_letters, .int t_repeats, .int t_corrections, .int t_mostCorrections, .int t_place, .int t_reason])), (h_t_written, .inl (cC, 400, .inl o6.2.2.2))]) [2, 7] (by decide) rfl
            have hFc := va_free (wc := [(h_t, .inr (10, [.ref h_t_s, .ref h_t_was, .ref h_t_begun, .int t_states, .ref h_t_text, .int t_typed, .ref h_t_wrong, .ref h_t_cost, .ref h_t_first, .ref h_t_block, .ref h_t_many, .ref h_t_stack, .int o6.1, .ref h_t_written, .int o6.2.1, .ref h_t_own, .ref h_t_levelAt, .ref h_t_itemAt, .ref h_t_times, .int t_at, .int t_ownLength, .int t_depth, .int t_deepest, .int t_letters, .int t_repeats, .int t_corrections, .int t_mostCorrections, .int t_place, .int t_reason])), (h_t_written, .inl (cC, 400, .inl o6.2.2.2))]) hD hS hA [2, 7] rfl
            refine va_calli (va_runV (As := [.int (1 : Int32)]) (rest := []) ⟨hx, hb, hml, hown, hts⟩ (cMD_levels l dC dI cI cJ cC cS h_t h_t_s h_t_was h_t_begun h_t_text h_t_wrong h_t_cost h_t_first h_t_block h_t_many h_t_stack h_t_written h_t_own h_t_levelAt h_t_itemAt h_t_times H.size t_states t_typed o6.1 o6.2.1 t_at t_ownLength t_depth t_deepest t_letters t_repeats t_corrections t_mostCorrections t_place t_reason o6.2.2.2 (1 : Int32) o13 ho13) (cwV 1 hts gX11_cheapest_X11_levels rfl rfl rfl (by decide +kernel) ⟨Nat.le_of_ble_eq_true rfl, Nat.le_of_ble_eq_true rfl⟩) ⟨fun a U g mk q => by obtain ⟨q0, q1, qP, qK, qN, qD⟩ := q; exact ⟨q0, q1, qP, va_K.moved (u := U) (U := U.calling g mk a) (Vm.Alike.refl U.vm) qK, nwS (u := U) (U := U.calling g mk a) rfl qN, qD⟩, va_recv hK hPc (ci := 10) (q0 := 0) rfl rfl, fun U hU hW => ⟨rfl, by rw [hU], by rw [hU]; exact hPc, va_K.moved hW.alike hK, nwW hW hN, hDc.weaken (fun _ _ _ _ => trivial)⟩⟩ rfl rfl hl.1 rfl (lv_room (Nat.le_of_ble_eq_true rfl)) dX11_cheapest_104 ⟨Nat.zero_le _, Nat.zero_le _⟩) hS (fun q _ h => hFc q h) hFc (fun r9 u9 t H1 locs ht hvm hw hB hz1 hk1 hS => ?_)
            have hw := hw.symm
            subst hw
            obtain ⟨hP1, hK1, hD1⟩ := hB
            rw [ht] at hP1
            obtain ⟨hP, hD⟩ := va_join (wr := [(h_t_cost, .inl (cI, 3125, .inl o5.2.1)), (h_t_wrong, .inl (cI, 15625, .inl o5.2.2.2)), (h_t_block, .inl (cI, 3125, .inl o5.1)), (h_t_first, .inl (cI, 3125, .inl o5.2.2.1)), (h_t_s, .inl (cI, 30, .inl t_s)), (h_t_stack, .inl (cI, 400, .inl o6.2.2.1))]) (w1 := [(h_t, .inr (10, [.ref h_t_s, .ref h_t_was, .ref h_t_begun, .int t_states, .ref h_t_text, .int t_typed, .ref h_t_wrong, .ref h_t_cost, .ref h_t_first, .ref h_t_block, .ref h_t_many, .ref h_t_stack, .int o6.1, .ref h_t_written, .int o6.2.1, .ref h_t_own, .ref h_t_levelAt, .ref h_t_itemAt, .ref h_t_times, .int t_at, .int t_ownLength, .int t_depth, .int t_deepest, .int t_letters, .int t_repeats, .int t_corrections, .int t_mostCorrections, .int t_place, .int t_reason])), (h_t_written, .inl (cC, 400, .inl o6.2.2.2))]) hP hD [2, 7] [0, 1, 3, 4, 5, 6] rfl rfl (by decide) (by decide) hk1 hFc hP1 hD1
            generalize H1 = H at hP hS ⊢
            have hP : va_P (dC, dI) vwCl [(h_t_cost, .inl (cI, 3125, .inl o5.2.1)), (h_t_wrong, .inl (cI, 15625, .inl o5.2.2.2)), (h_t_block, .inl (cI, 3125, .inl o5.1)), (h_t_first, .inl (cI, 3125, .inl o5.2.2.1)), (h_t_s, .inl (cI, 30, .inl t_s)), (h_t_stack, .inl (cI, 400, .inl o6.2.2.1)), (h_t, .inr (10, [.ref h_t_s, .ref h_t_was, .ref h_t_begun, .int t_states, .ref h_t_text, .int t_typed, .ref h_t_wrong, .ref h_t_cost, .ref h_t_first, .ref h_t_block, .ref h_t_many, .ref h_t_stack, .int o6.1, .ref h_t_written, .int o6.2.1, .ref h_t_own, .ref h_t_levelAt, .ref h_t_itemAt, .ref h_t_times, .int t_at, .int t_ownLength, .int t_depth, .int t_deepest, .int t_letters, .int t_repeats, .int t_corrections, .int t_mostCorrections, .int t_place, .int t_reason])), (h_t_written, .inl (cC, 400, .inl o6.2.2.2))] H := hP
            have hD : va_D A [(h_t_cost, .inl (cI, 3125, .inl o5.2.1)), (h_t_wrong, .inl (cI, 15625, .inl o5.2.2.2)), (h_t_block, .inl (cI, 3125, .inl o5.1)), (h_t_first, .inl (cI, 3125, .inl o5.2.2.1)), (h_t_s, .inl (cI, 30, .inl t_s)), (h_t_stack, .inl (cI, 400, .inl o6.2.2.1)), (h_t, .inr (10, [.ref h_t_s, .ref h_t_was, .ref h_t_begun, .int t_states, .ref h_t_text, .int t_typed, .ref h_t_wrong, .ref h_t_cost, .ref h_t_first, .ref h_t_block, .ref h_t_many, .ref h_t_stack, .int o6.1, .ref h_t_written, .int o6.2.1, .ref h_t_own, .ref h_t_levelAt, .ref h_t_itemAt, .ref h_t_times, .int t_at, .int t_ownLength, .int t_depth, .int t_deepest, .int t_letters, .int t_repeats, .int t_corrections, .int t_mostCorrections, .int t_place, .int t_reason])), (h_t_written, .inl (cC, 400, .inl o6.2.2.2))] := hD
            obtain ⟨e9_0, e9_1, e9_2, e9_3, e9_4, e9_5, e9_6, e9_7, e9_8⟩ := tup9 hres
            subst e9_0
            subst e9_1
            subst e9_2
            subst e9_3
            subst e9_4
            subst e9_5
            subst e9_6
            subst e9_7
            subst e9_8
            rw [← hQQ]
            exact W.iret (v := o13) hx hb hr (fun t ht hW => ⟨⟨o13, (), rfl, rfl, by rw [ht]; exact hP.sub [6, 2, 0, 3, 4, 5, 7, 1] rfl, va_K.moved hW.alike hK, hD.sub [6, 2, 0, 3, 4, 5, 7, 1] (by decide) rfl⟩, hS.F ht⟩) hS.2.2 dX11_cheapest_107
          · have hres := ie_of hres c_12
            by_cases c_14 : x3 = (3 : Int32)
            · have hres := it_of hres c_14
              refine lv_tableIn (off := 62) (tgt := 108) hx hb dX11_cheapest_46 (by rw [c_14]; decide) (by rw [c_14]; decide) (by rw [c_14]; rfl) (by decide) ?_
              refine lv_aload_n hx hb dX11_cheapest_108 rfl (lv_at hl 1 rfl) ?_
              refine lv_bipush (v := (40 : Int32)) hx hb dX11_cheapest_109 (by decide) ?_
              obtain ⟨o15, ho15, hres⟩ := bd_of hres
              have hPc := hP.sub (ws' := [(h_t, .inr (10, [.ref h_t_s, .ref h_t_was, .ref h_t_begun, .int t_states, .ref h_t_text, .int t_typed, .ref h_t_wrong, .ref h_t_cost, .ref h_t_first, .ref h_t_block, .ref h_t_many, .ref h_t_stack, .int o6.1, .ref h_t_written, .int o6.2.1, .ref h_t_own, .ref h_t_levelAt, .ref h_t_itemAt, .ref h_t_times, .int t_at, .int t_ownLength, .int t_depth, .int t_deepest, .int t_letters, .int t_repeats, .int t_corrections, .int t_mostCorrections, .int t_place, .int t_reason])), (h_t_written, .inl (cC, 400, .inl o6.2.2.2))]) [2, 7] rfl
              have hDc := hD.sub (ws' := [(h_t, .inr (10, [.ref h_t_s, .ref h_t_was, .ref h_t_begun, .int t_states, .ref h_t_text, .int t_typed, .ref h_t_wrong, .ref h_t_cost, .ref h_t_first, .ref h_t_block, .ref h_t_many, .ref h_t_stack, .int o6.1, .ref h_t_written, .int o6.2.1, .ref h_t_own, .ref h_t_levelAt, .ref h_t_itemAt, .ref h_t_times, .int t_at, .int t_ownLength, .int t_depth, .int t_deepest, .int t_letters, .int t_repeats, .int t_corrections, .int t_mostCorrections, .int t_place, .int t_reason])), (h_t_written, .inl (cC, 400, .inl o6.2.2.2))]) [2, 7] (by decide) rfl
              have hFc := va_free (wc := [(h_t, .inr (10, [.ref h_t_s, .ref h_t_was, .ref h_t_begun, .int t_states, .ref h_t_text, .int t_typed, .ref h_t_wrong, .ref h_t_cost, .ref h_t_first, .ref h_t_block, .ref h_t_many, .ref h_t_stack, .int o6.1, .ref h_t_written, .int o6.2.1, .ref h_t_own, .ref h_t_levelAt, .ref h_t_itemAt, .ref h_t_times, .int t_at, .int t_ownLength, .int t_depth, .int t_deepest, .int t_letters, .int t_repeats, .int t_corrections, .int t_mostCorrections, .int t_place, .int t_reason])), (h_t_written, .inl (cC, 400, .inl o6.2.2.2))]) hD hS hA [2, 7] rfl
              refine va_calli (va_runV (As := [.int (40 : Int32)]) (rest := []) ⟨hx, hb, hml, hown, hts⟩ (cMD_signs l dC dI cI cJ cC cS h_t h_t_s h_t_was h_t_begun h_t_text h_t_wrong h_t_cost h_t_first h_t_block h_t_many h_t_stack h_t_written h_t_own h_t_levelAt h_t_itemAt h_t_times H.size t_states t_typed o6.1 o6.2.1 t_at t_ownLength t_depth t_deepest t_letters t_repeats t_corrections t_mostCorrections t_place t_reason o6.2.2.2 (40 : Int32) o15 ho15) (cwV 1 hts gX11_cheapest_X11_signs rfl rfl rfl (by decide +kernel) ⟨Nat.le_of_ble_eq_true rfl, Nat.le_of_ble_eq_true rfl⟩) ⟨fun a U g mk q => by obtain ⟨q0, q1, qP, qK, qN, qD⟩ := q; exact ⟨q0, q1, qP, va_K.moved (u := U) (U := U.calling g mk a) (Vm.Alike.refl U.vm) qK, nwS (u := U) (U := U.calling g mk a) rfl qN, qD⟩, va_recv hK hPc (ci := 10) (q0 := 0) rfl rfl, fun U hU hW => ⟨rfl, by rw [hU], by rw [hU]; exact hPc, va_K.moved hW.alike hK, nwW hW hN, hDc.weaken (fun _ _ _ _ => trivial)⟩⟩ rfl rfl hl.1 rfl (lv_room (Nat.le_of_ble_eq_true rfl)) dX11_cheapest_111 ⟨Nat.zero_le _, Nat.zero_le _⟩) hS (fun q _ h => hFc q h) hFc (fun r9 u9 t H1 locs ht hvm hw hB hz1 hk1 hS => ?_)
              have hw := hw.symm
              subst hw
              obtain ⟨hP1, hK1, hD1⟩ := hB
              rw [ht] at hP1
              obtain ⟨hP, hD⟩ := va_join (wr := [(h_t_cost, .inl (cI, 3125, .inl o5.2.1)), (h_t_wrong, .inl (cI, 15625, .inl o5.2.2.2)), (h_t_block, .inl (cI, 3125, .inl o5.1)), (h_t_first, .inl (cI, 3125, .inl o5.2.2.1)), (h_t_s, .inl (cI, 30, .inl t_s)), (h_t_stack, .inl (cI, 400, .inl o6.2.2.1))]) (w1 := [(h_t, .inr (10, [.ref h_t_s, .ref h_t_was, .ref h_t_begun, .int t_states, .ref h_t_text, .int t_typed, .ref h_t_wrong, .ref h_t_cost, .ref h_t_first, .ref h_t_block, .ref h_t_many, .ref h_t_stack, .int o6.1, .ref h_t_written, .int o6.2.1, .ref h_t_own, .ref h_t_levelAt, .ref h_t_itemAt, .ref h_t_times, .int t_at, .int t_ownLength, .int t_depth, .int t_deepest, .int t_letters, .int t_repeats, .int t_corrections, .int t_mostCorrections, .int t_place, .int t_reason])), (h_t_written, .inl (cC, 400, .inl o6.2.2.2))]) hP hD [2, 7] [0, 1, 3, 4, 5, 6] rfl rfl (by decide) (by decide) hk1 hFc hP1 hD1
              generalize H1 = H at hP hS ⊢
              have hP : va_P (dC, dI) vwCl [(h_t_cost, .inl (cI, 3125, .inl o5.2.1)), (h_t_wrong, .inl (cI, 15625, .inl o5.2.2.2)), (h_t_block, .inl (cI, 3125, .inl o5.1)), (h_t_first, .inl (cI, 3125, .inl o5.2.2.1)), (h_t_s, .inl (cI, 30, .inl t_s)), (h_t_stack, .inl (cI, 400, .inl o6.2.2.1)), (h_t, .inr (10, [.ref h_t_s, .ref h_t_was, .ref h_t_begun, .int t_states, .ref h_t_text, .int t_typed, .ref h_t_wrong, .ref h_t_cost, .ref h_t_first, .ref h_t_block, .ref h_t_many, .ref h_t_stack, .int o6.1, .ref h_t_written, .int o6.2.1, .ref h_t_own, .ref h_t_levelAt, .ref h_t_itemAt, .ref h_t_times, .int t_at, .int t_ownLength, .int t_depth, .int t_deepest, .int t_letters, .int t_repeats, .int t_corrections, .int t_mostCorrections, .int t_place, .int t_reason])), (h_t_written, .inl (cC, 400, .inl o6.2.2.2))] H := hP
              have hD : va_D A [(h_t_cost, .inl (cI, 3125, .inl o5.2.1)), (h_t_wrong, .inl (cI, 15625, .inl o5.2.2.2)), (h_t_block, .inl (cI, 3125, .inl o5.1)), (h_t_first, .inl (cI, 3125, .inl o5.2.2.1)), (h_t_s, .inl (cI, 30, .inl t_s)), (h_t_stack, .inl (cI, 400, .inl o6.2.2.1)), (h_t, .inr (10, [.ref h_t_s, .ref h_t_was, .ref h_t_begun, .int t_states, .ref h_t_text, .int t_typed, .ref h_t_wrong, .ref h_t_cost, .ref h_t_first, .ref h_t_block, .ref h_t_many, .ref h_t_stack, .int o6.1, .ref h_t_written, .int o6.2.1, .ref h_t_own, .ref h_t_levelAt, .ref h_t_itemAt, .ref h_t_times, .int t_at, .int t_ownLength, .int t_depth, .int t_deepest, .int t_letters, .int t_repeats, .int t_corrections, .int t_mostCorrections, .int t_place, .int t_reason])), (h_t_written, .inl (cC, 400, .inl o6.2.2.2))] := hD
              obtain ⟨e9_0, e9_1, e9_2, e9_3, e9_4, e9_5, e9_6, e9_7, e9_8⟩ := tup9 hres
              subst e9_0
              subst e9_1
              subst e9_2
              subst e9_3
              subst e9_4
              subst e9_5
              subst e9_6
              subst e9_7
              subst e9_8
              rw [← hQQ]
              exact W.iret (v := o15) hx hb hr (fun t ht hW => ⟨⟨o15, (), rfl, rfl, by rw [ht]; exact hP.sub [6, 2, 0, 3, 4, 5, 7, 1] rfl, va_K.moved hW.alike hK, hD.sub [6, 2, 0, 3, 4, 5, 7, 1] (by decide) rfl⟩, hS.F ht⟩) hS.2.2 dX11_cheapest_114
            · have hres := ie_of hres c_14
              by_cases c_16 : x3 = (4 : Int32)
              · have hres := it_of hres c_16
                refine lv_tableIn (off := 69) (tgt := 115) hx hb dX11_cheapest_46 (by rw [c_16]; decide) (by rw [c_16]; decide) (by rw [c_16]; rfl) (by decide) ?_
                refine lv_aload_n hx hb dX11_cheapest_115 rfl (lv_at hl 1 rfl) ?_
                refine lv_bipush (v := (91 : Int32)) hx hb dX11_cheapest_116 (by decide) ?_
                obtain ⟨o17, ho17, hres⟩ := bd_of hres
                have hPc := hP.sub (ws' := [(h_t, .inr (10, [.ref h_t_s, .ref h_t_was, .ref h_t_begun, .int t_states, .ref h_t_text, .int t_typed, .ref h_t_wrong, .ref h_t_cost, .ref h_t_first, .ref h_t_block, .ref h_t_many, .ref h_t_stack, .int o6.1, .ref h_t_written, .int o6.2.1, .ref h_t_own, .ref h_t_levelAt, .ref h_t_itemAt, .ref h_t_times, .int t_at, .int t_ownLength, .int t_depth, .int t_deepest, .int t_letters, .int t_repeats, .int t_corrections, .int t_mostCorrections, .int t_place, .int t_reason])), (h_t_written, .inl (cC, 400, .inl o6.2.2.2))]) [2, 7] rfl
                have hDc := hD.sub (ws' := [(h_t, .inr (10, [.ref h_t_s, .ref h_t_was, .ref h_t_begun, .int t_states, .ref h_t_text, .int t_typed, .ref h_t_wrong, .ref h_t_cost, .ref h_t_first, .ref h_t_block, .ref h_t_many, .ref h_t_stack, .int o6.1, .ref h_t_written, .int o6.2.1, .ref h_t_own, .ref h_t_levelAt, .ref h_t_itemAt, .ref h_t_times, .int t_at, .int t_ownLength, .int t_depth, .int t_deepest, .int t_letters, .int t_repeats, .int t_corrections, .int t_mostCorrections, .int t_place, .int t_reason])), (h_t_written, .inl (cC, 400, .inl o6.2.2.2))]) [2, 7] (by decide) rfl
                have hFc := va_free (wc := [(h_t, .inr (10, [.ref h_t_s, .ref h_t_was, .ref h_t_begun, .int t_states, .ref h_t_text, .int t_typed, .ref h_t_wrong, .ref h_t_cost, .ref h_t_first, .ref h_t_block, .ref h_t_many, .ref h_t_stack, .int o6.1, .ref h_t_written, .int o6.2.1, .ref h_t_own, .ref h_t_levelAt, .ref h_t_itemAt, .ref h_t_times, .int t_at, .int t_ownLength, .int t_depth, .int t_deepest, .int t_letters, .int t_repeats, .int t_corrections, .int t_mostCorrections, .int t_place, .int t_reason])), (h_t_written, .inl (cC, 400, .inl o6.2.2.2))]) hD hS hA [2, 7] rfl
                refine va_calli (va_runV (As := [.int (91 : Int32)]) (rest := []) ⟨hx, hb, hml, hown, hts⟩ (cMD_signs l dC dI cI cJ cC cS h_t h_t_s h_t_was h_t_begun h_t_text h_t_wrong h_t_cost h_t_first h_t_block h_t_many h_t_stack h_t_written h_t_own h_t_levelAt h_t_itemAt h_t_times H.size t_states t_typed o6.1 o6.2.1 t_at t_ownLength t_depth t_deepest t_letters t_repeats t_corrections t_mostCorrections t_place t_reason o6.2.2.2 (91 : Int32) o17 ho17) (cwV 1 hts gX11_cheapest_X11_signs rfl rfl rfl (by decide +kernel) ⟨Nat.le_of_ble_eq_true rfl, Nat.le_of_ble_eq_true rfl⟩) ⟨fun a U g mk q => by obtain ⟨q0, q1, qP, qK, qN, qD⟩ := q; exact ⟨q0, q1, qP, va_K.moved (u := U) (U := U.calling g mk a) (Vm.Alike.refl U.vm) qK, nwS (u := U) (U := U.calling g mk a) rfl qN, qD⟩, va_recv hK hPc (ci := 10) (q0 := 0) rfl rfl, fun U hU hW => ⟨rfl, by rw [hU], by rw [hU]; exact hPc, va_K.moved hW.alike hK, nwW hW hN, hDc.weaken (fun _ _ _ _ => trivial)⟩⟩ rfl rfl hl.1 rfl (lv_room (Nat.le_of_ble_eq_true rfl)) dX11_cheapest_118 ⟨Nat.zero_le _, Nat.zero_le _⟩) hS (fun q _ h => hFc q h) hFc (fun r9 u9 t H1 locs ht hvm hw hB hz1 hk1 hS => ?_)
                have hw := hw.symm
                subst hw
                obtain ⟨hP1, hK1, hD1⟩ := hB
                rw [ht] at hP1
                obtain ⟨hP, hD⟩ := va_join (wr := [(h_t_cost, .inl (cI, 3125, .inl o5.2.1)), (h_t_wrong, .inl (cI, 15625, .inl o5.2.2.2)), (h_t_block, .inl (cI, 3125, .inl o5.1)), (h_t_first, .inl (cI, 3125, .inl o5.2.2.1)), (h_t_s, .inl (cI, 30, .inl t_s)), (h_t_stack, .inl (cI, 400, .inl o6.2.2.1))]) (w1 := [(h_t, .inr (10, [.ref h_t_s, .ref h_t_was, .ref h_t_begun, .int t_states, .ref h_t_text, .int t_typed, .ref h_t_wrong, .ref h_t_cost, .ref h_t_first, .ref h_t_block, .ref h_t_many, .ref h_t_stack, .int o6.1, .ref h_t_written, .int o6.2.1, .ref h_t_own, .ref h_t_levelAt, .ref h_t_itemAt, .ref h_t_times, .int t_at, .int t_ownLength, .int t_depth, .int t_deepest, .int t_letters, .int t_repeats, .int t_corrections, .int t_mostCorrections, .int t_place, .int t_reason])), (h_t_written, .inl (cC, 400, .inl o6.2.2.2))]) hP hD [2, 7] [0, 1, 3, 4, 5, 6] rfl rfl (by decide) (by decide) hk1 hFc hP1 hD1
                generalize H1 = H at hP hS ⊢
                have hP : va_P (dC, dI) vwCl [(h_t_cost, .inl (cI, 3125, .inl o5.2.1)), (h_t_wrong, .inl (cI, 15625, .inl o5.2.2.2)), (h_t_block, .inl (cI, 3125, .inl o5.1)), (h_t_first, .inl (cI, 3125, .inl o5.2.2.1)), (h_t_s, .inl (cI, 30, .inl t_s)), (h_t_stack, .inl (cI, 400, .inl o6.2.2.1)), (h_t, .inr (10, [.ref h_t_s, .ref h_t_was, .ref h_t_begun, .int t_states, .ref h_t_text, .int t_typed, .ref h_t_wrong, .ref h_t_cost, .ref h_t_first, .ref h_t_block, .ref h_t_many, .ref h_t_stack, .int o6.1, .ref h_t_written, .int o6.2.1, .ref h_t_own, .ref h_t_levelAt, .ref h_t_itemAt, .ref h_t_times, .int t_at, .int t_ownLength, .int t_depth, .int t_deepest, .int t_letters, .int t_repeats, .int t_corrections, .int t_mostCorrections, .int t_place, .int t_reason])), (h_t_written, .inl (cC, 400, .inl o6.2.2.2))] H := hP
                have hD : va_D A [(h_t_cost, .inl (cI, 3125, .inl o5.2.1)), (h_t_wrong, .inl (cI, 15625, .inl o5.2.2.2)), (h_t_block, .inl (cI, 3125, .inl o5.1)), (h_t_first, .inl (cI, 3125, .inl o5.2.2.1)), (h_t_s, .inl (cI, 30, .inl t_s)), (h_t_stack, .inl (cI, 400, .inl o6.2.2.1)), (h_t, .inr (10, [.ref h_t_s, .ref h_t_was, .ref h_t_begun, .int t_states, .ref h_t_text, .int t_typed, .ref h_t_wrong, .ref h_t_cost, .ref h_t_first, .ref h_t_block, .ref h_t_many, .ref h_t_stack, .int o6.1, .ref h_t_written, .int o6.2.1, .ref h_t_own, .ref h_t_levelAt, .ref h_t_itemAt, .ref h_t_times, .int t_at, .int t_ownLength, .int t_depth, .int t_deepest, .int t_letters, .int t_repeats, .int t_corrections, .int t_mostCorrections, .int t_place, .int t_reason])), (h_t_written, .inl (cC, 400, .inl o6.2.2.2))] := hD
                obtain ⟨e9_0, e9_1, e9_2, e9_3, e9_4, e9_5, e9_6, e9_7, e9_8⟩ := tup9 hres
                subst e9_0
                subst e9_1
                subst e9_2
                subst e9_3
                subst e9_4
                subst e9_5
                subst e9_6
                subst e9_7
                subst e9_8
                rw [← hQQ]
                exact W.iret (v := o17) hx hb hr (fun t ht hW => ⟨⟨o17, (), rfl, rfl, by rw [ht]; exact hP.sub [6, 2, 0, 3, 4, 5, 7, 1] rfl, va_K.moved hW.alike hK, hD.sub [6, 2, 0, 3, 4, 5, 7, 1] (by decide) rfl⟩, hS.F ht⟩) hS.2.2 dX11_cheapest_121
              · have hres := ie_of hres c_16
                by_cases c_18 : x3 = (5 : Int32)
                · have hres := it_of hres c_18
                  refine lv_tableIn (off := 76) (tgt := 122) hx hb dX11_cheapest_46 (by rw [c_18]; decide) (by rw [c_18]; decide) (by rw [c_18]; rfl) (by decide) ?_
                  refine lv_aload_n hx hb dX11_cheapest_122 rfl (lv_at hl 1 rfl) ?_
                  refine va_get (D := (dC, dI)) (ci := 10) (v := .int o6.2.1) (C := RX11) (T := TX11) (N := 29) hx hb hts iMD_cheapest_X11_cheapest_2 hown hK hP 2 rfl rfl 14 (by decide) (hts _ kMD_cheapest_X11_cheapest_4) (fun _ h9 => h9) rfl dX11_cheapest_123 ?_
                  obtain ⟨e9_0, e9_1, e9_2, e9_3, e9_4, e9_5, e9_6, e9_7, e9_8⟩ := tup9 hres
                  subst e9_0
                  subst e9_1
                  subst e9_2
                  subst e9_3
                  subst e9_4
                  subst e9_5
                  subst e9_6
                  subst e9_7
                  subst e9_8
                  rw [← hQQ]
                  exact W.iret (v := o6.2.1) hx hb hr (fun t ht hW => ⟨⟨o6.2.1, (), rfl, rfl, by rw [ht]; exact hP.sub [2, 3, 0, 4, 5, 6, 7, 1] rfl, va_K.moved hW.alike hK, hD.sub [2, 3, 0, 4, 5, 6, 7, 1] (by decide) rfl⟩, hS.F ht⟩) hS.2.2 dX11_cheapest_126
                · have hres := ie_of hres c_18
                  by_cases c_19 : x3 = (6 : Int32)
                  · have hres := it_of hres c_19
                    refine lv_tableIn (off := 81) (tgt := 127) hx hb dX11_cheapest_46 (by rw [c_19]; decide) (by rw [c_19]; decide) (by rw [c_19]; rfl) (by decide) ?_
                    refine lv_aload_n hx hb dX11_cheapest_127 rfl (lv_at hl 1 rfl) ?_
                    refine va_get (D := (dC, dI)) (ci := 10) (v := .ref h_t_first) (C := RX11) (T := TX11) (N := 29) hx hb hts iMD_cheapest_X11_cheapest_2 hown hK hP 2 rfl rfl 8 (by decide) (hts _ kMD_cheapest_X11_cheapest_5) (fun _ h9 => h9) rfl dX11_cheapest_128 ?_
                    refine lv_iload hx hb dX11_cheapest_131 (lv_at hl 0 rfl) ?_
                    obtain ⟨c_20, hres⟩ := ck_of hres
                    refine va_iald hx hb hK hP 4 0 rfl rfl c_20 dX11_cheapest_133 ?_
                    obtain ⟨e9_0, e9_1, e9_2, e9_3, e9_4, e9_5, e9_6, e9_7, e9_8⟩ := tup9 hres
                    subst e9_0
                    subst e9_1
                    subst e9_2
                    subst e9_3
                    subst e9_4
                    subst e9_5
                    subst e9_6
                    subst e9_7
                    subst e9_8
                    rw [← hQQ]
                    exact W.iret (v := (rd o5.2.2.1 o7)) hx hb hr (fun t ht hW => ⟨⟨(rd o5.2.2.1 o7), (), rfl, rfl, by rw [ht]; exact hP.sub [2, 3, 0, 4, 5, 6, 7, 1] rfl, va_K.moved hW.alike hK, hD.sub [2, 3, 0, 4, 5, 6, 7, 1] (by decide) rfl⟩, hS.F ht⟩) hS.2.2 dX11_cheapest_134
                  · have hres := ie_of hres c_19
                    refine lv_tableOut (tgt := 135) hx hb dX11_cheapest_46 (tab_out (lo := 0) (hi := 6) (fun k h1 h2 => by rcases (show k = 0 ∨ k = 1 ∨ k = 2 ∨ k = 3 ∨ k = 4 ∨ k = 5 ∨ k = 6 by omega) with rfl | rfl | rfl | rfl | rfl | rfl | rfl <;> assumption)) (by decide) ?_
                    refine lv_aload_n hx hb dX11_cheapest_135 rfl (lv_at hl 1 rfl) ?_
                    refine va_get (D := (dC, dI)) (ci := 10) (v := .ref h_t_first) (C := RX11) (T := TX11) (N := 29) hx hb hts iMD_cheapest_X11_cheapest_2 hown hK hP 2 rfl rfl 8 (by decide) (hts _ kMD_cheapest_X11_cheapest_5) (fun _ h9 => h9) rfl dX11_cheapest_136 ?_
                    refine lv_iload hx hb dX11_cheapest_139 (lv_at hl 0 rfl) ?_
                    obtain ⟨c_21, hres⟩ := ck_of hres
                    refine va_iald hx hb hK hP 4 0 rfl rfl c_21 dX11_cheapest_141 ?_
                    refine lv_iconst (v := (1 : Int32)) hx hb dX11_cheapest_142 (by decide) ?_
                    refine lv_icmp_ne (tgt := 150) hx hb dX11_cheapest_143 (by decide) (fun c_22 => ?_) (fun c_22 => ?_)
                    · have hres := ie_of hres c_22
                      refine lv_aload_n hx hb dX11_cheapest_150 rfl (lv_at hl 1 rfl) ?_
                      refine va_get (D := (dC, dI)) (ci := 10) (v := .ref h_t_first) (C := RX11) (T := TX11) (N := 29) hx hb hts iMD_cheapest_X11_cheapest_2 hown hK hP 2 rfl rfl 8 (by decide) (hts _ kMD_cheapest_X11_cheapest_5) (fun _ h9 => h9) rfl dX11_cheapest_151 ?_
                      refine lv_iload hx hb dX11_cheapest_154 (lv_at hl 0 rfl) ?_
                      obtain ⟨c_23, hres⟩ := ck_of hres
                      refine va_iald hx hb hK hP 4 0 rfl rfl c_23 dX11_cheapest_156 ?_
                      refine lv_aload_n hx hb dX11_cheapest_157 rfl (lv_at hl 1 rfl) ?_
                      refine va_get (D := (dC, dI)) (ci := 10) (v := .ref h_t_block) (C := RX11) (T := TX11) (N := 29) hx hb hts iMD_cheapest_X11_cheapest_2 hown hK hP 2 rfl rfl 9 (by decide) (hts _ kMD_cheapest_X11_cheapest_6) (fun _ h9 => h9) rfl dX11_cheapest_158 ?_
                      refine lv_iload hx hb dX11_cheapest_161 (lv_at hl 0 rfl) ?_
                      obtain ⟨c_24, hres⟩ := ck_of hres
                      refine va_iald hx hb hK hP 3 0 rfl rfl c_24 dX11_cheapest_163 ?_
                      obtain ⟨c_25, hres⟩ := nz_of hres
                      refine lv_idiv hx hb dX11_cheapest_164 c_25 ?_
                      obtain ⟨e9_0, e9_1, e9_2, e9_3, e9_4, e9_5, e9_6, e9_7, e9_8⟩ := tup9 hres
                      subst e9_0
                      subst e9_1
                      subst e9_2
                      subst e9_3
                      subst e9_4
                      subst e9_5
                      subst e9_6
                      subst e9_7
                      subst e9_8
                      rw [← hQQ]
                      exact W.iret (v := ((rd o5.2.2.1 o7) / (rd o5.1 o7))) hx hb hr (fun t ht hW => ⟨⟨((rd o5.2.2.1 o7) / (rd o5.1 o7)), (), rfl, rfl, by rw [ht]; exact hP.sub [2, 3, 0, 4, 5, 6, 7, 1] rfl, va_K.moved hW.alike hK, hD.sub [2, 3, 0, 4, 5, 6, 7, 1] (by decide) rfl⟩, hS.F ht⟩) hS.2.2 dX11_cheapest_165
                    · have hres := it_of hres c_22
                      refine lv_iconst (v := (1 : Int32)) hx hb dX11_cheapest_146 (by decide) ?_
                      refine lv_goto (tgt := 165) hx hb dX11_cheapest_147 (by decide) ?_
                      obtain ⟨e9_0, e9_1, e9_2, e9_3, e9_4, e9_5, e9_6, e9_7, e9_8⟩ := tup9 hres
                      subst e9_0
                      subst e9_1
                      subst e9_2
                      subst e9_3
                      subst e9_4
                      subst e9_5
                      subst e9_6
                      subst e9_7
                      subst e9_8
                      rw [← hQQ]
                      exact W.iret (v := (1 : Int32)) hx hb hr (fun t ht hW => ⟨⟨(1 : Int32), (), rfl, rfl, by rw [ht]; exact hP.sub [2, 3, 0, 4, 5, 6, 7, 1] rfl, va_K.moved hW.alike hK, hD.sub [2, 3, 0, 4, 5, 6, 7, 1] (by decide) rfl⟩, hS.F ht⟩) hS.2.2 dX11_cheapest_165
    · have hres := it_of hres c_4
      refine lv_ldc (v := (-1000001 : Int32)) hx hb hown (hts _ kMD_cheapest_X11_cheapest_0) dX11_cheapest_19 ?_
      obtain ⟨e9_0, e9_1, e9_2, e9_3, e9_4, e9_5, e9_6, e9_7, e9_8⟩ := tup9 hres
      subst e9_0
      subst e9_1
      subst e9_2
      subst e9_3
      subst e9_4
      subst e9_5
      subst e9_6
      subst e9_7
      subst e9_8
      rw [← hQQ]
      exact W.iret (v := (-1000001 : Int32)) hx hb hr (fun t ht hW => ⟨⟨(-1000001 : Int32), (), rfl, rfl, by rw [ht]; exact hP.sub [6, 0, 1, 2, 7, 3, 4, 5] rfl, va_K.moved hW.alike hK, hD.sub [6, 0, 1, 2, 7, 3, 4, 5] (by decide) rfl⟩, hS.F ht⟩) hS.2.2 dX11_cheapest_21

-- MD_clearText
def fMD_clearText (t_typed : Int32) : Option (Int32 × Int32) :=
  some (t_typed, (0 : Int32))
theorem kMD_clearText_X11_clearText_0 : Cond.fieldLink RX11 155 "RepeatNestsModel" "typed" "I" ∈ wsX11_clearText := by decide +kernel
theorem iMD_clearText_X11_clearText_1 : ∀ w ∈ wsX110, w ∈ wsX11_clearText := by decide +kernel
set_option maxHeartbeats 4000000 in
set_option maxRecDepth 100000 in
theorem cMD_clearText (l : Launch) (dC : Nat → ClassId) (dI : Nat → Nat → Nat) (cI cJ cC cS : ClassId) (h_t h_t_s h_t_was h_t_begun h_t_text h_t_wrong h_t_cost h_t_first h_t_block h_t_many h_t_stack h_t_written h_t_own h_t_levelAt h_t_itemAt h_t_times : Nat) (sz : Nat) (t_states : Int32) (t_typed : Int32) (t_height : Int32) (t_length : Int32) (t_at : Int32) (t_ownLength : Int32) (t_depth : Int32) (t_deepest : Int32) (t_letters : Int32) (t_repeats : Int32) (t_corrections : Int32) (t_mostCorrections : Int32) (t_place : Int32) (t_reason : Int32) (r : Int32) (y_t_typed : Int32) (hres : fMD_clearText t_typed = some (r, y_t_typed)) :
    Met l yX11_clearText wsX11_clearText ({ frames := 0, cells := 0, slots := 0, locals := 0 } : Room) (va_Pc [.ref h_t] (fun (U : State) => U.heap.size = sz ∧ va_P (dC, dI) vwCl [(h_t, .inr (10, [.ref h_t_s, .ref h_t_was, .ref h_t_begun, .int t_states, .ref h_t_text, .int t_typed, .ref h_t_wrong, .ref h_t_cost, .ref h_t_first, .ref h_t_block, .ref h_t_many, .ref h_t_stack, .int t_height, .ref h_t_written, .int t_length, .ref h_t_own, .ref h_t_levelAt, .ref h_t_itemAt, .ref h_t_times, .int t_at, .int t_ownLength, .int t_depth, .int t_deepest, .int t_letters, .int t_repeats, .int t_corrections, .int t_mostCorrections, .int t_place, .int t_reason]))] U.heap ∧ va_K (dC, dI) vwCl (tyA cI cJ cC cS) U ∧ nwN U ∧ va_D (fun _ => True) [(h_t, .inr (10, [.ref h_t_s, .ref h_t_was, .ref h_t_begun, .int t_states, .ref h_t_text, .int t_typed, .ref h_t_wrong, .ref h_t_cost, .ref h_t_first, .ref h_t_block, .ref h_t_many, .ref h_t_stack, .int t_height, .ref h_t_written, .int t_length, .ref h_t_own, .ref h_t_levelAt, .ref h_t_itemAt, .ref h_t_times, .int t_at, .int t_ownLength, .int t_depth, .int t_deepest, .int t_letters, .int t_repeats, .int t_corrections, .int t_mostCorrections, .int t_place, .int t_reason]))])) (va_Qi (fun (r9 : Int32) (_ : Unit) => r9 = r) (fun (_ : Unit) (t : State) => va_P (dC, dI) vwCl [(h_t, .inr (10, [.ref h_t_s, .ref h_t_was, .ref h_t_begun, .int t_states, .ref h_t_text, .int y_t_typed, .ref h_t_wrong, .ref h_t_cost, .ref h_t_first, .ref h_t_block, .ref h_t_many, .ref h_t_stack, .int t_height, .ref h_t_written, .int t_length, .ref h_t_own, .ref h_t_levelAt, .ref h_t_itemAt, .ref h_t_times, .int t_at, .int t_ownLength, .int t_depth, .int t_deepest, .int t_letters, .int t_repeats, .int t_corrections, .int t_mostCorrections, .int t_place, .int t_reason]))] t.heap ∧ va_K (dC, dI) vwCl (tyA cI cJ cC cS) t ∧ va_D (va_A [(h_t, .inr (10, [.ref h_t_s, .ref h_t_was, .ref h_t_begun, .int t_states, .ref h_t_text, .int t_typed, .ref h_t_wrong, .ref h_t_cost, .ref h_t_first, .ref h_t_block, .ref h_t_many, .ref h_t_stack, .int t_height, .ref h_t_written, .int t_length, .ref h_t_own, .ref h_t_levelAt, .ref h_t_itemAt, .ref h_t_times, .int t_at, .int t_ownLength, .int t_depth, .int t_deepest, .int t_letters, .int t_repeats, .int t_corrections, .int t_mostCorrections, .int t_place, .int t_reason]))] sz) [(h_t, .inr (10, [.ref h_t_s, .ref h_t_was, .ref h_t_begun, .int t_states, .ref h_t_text, .int y_t_typed, .ref h_t_wrong, .ref h_t_cost, .ref h_t_first, .ref h_t_block, .ref h_t_many, .ref h_t_stack, .int t_height, .ref h_t_written, .int t_length, .ref h_t_own, .ref h_t_levelAt, .ref h_t_itemAt, .ref h_t_times, .int t_at, .int t_ownLength, .int t_depth, .int t_deepest, .int t_letters, .int t_repeats, .int t_corrections, .int t_mostCorrections, .int t_place, .int t_reason]))]) (va_A [(h_t, .inr (10, [.ref h_t_s, .ref h_t_was, .ref h_t_begun, .int t_states, .ref h_t_text, .int t_typed, .ref h_t_wrong, .ref h_t_cost, .ref h_t_first, .ref h_t_block, .ref h_t_many, .ref h_t_stack, .int t_height, .ref h_t_written, .int t_length, .ref h_t_own, .ref h_t_levelAt, .ref h_t_itemAt, .ref h_t_times, .int t_at, .int t_ownLength, .int t_depth, .int t_deepest, .int t_letters, .int t_repeats, .int t_corrections, .int t_mostCorrections, .int t_place, .int t_reason]))] sz)) 0 0 (va_A [(h_t, .inr (10, [.ref h_t_s, .ref h_t_was, .ref h_t_begun, .int t_states, .ref h_t_text, .int t_typed, .ref h_t_wrong, .ref h_t_cost, .ref h_t_first, .ref h_t_block, .ref h_t_many, .ref h_t_stack, .int t_height, .ref h_t_written, .int t_length, .ref h_t_own, .ref h_t_levelAt, .ref h_t_itemAt, .ref h_t_times, .int t_at, .int t_ownLength, .int t_depth, .int t_deepest, .int t_letters, .int t_repeats, .int t_corrections, .int t_mostCorrections, .int t_place, .int t_reason]))] sz) := by
  refine Met.ofW (cc := cX11_clearText) (maxL := 2) (ret := (some .int)) (by decide) rfl ?_
  intro p e s m args below meth c s₁ B hml hv
  obtain ⟨hargs, hsz, hP, hK, hN, hD0⟩ := hv
  have hx := B.exec
  have hb := B.bytes
  have hr := B.returns
  have hts := atoms_spec (ws := wsX11_clearText) B.pre
  have hown : s.vm.findClass RX11 = some m.cls := findClass_of_methodNamed B.named
  have hlocks := B.notSynchronized
  subst hsz
  have hD := hD0.self (sz := s.heap.size)
  generalize hAe : va_A [(h_t, .inr (10, [.ref h_t_s, .ref h_t_was, .ref h_t_begun, .int t_states, .ref h_t_text, .int t_typed, .ref h_t_wrong, .ref h_t_cost, .ref h_t_first, .ref h_t_block, .ref h_t_many, .ref h_t_stack, .int t_height, .ref h_t_written, .int t_length, .ref h_t_own, .ref h_t_levelAt, .ref h_t_itemAt, .ref h_t_times, .int t_at, .int t_ownLength, .int t_depth, .int t_deepest, .int t_letters, .int t_repeats, .int t_corrections, .int t_mostCorrections, .int t_place, .int t_reason]))] s.heap.size = A at hD ⊢
  have hA : ∀ q : Nat, s.heap.size ≤ q → A q := fun q h => by rw [← hAe]; exact Or.inr h
  have hS : va_S A s.heap s.heap [] := va_S.rf
  have hP : va_P (dC, dI) vwCl [(h_t, .inr (10, [.ref h_t_s, .ref h_t_was, .ref h_t_begun, .int t_states, .ref h_t_text, .int t_typed, .ref h_t_wrong, .ref h_t_cost, .ref h_t_first, .ref h_t_block, .ref h_t_many, .ref h_t_stack, .int t_height, .ref h_t_written, .int t_length, .ref h_t_own, .ref h_t_levelAt, .ref h_t_itemAt, .ref h_t_times, .int t_at, .int t_ownLength, .int t_depth, .int t_deepest, .int t_letters, .int t_repeats, .int t_corrections, .int t_mostCorrections, .int t_place, .int t_reason]))] s.heap := hP
  have hl := lv_entry [.ref h_t] (n := 2) (Nat.le_of_ble_eq_true rfl)
  rw [show entryFrame m args 2 = entryFrame m ([.ref h_t] : List Value).toArray 2 from by rw [hargs], lg_entry_eq]
  generalize (lg_sl [.ref h_t] ++ List.replicate (2 - (lg_sl [.ref h_t]).length) Slot.unset).toArray = ls at hl ⊢
  have hl : lv_has ls 2 [(0, .ref h_t)] := hl
  generalize hQQ : MQ below (va_Qi (fun (r9 : Int32) (_ : Unit) => r9 = r) (fun (_ : Unit) (t : State) => va_P (dC, dI) vwCl [(h_t, .inr (10, [.ref h_t_s, .ref h_t_was, .ref h_t_begun, .int t_states, .ref h_t_text, .int y_t_typed, .ref h_t_wrong, .ref h_t_cost, .ref h_t_first, .ref h_t_block, .ref h_t_many, .ref h_t_stack, .int t_height, .ref h_t_written, .int t_length, .ref h_t_own, .ref h_t_levelAt, .ref h_t_itemAt, .ref h_t_times, .int t_at, .int t_ownLength, .int t_depth, .int t_deepest, .int t_letters, .int t_repeats, .int t_corrections, .int t_mostCorrections, .int t_place, .int t_reason]))] t.heap ∧ va_K (dC, dI) vwCl (tyA cI cJ cC cS) t ∧ va_D A [(h_t, .inr (10, [.ref h_t_s, .ref h_t_was, .ref h_t_begun, .int t_states, .ref h_t_text, .int y_t_typed, .ref h_t_wrong, .ref h_t_cost, .ref h_t_first, .ref h_t_block, .ref h_t_many, .ref h_t_stack, .int t_height, .ref h_t_written, .int t_length, .ref h_t_own, .ref h_t_levelAt, .ref h_t_itemAt, .ref h_t_times, .int t_at, .int t_ownLength, .int t_depth, .int t_deepest, .int t_letters, .int t_repeats, .int t_corrections, .int t_mostCorrections, .int t_place, .int t_reason]))]) A) args s 0 0 A = QQ
  obtain ⟨H, hH⟩ : ∃ H : Heap, H = s.heap := ⟨_, rfl⟩
  obtain ⟨locs, hlocs⟩ : ∃ locs : List Loc, locs = [] := ⟨_, rfl⟩
  rw [← hH] at hP
  have hS : va_S A s.heap H locs := by rw [hH, hlocs]; exact hS
  suffices hZ : W p l e (headSpec wsX11_clearText ({ frames := 0, cells := 0, slots := 0, locals := 0 } : Room)).room s m args below meth c H locs 0 0 QQ (F0 m 0 ls []) by rw [hH, hlocs] at hZ; exact hZ
  clear hH hlocs
  rw [fMD_clearText] at hres
  refine lv_aload_n hx hb dX11_clearText_0 rfl (lv_at hl 0 rfl) ?_
  refine va_get (D := (dC, dI)) (ci := 10) (v := .int t_typed) (C := RX11) (T := TX11) (N := 29) hx hb hts iMD_clearText_X11_clearText_1 hown hK hP 0 rfl rfl 5 (by decide) (hts _ kMD_clearText_X11_clearText_0) (fun _ h9 => h9) rfl dX11_clearText_1 ?_
  refine lv_istore_n (lv' := [(1, .int t_typed), (0, .ref h_t)]) hx hb dX11_clearText_4 rfl hl (by decide) rfl (fun ls hl => ?_)
  refine lv_aload_n hx hb dX11_clearText_5 rfl (lv_at hl 1 rfl) ?_
  refine lv_iconst (v := (0 : Int32)) hx hb dX11_clearText_6 (by decide) ?_
  refine va_put (D := (dC, dI)) (ci := 10) (v := .int (0 : Int32)) (ty := .int) (C := RX11) (T := TX11) (N := 29) hx hb hts iMD_clearText_X11_clearText_1 tyX11 tyX11_ok nmX11 hown hK hP hD hS 0 rfl rfl 5 (by decide) (hts _ kMD_clearText_X11_clearText_0) (fun _ h9 => h9) rfl (by decide +kernel) rfl rfl (Nat.le_of_ble_eq_true rfl) dX11_clearText_7 (fun H locs hP hD hS => ?_)
  have hP : va_P (dC, dI) vwCl [(h_t, .inr (10, [.ref h_t_s, .ref h_t_was, .ref h_t_begun, .int t_states, .ref h_t_text, .int (0 : Int32), .ref h_t_wrong, .ref h_t_cost, .ref h_t_first, .ref h_t_block, .ref h_t_many, .ref h_t_stack, .int t_height, .ref h_t_written, .int t_length, .ref h_t_own, .ref h_t_levelAt, .ref h_t_itemAt, .ref h_t_times, .int t_at, .int t_ownLength, .int t_depth, .int t_deepest, .int t_letters, .int t_repeats, .int t_corrections, .int t_mostCorrections, .int t_place, .int t_reason]))] H := hP
  have hD : va_D A [(h_t, .inr (10, [.ref h_t_s, .ref h_t_was, .ref h_t_begun, .int t_states, .ref h_t_text, .int (0 : Int32), .ref h_t_wrong, .ref h_t_cost, .ref h_t_first, .ref h_t_block, .ref h_t_many, .ref h_t_stack, .int t_height, .ref h_t_written, .int t_length, .ref h_t_own, .ref h_t_levelAt, .ref h_t_itemAt, .ref h_t_times, .int t_at, .int t_ownLength, .int t_depth, .int t_deepest, .int t_letters, .int t_repeats, .int t_corrections, .int t_mostCorrections, .int t_place, .int t_reason]))] := hD
  refine lv_iload_n hx hb dX11_clearText_10 rfl (lv_at hl 0 rfl) ?_
  obtain ⟨e9_0, e9_1⟩ := tup2 hres
  subst e9_0
  subst e9_1
  rw [← hQQ]
  exact W.iret (v := t_typed) hx hb hr (fun t ht hW => ⟨⟨t_typed, (), rfl, rfl, by rw [ht]; exact hP, va_K.moved hW.alike hK, hD⟩, hS.F ht⟩) hS.2.2 dX11_clearText_11
