-- RN_partIndex
set_option maxHeartbeats 4000000 in
set_option maxRecDepth 100000 in
theorem cRN_partIndex (l : Launch) (dC : Nat → ClassId) (dI : Nat → Nat → Nat) (cI cJ cC cS : ClassId) (sz : Nat) (x0 : Int32) (x1 : Int32) (x2 : Int32) (r : Int32) (hres : fRN_partIndex x0 x1 x2 = some r) :
    Met l yX10_partIndex wsX10_partIndex ({ frames := 0, cells := 0, slots := 0, locals := 0 } : Room) (va_Pc [.int x0, .int x1, .int x2] (fun (U : State) => U.heap.size = sz ∧ va_P (dC, dI) vwCl [] U.heap ∧ va_K (dC, dI) vwCl (tyA cI cJ cC cS) U ∧ nwN U ∧ va_D (fun _ => True) [])) (va_Qi (fun (r9 : Int32) (_ : Unit) => r9 = r) (fun (_ : Unit) (t : State) => va_P (dC, dI) vwCl [] t.heap ∧ va_K (dC, dI) vwCl (tyA cI cJ cC cS) t ∧ va_D (va_A [] sz) []) (va_A [] sz)) 0 0 (va_A [] sz) := by
  refine Met.ofW (cc := cX10_partIndex) (maxL := 3) (ret := (some .int)) (by decide) rfl ?_
  intro p e s m args below meth c s₁ B hml hv
  obtain ⟨hargs, hsz, hP, hK, hN, hD0⟩ := hv
  have hx := B.exec
  have hb := B.bytes
  have hr := B.returns
  have hts := atoms_spec (ws := wsX10_partIndex) B.pre
  have hown : s.vm.findClass RX10 = some m.cls := findClass_of_methodNamed B.named
  have hlocks := B.notSynchronized
  subst hsz
  have hD := hD0.self (sz := s.heap.size)
  generalize hAe : va_A [] s.heap.size = A at hD ⊢
  have hA : ∀ q : Nat, s.heap.size ≤ q → A q := fun q h => by rw [← hAe]; exact Or.inr h
  have hS : va_S A s.heap s.heap [] := va_S.rf
  have hP : va_P (dC, dI) vwCl [] s.heap := hP
  have hl := lv_entry [.int x0, .int x1, .int x2] (n := 3) (Nat.le_of_ble_eq_true rfl)
  rw [show entryFrame m args 3 = entryFrame m ([.int x0, .int x1, .int x2] : List Value).toArray 3 from by rw [hargs], lg_entry_eq]
  generalize (lg_sl [.int x0, .int x1, .int x2] ++ List.replicate (3 - (lg_sl [.int x0, .int x1, .int x2]).length) Slot.unset).toArray = ls at hl ⊢
  have hl : lv_has ls 3 [(0, .int x0), (1, .int x1), (2, .int x2)] := hl
  generalize hQQ : MQ below (va_Qi (fun (r9 : Int32) (_ : Unit) => r9 = r) (fun (_ : Unit) (t : State) => va_P (dC, dI) vwCl [] t.heap ∧ va_K (dC, dI) vwCl (tyA cI cJ cC cS) t ∧ va_D A []) A) args s 0 0 A = QQ
  obtain ⟨H, hH⟩ : ∃ H : Heap, H = s.heap := ⟨_, rfl⟩
  obtain ⟨locs, hlocs⟩ : ∃ locs : List Loc, locs = [] := ⟨_, rfl⟩
  rw [← hH] at hP
  have hS : va_S A s.heap H locs := by rw [hH, hlocs]; exact hS
  suffices hZ : W p l e (headSpec wsX10_partIndex ({ frames := 0, cells := 0, slots := 0, locals := 0 } : Room)).room s m args below meth c H locs 0 0 QQ (F0 m 0 ls []) by rw [hH, hlocs] at hZ; exact hZ
  clear hH hlocs
  rw [fRN_partIndex] at hres
  refine lv_iload_n hx hb dX10_partIndex_0 rfl (lv_at hl 0 rfl) ?_
  refine lv_sipush (v := (325 : Int32)) hx hb dX10_partIndex_1 (by decide) ?_
  refine lv_imul hx hb dX10_partIndex_4 ?_
  refine lv_iload_n hx hb dX10_partIndex_5 rfl (lv_at hl 2 rfl) ?_
  refine lv_iload_n hx hb dX10_partIndex_6 rfl (lv_at hl 2 rfl) ?_
  refine lv_iconst (v := (1 : Int32)) hx hb dX10_partIndex_7 (by decide) ?_
  refine lv_iadd hx hb dX10_partIndex_8 ?_
  refine lv_imul hx hb dX10_partIndex_9 ?_
  refine lv_iconst (v := (2 : Int32)) hx hb dX10_partIndex_10 (by decide) ?_
  refine lv_idiv hx hb dX10_partIndex_11 (by decide) ?_
  refine lv_iadd hx hb dX10_partIndex_12 ?_
  refine lv_iload_n hx hb dX10_partIndex_13 rfl (lv_at hl 1 rfl) ?_
  refine lv_iadd hx hb dX10_partIndex_14 ?_
  have e9_0 := Option.some.inj hres
  subst e9_0
  rw [← hQQ]
  exact W.iret (v := (((x0 * (325 : Int32)) + ((x2 * (x2 + (1 : Int32))) / (2 : Int32))) + x1)) hx hb hr (fun t ht hW => ⟨⟨(((x0 * (325 : Int32)) + ((x2 * (x2 + (1 : Int32))) / (2 : Int32))) + x1), (), rfl, rfl, by rw [ht]; exact hP, va_K.moved hW.alike hK, hD⟩, hS.F ht⟩) hS.2.2 dX10_partIndex_15

-- RN_isKind
set_option maxHeartbeats 4000000 in
set_option maxRecDepth 100000 in
theorem cRN_isKind (l : Launch) (dC : Nat → ClassId) (dI : Nat → Nat → Nat) (cI cJ cC cS : ClassId) (sz : Nat) (x0 : Int32) (r : Int32) (hres : fRN_isKind x0 = some r) :
    Met l yX10_isKind wsX10_isKind ({ frames := 0, cells := 0, slots := 0, locals := 0 } : Room) (va_Pc [.int x0] (fun (U : State) => U.heap.size = sz ∧ va_P (dC, dI) vwCl [] U.heap ∧ va_K (dC, dI) vwCl (tyA cI cJ cC cS) U ∧ nwN U ∧ va_D (fun _ => True) [])) (va_Qi (fun (r9 : Int32) (_ : Unit) => r9 = r) (fun (_ : Unit) (t : State) => va_P (dC, dI) vwCl [] t.heap ∧ va_K (dC, dI) vwCl (tyA cI cJ cC cS) t ∧ va_D (va_A [] sz) []) (va_A [] sz)) 0 0 (va_A [] sz) := by
  refine Met.ofW (cc := cX10_isKind) (maxL := 1) (ret := (some .boolean)) (by decide) rfl ?_
  intro p e s m args below meth c s₁ B hml hv
  obtain ⟨hargs, hsz, hP, hK, hN, hD0⟩ := hv
  have hx := B.exec
  have hb := B.bytes
  have hr := B.returns
  have hts := atoms_spec (ws := wsX10_isKind) B.pre
  have hown : s.vm.findClass RX10 = some m.cls := findClass_of_methodNamed B.named
  have hlocks := B.notSynchronized
  subst hsz
  have hD := hD0.self (sz := s.heap.size)
  generalize hAe : va_A [] s.heap.size = A at hD ⊢
  have hA : ∀ q : Nat, s.heap.size ≤ q → A q := fun q h => by rw [← hAe]; exact Or.inr h
  have hS : va_S A s.heap s.heap [] := va_S.rf
  have hP : va_P (dC, dI) vwCl [] s.heap := hP
  have hl := lv_entry [.int x0] (n := 1) (Nat.le_of_ble_eq_true rfl)
  rw [show entryFrame m args 1 = entryFrame m ([.int x0] : List Value).toArray 1 from by rw [hargs], lg_entry_eq]
  generalize (lg_sl [.int x0] ++ List.replicate (1 - (lg_sl [.int x0]).length) Slot.unset).toArray = ls at hl ⊢
  have hl : lv_has ls 1 [(0, .int x0)] := hl
  generalize hQQ : MQ below (va_Qi (fun (r9 : Int32) (_ : Unit) => r9 = r) (fun (_ : Unit) (t : State) => va_P (dC, dI) vwCl [] t.heap ∧ va_K (dC, dI) vwCl (tyA cI cJ cC cS) t ∧ va_D A []) A) args s 0 0 A = QQ
  obtain ⟨H, hH⟩ : ∃ H : Heap, H = s.heap := ⟨_, rfl⟩
  obtain ⟨locs, hlocs⟩ : ∃ locs : List Loc, locs = [] := ⟨_, rfl⟩
  rw [← hH] at hP
  have hS : va_S A s.heap H locs := by rw [hH, hlocs]; exact hS
  suffices hZ : W p l e (headSpec wsX10_isKind ({ frames := 0, cells := 0, slots := 0, locals := 0 } : Room)).room s m args below meth c H locs 0 0 QQ (F0 m 0 ls []) by rw [hH, hlocs] at hZ; exact hZ
  clear hH hlocs
  rw [fRN_isKind] at hres
  refine lv_iload_n hx hb dX10_isKind_0 rfl (lv_at hl 0 rfl) ?_
  refine lv_if_lt (tgt := 13) hx hb dX10_isKind_1 (by decide) (fun c_1 => ?_) (fun c_1 => ?_)
  · have hres := it_of hres c_1
    refine lv_iconst (v := (0 : Int32)) hx hb dX10_isKind_13 (by decide) ?_
    have e9_0 := Option.some.inj hres
    subst e9_0
    rw [← hQQ]
    exact W.zret (v := (0 : Int32)) hx hb hr rfl (fun t ht hW => ⟨⟨(0 : Int32), (), rfl, rfl, by rw [ht]; exact hP, va_K.moved hW.alike hK, hD⟩, hS.F ht⟩) hS.2.2 dX10_isKind_14
  · have hres := ie_of hres c_1
    refine lv_iload_n hx hb dX10_isKind_4 rfl (lv_at hl 0 rfl) ?_
    refine lv_iconst (v := (4 : Int32)) hx hb dX10_isKind_5 (by decide) ?_
    refine lv_icmp_ge (tgt := 13) hx hb dX10_isKind_6 (by decide) (fun c_2 => ?_) (fun c_2 => ?_)
    · have hres := it_of hres c_2
      refine lv_iconst (v := (0 : Int32)) hx hb dX10_isKind_13 (by decide) ?_
      have e9_0 := Option.some.inj hres
      subst e9_0
      rw [← hQQ]
      exact W.zret (v := (0 : Int32)) hx hb hr rfl (fun t ht hW => ⟨⟨(0 : Int32), (), rfl, rfl, by rw [ht]; exact hP, va_K.moved hW.alike hK, hD⟩, hS.F ht⟩) hS.2.2 dX10_isKind_14
    · have hres := ie_of hres c_2
      refine lv_iconst (v := (1 : Int32)) hx hb dX10_isKind_9 (by decide) ?_
      refine lv_goto (tgt := 14) hx hb dX10_isKind_10 (by decide) ?_
      have e9_0 := Option.some.inj hres
      subst e9_0
      rw [← hQQ]
      exact W.zret (v := (1 : Int32)) hx hb hr rfl (fun t ht hW => ⟨⟨(1 : Int32), (), rfl, rfl, by rw [ht]; exact hP, va_K.moved hW.alike hK, hD⟩, hS.F ht⟩) hS.2.2 dX10_isKind_14

-- St_init
theorem kSt_init_X7_init_0 : Cond.methodLink RX7 3 objectInit ∈ wsX7_init := by decide +kernel
theorem kSt_init_X7_init_1 : Cond.instanceMethod objectInit ∈ wsX7_init := by decide +kernel
theorem kSt_init_X7_init_2 : Cond.code objectInit ⟨#[0xb1]⟩ 1 none ∈ wsX7_init := by decide +kernel
theorem kSt_init_X7_init_3 : Cond.arrayClass .int ∈ wsX7_init := by decide +kernel
theorem kSt_init_X7_init_4 : Cond.fieldLink RX7 9 "RepeatNests$State" "letters" "[I" ∈ wsX7_init := by decide +kernel
theorem iSt_init_X7_init_5 : ∀ w ∈ wsX70, w ∈ wsX7_init := by decide +kernel
theorem kSt_init_X7_init_6 : Cond.fieldLink RX7 15 "RepeatNests$State" "settings" "[I" ∈ wsX7_init := by decide +kernel
theorem kSt_init_X7_init_7 : Cond.fieldLink RX7 18 "RepeatNests$State" "size" "I" ∈ wsX7_init := by decide +kernel
set_option maxHeartbeats 4000000 in
set_option maxRecDepth 100000 in
theorem cSt_init (l : Launch) (dC : Nat → ClassId) (dI : Nat → Nat → Nat) (cI cJ cC cS : ClassId) (h_t : Nat) (sz : Nat) (y_na_n14 : Nat → Int32) (hres : fSt_init = some y_na_n14) :
    Met l yX7_init wsX7_init ({ frames := 1, cells := 2, slots := 29, locals := 21 } : Room) (va_Pc [.ref h_t] (fun (U : State) => U.heap.size = sz ∧ va_P (dC, dI) vwCl [(h_t, .inr (6, [.null, .null, .int 0]))] U.heap ∧ va_K (dC, dI) vwCl (tyA cI cJ cC cS) U ∧ nwN U ∧ stN (va_A [(h_t, .inr (6, [.null, .null, .int 0]))] sz) U U.heap ∧ va_D (fun _ => True) [(h_t, .inr (6, [.null, .null, .int 0]))])) (va_Qv (fun (_ : Nat × Nat) => True) (fun (u8 : Nat × Nat) (t : State) => va_P (dC, dI) vwCl [(h_t, .inr (6, [.ref u8.1, .ref u8.2, .int (0 : Int32)])), (u8.1, .inl (cI, 24, .inl (fun _ => 0))), (u8.2, .inl (cI, 5, .inl y_na_n14))] t.heap ∧ va_K (dC, dI) vwCl (tyA cI cJ cC cS) t ∧ va_D (va_A [(h_t, .inr (6, [.null, .null, .int 0]))] sz) [(h_t, .inr (6, [.ref u8.1, .ref u8.2, .int (0 : Int32)])), (u8.1, .inl (cI, 24, .inl (fun _ => 0))), (u8.2, .inl (cI, 5, .inl y_na_n14))]) (va_A [(h_t, .inr (6, [.null, .null, .int 0]))] sz)) 2 29 (va_A [(h_t, .inr (6, [.null, .null, .int 0]))] sz) := by
  refine Met.ofW (cc := cX7_init) (maxL := 2) (ret := none) (by decide) rfl ?_
  intro p e s m args below meth c s₁ B hml hv
  obtain ⟨hargs, hsz, hP, hK, hN, hST, hD0⟩ := hv
  have hx := B.exec
  have hb := B.bytes
  have hr := B.returns
  have hts := atoms_spec (ws := wsX7_init) B.pre
  have hown : s.vm.findClass RX7 = some m.cls := findClass_of_methodNamed B.named
  have hlocks := B.notSynchronized
  have hin : meth.name = "<init>" := (name_of_methodNamed B.named B.method).1
  subst hsz
  have hD := hD0.self (sz := s.heap.size)
  generalize hAe : va_A [(h_t, .inr (6, [.null, .null, .int 0]))] s.heap.size = A at hD hST ⊢
  have hA : ∀ q : Nat, s.heap.size ≤ q → A q := fun q h => by rw [← hAe]; exact Or.inr h
  have hS : va_S A s.heap s.heap [] := va_S.rf
  have hP : va_P (dC, dI) vwCl [(h_t, .inr (6, [.null, .null, .int 0]))] s.heap := hP
  have hl := lv_entry [.ref h_t] (n := 2) (Nat.le_of_ble_eq_true rfl)
  rw [show entryFrame m args 2 = entryFrame m ([.ref h_t] : List Value).toArray 2 from by rw [hargs], lg_entry_eq]
  generalize (lg_sl [.ref h_t] ++ List.replicate (2 - (lg_sl [.ref h_t]).length) Slot.unset).toArray = ls at hl ⊢
  have hl : lv_has ls 2 [(0, .ref h_t)] := hl
  generalize hQQ : MQ below (va_Qv (fun (_ : Nat × Nat) => True) (fun (u8 : Nat × Nat) (t : State) => va_P (dC, dI) vwCl [(h_t, .inr (6, [.ref u8.1, .ref u8.2, .int (0 : Int32)])), (u8.1, .inl (cI, 24, .inl (fun _ => 0))), (u8.2, .inl (cI, 5, .inl y_na_n14))] t.heap ∧ va_K (dC, dI) vwCl (tyA cI cJ cC cS) t ∧ va_D A [(h_t, .inr (6, [.ref u8.1, .ref u8.2, .int (0 : Int32)])), (u8.1, .inl (cI, 24, .inl (fun _ => 0))), (u8.2, .inl (cI, 5, .inl y_na_n14))]) A) args s 2 29 A = QQ
  obtain ⟨H, hH⟩ : ∃ H : Heap, H = s.heap := ⟨_, rfl⟩
  obtain ⟨locs, hlocs⟩ : ∃ locs : List Loc, locs = [] := ⟨_, rfl⟩
  rw [← hH] at hP
  have hS : va_S A s.heap H locs := by rw [hH, hlocs]; exact hS
  suffices hZ : W p l e (headSpec wsX7_init ({ frames := 1, cells := 2, slots := 29, locals := 21 } : Room)).room s m args below meth c H locs 0 0 QQ (F0 m 0 ls []) by rw [hH, hlocs] at hZ; exact hZ
  clear hH hlocs
  have hL26 : ∀ (n26 : Nat) , ∀ (q_n7 : Nat) (q_n14 : Nat) (x1 : Int32) (na_n14 : Nat → Int32) (H : Heap) (locs : List Loc) (ls : Array Slot), fSt_init_26 n26 x1 na_n14 = some y_na_n14 → va_P (dC, dI) vwCl [(h_t, .inr (6, [.ref q_n7, .ref q_n14, .int (0 : Int32)])), (q_n7, .inl (cI, 24, .inl (fun _ => 0))), (q_n14, .inl (cI, 5, .inl na_n14))] H → va_D A [(h_t, .inr (6, [.ref q_n7, .ref q_n14, .int (0 : Int32)])), (q_n7, .inl (cI, 24, .inl (fun _ => 0))), (q_n14, .inl (cI, 5, .inl na_n14))] → va_S A s.heap H locs → lv_has ls 2 [(1, .int x1), (0, .ref h_t)] → W p l e (headSpec wsX7_init ({ frames := 1, cells := 2, slots := 29, locals := 21 } : Room)).room s m args below meth c H locs 2 29 QQ (F0 m 26 ls []) := by
    intro n26
    induction n26 with
    | zero =>
      intro q_n7 q_n14 x1 na_n14 H locs ls hres
      rw [fSt_init_26] at hres
      cases hres
    | succ n26 ih26 =>
      intro q_n7 q_n14 x1 na_n14 H locs ls hres hP hD hS hl
      rw [fSt_init_26] at hres
      refine lv_iload_n hx hb dX7_init_26 rfl (lv_at hl 0 rfl) ?_
      refine lv_iconst (v := (5 : Int32)) hx hb dX7_init_27 (by decide) ?_
      refine lv_icmp_ge (tgt := 48) hx hb dX7_init_28 (by decide) (fun c_1 => ?_) (fun c_1 => ?_)
      · have hres := it_of hres c_1
        refine W.widen (k := 2) (n := 29) (Nat.le_of_ble_eq_true rfl) (Nat.le_of_ble_eq_true rfl) ?_
        have e9_0 := Option.some.inj hres
        subst e9_0
        rw [← hQQ]
        exact W.vret hx hb hr (fun t ht hW => ⟨⟨(q_n7, q_n14), rfl, trivial, by rw [ht]; exact hP, va_K.moved hW.alike hK, hD⟩, hS.F ht⟩) hS.2.2 dX7_init_48
      · have hres := ie_of hres c_1
        refine lv_aload_n hx hb dX7_init_31 rfl (lv_at hl 1 rfl) ?_
        refine va_get (D := (dC, dI)) (ci := 6) (v := .ref q_n14) (C := RX7) (T := TX7) (N := 3) hx hb hts iSt_init_X7_init_5 hown hK hP 0 rfl rfl 1 (by decide) (hts _ kSt_init_X7_init_6) (fun _ h9 => h9) rfl dX7_init_32 ?_
        refine lv_iload_n hx hb dX7_init_35 rfl (lv_at hl 0 rfl) ?_
        obtain ⟨z2, hz2, kz2⟩ := hST.2.2
        refine va_getsN (v := .ref z2) hx hb hz2 hS hown (nwP hN (by decide +kernel : Cond.fieldLinkNest "RepeatNests$State" 22 "RepeatNests" "FIRST_VALUES" "[I" "RepeatNests" ∈ nwAll)) (fun _ h9 => h9) dX7_init_36 ?_
        refine lv_iload_n hx hb dX7_init_39 rfl (lv_at hl 0 rfl) ?_
        obtain ⟨c_3, hres⟩ := ck_of hres
        refine va_ti hx hb kz2 hS c_3 (v := .int (rd vFIRST x1)) rfl dX7_init_40 ?_
        obtain ⟨c_4, hres⟩ := ck_of hres
        refine va_iast hx hb hK hP hD hS 2 0 rfl rfl c_4 dX7_init_41 (fun H locs hP hD hS => ?_)
        have hP : va_P (dC, dI) vwCl [(h_t, .inr (6, [.ref q_n7, .ref q_n14, .int (0 : Int32)])), (q_n7, .inl (cI, 24, .inl (fun _ => 0))), (q_n14, .inl (cI, 5, .inl (wr na_n14 x1 (rd vFIRST x1))))] H := hP
        have hD : va_D A [(h_t, .inr (6, [.ref q_n7, .ref q_n14, .int (0 : Int32)])), (q_n7, .inl (cI, 24, .inl (fun _ => 0))), (q_n14, .inl (cI, 5, .inl (wr na_n14 x1 (rd vFIRST x1))))] := hD
        refine lv_iinc (v := (x1 + 1)) (lv' := [(1, .int (x1 + 1)), (0, .ref h_t)]) hx hb dX7_init_42 hl (k := 0) rfl rfl (by decide) rfl (fun ls hl => ?_)
        refine lv_goto (tgt := 26) hx hb dX7_init_45 (by decide) ?_
        exact ih26 q_n7 q_n14 (x1 + 1) (wr na_n14 x1 (rd vFIRST x1)) H locs ls hres hP hD hS (lv_sub hl [0, 1] rfl)
  rw [fSt_init] at hres
  refine lv_aload_n hx hb dX7_init_0 rfl (lv_at hl 0 rfl) ?_
  refine W.objInit hx hb hown (hts _ kSt_init_X7_init_0) (hts _ kSt_init_X7_init_1) (hts _ kSt_init_X7_init_2) rfl (by rw [hml]; exact hl.1) rfl dX7_init_1 (Nat.le_of_ble_eq_true rfl) (Nat.le_of_ble_eq_true rfl) ?_
  refine W.eq (g2 := F0 m 4 ls []) rfl ?_
  refine lv_aload_n hx hb dX7_init_4 rfl (lv_at hl 0 rfl) ?_
  refine lv_bipush (v := (24 : Int32)) hx hb dX7_init_5 (by decide) ?_
  refine va_newa hx hb (atype := .int) (hts _ kSt_init_X7_init_3) (ty := .int) rfl hK hP hD hS hA (N' := 24) (a0 := (24, .inl (fun _ => 0))) (fun cA => rfl) (by decide) (by decide) (Nat.le_of_ble_eq_true rfl) (Nat.le_of_ble_eq_true rfl) (Nat.le_of_ble_eq_true rfl) dX7_init_7 (fun q_n7 cA H hK9 hP hD hS => ?_)
  have eA := newA_I hK9
  subst eA
  clear hK9
  have hP : va_P (dC, dI) vwCl [(h_t, .inr (6, [.null, .null, .int 0])), (q_n7, .inl (cI, 24, .inl (fun _ => 0)))] H := hP
  have hD : va_D A [(h_t, .inr (6, [.null, .null, .int 0])), (q_n7, .inl (cI, 24, .inl (fun _ => 0)))] := hD
  refine W.widen (k := 1) (n := 24) (Nat.le_of_ble_eq_true rfl) (Nat.le_of_ble_eq_true rfl) ?_
  refine va_putF (D := (dC, dI)) (ci := 6) (v := .ref q_n7) (ty := .array .int) (C := RX7) (T := TX7) (N := 3) hx hb hts iSt_init_X7_init_5 tyX7 tyX7_ok nmX7 hown hK hP hD hS 0 rfl rfl 0 (by decide) (hts _ kSt_init_X7_init_4) (fun _ h9 => h9) rfl hin rfl (by decide +kernel) rfl rfl (Nat.le_of_ble_eq_true rfl) dX7_init_9 (fun H locs hP hD hS => ?_)
  have hP : va_P (dC, dI) vwCl [(h_t, .inr (6, [.ref q_n7, .null, .int 0])), (q_n7, .inl (cI, 24, .inl (fun _ => 0)))] H := hP
  have hD : va_D A [(h_t, .inr (6, [.ref q_n7, .null, .int 0])), (q_n7, .inl (cI, 24, .inl (fun _ => 0)))] := hD
  refine lv_aload_n hx hb dX7_init_12 rfl (lv_at hl 0 rfl) ?_
  refine lv_iconst (v := (5 : Int32)) hx hb dX7_init_13 (by decide) ?_
  refine va_newa hx hb (atype := .int) (hts _ kSt_init_X7_init_3) (ty := .int) rfl hK hP hD hS hA (N' := 5) (a0 := (5, .inl (fun _ => 0))) (fun cA => rfl) (by decide) (by decide) (Nat.le_of_ble_eq_true rfl) (Nat.le_of_ble_eq_true rfl) (Nat.le_of_ble_eq_true rfl) dX7_init_14 (fun q_n14 cA H hK9 hP hD hS => ?_)
  have eA := newA_I hK9
  subst eA
  clear hK9
  have hP : va_P (dC, dI) vwCl [(h_t, .inr (6, [.ref q_n7, .null, .int 0])), (q_n7, .inl (cI, 24, .inl (fun _ => 0))), (q_n14, .inl (cI, 5, .inl (fun _ => 0)))] H := hP
  have hD : va_D A [(h_t, .inr (6, [.ref q_n7, .null, .int 0])), (q_n7, .inl (cI, 24, .inl (fun _ => 0))), (q_n14, .inl (cI, 5, .inl (fun _ => 0)))] := hD
  refine W.widen (k := 2) (n := 29) (Nat.le_of_ble_eq_true rfl) (Nat.le_of_ble_eq_true rfl) ?_
  refine va_putF (D := (dC, dI)) (ci := 6) (v := .ref q_n14) (ty := .array .int) (C := RX7) (T := TX7) (N := 3) hx hb hts iSt_init_X7_init_5 tyX7 tyX7_ok nmX7 hown hK hP hD hS 0 rfl rfl 1 (by decide) (hts _ kSt_init_X7_init_6) (fun _ h9 => h9) rfl hin rfl (by decide +kernel) rfl rfl (Nat.le_of_ble_eq_true rfl) dX7_init_16 (fun H locs hP hD hS => ?_)
  have hP : va_P (dC, dI) vwCl [(h_t, .inr (6, [.ref q_n7, .ref q_n14, .int 0])), (q_n7, .inl (cI, 24, .inl (fun _ => 0))), (q_n14, .inl (cI, 5, .inl (fun _ => 0)))] H := hP
  have hD : va_D A [(h_t, .inr (6, [.ref q_n7, .ref q_n14, .int 0])), (q_n7, .inl (cI, 24, .inl (fun _ => 0))), (q_n14, .inl (cI, 5, .inl (fun _ => 0)))] := hD
  refine lv_aload_n hx hb dX7_init_19 rfl (lv_at hl 0 rfl) ?_
  refine lv_iconst (v := (0 : Int32)) hx hb dX7_init_20 (by decide) ?_
  refine va_put (D := (dC, dI)) (ci := 6) (v := .int (0 : Int32)) (ty := .int) (C := RX7) (T := TX7) (N := 3) hx hb hts iSt_init_X7_init_5 tyX7 tyX7_ok nmX7 hown hK hP hD hS 0 rfl rfl 2 (by decide) (hts _ kSt_init_X7_init_7) (fun _ h9 => h9) rfl (by decide +kernel) rfl rfl (Nat.le_of_ble_eq_true rfl) dX7_init_21 (fun H locs hP hD hS => ?_)
  have hP : va_P (dC, dI) vwCl [(h_t, .inr (6, [.ref q_n7, .ref q_n14, .int (0 : Int32)])), (q_n7, .inl (cI, 24, .inl (fun _ => 0))), (q_n14, .inl (cI, 5, .inl (fun _ => 0)))] H := hP
  have hD : va_D A [(h_t, .inr (6, [.ref q_n7, .ref q_n14, .int (0 : Int32)])), (q_n7, .inl (cI, 24, .inl (fun _ => 0))), (q_n14, .inl (cI, 5, .inl (fun _ => 0)))] := hD
  refine lv_iconst (v := (0 : Int32)) hx hb dX7_init_24 (by decide) ?_
  refine lv_istore_n (lv' := [(1, .int (0 : Int32)), (0, .ref h_t)]) hx hb dX7_init_25 rfl hl (by decide) rfl (fun ls hl => ?_)
  exact hL26 FU q_n7 q_n14 (0 : Int32) (fun _ => 0) H locs ls hres hP hD hS (lv_sub hl [0, 1] rfl)

-- St_copyFrom
theorem kSt_copyFrom_X7_copyFrom_0 : Cond.fieldLink RX7 9 "RepeatNests$State" "letters" "[I" ∈ wsX7_copyFrom := by decide +kernel
theorem iSt_copyFrom_X7_copyFrom_1 : ∀ w ∈ wsX70, w ∈ wsX7_copyFrom := by decide +kernel
theorem kSt_copyFrom_X7_copyFrom_2 : Cond.fieldLink RX7 18 "RepeatNests$State" "size" "I" ∈ wsX7_copyFrom := by decide +kernel
theorem kSt_copyFrom_X7_copyFrom_3 : Cond.fieldLink RX7 15 "RepeatNests$State" "settings" "[I" ∈ wsX7_copyFrom := by decide +kernel
set_option maxHeartbeats 4000000 in
set_option maxRecDepth 100000 in
theorem cSt_copyFrom (l : Launch) (dC : Nat → ClassId) (dI : Nat → Nat → Nat) (cI cJ cC cS : ClassId) (h_t h_t_letters h_t_settings h_u h_u_letters h_u_settings : Nat) (sz : Nat) (t_size : Int32) (t_letters : Nat → Int32) (t_settings : Nat → Int32) (u_size : Int32) (u_letters : Nat → Int32) (u_settings : Nat → Int32) (y_t_size : Int32) (y_t_letters : Nat → Int32) (y_t_settings : Nat → Int32) (hres : fSt_copyFrom u_size u_letters u_settings t_size t_letters t_settings = some (y_t_size, y_t_letters, y_t_settings)) :
    Met l yX7_copyFrom wsX7_copyFrom ({ frames := 0, cells := 0, slots := 0, locals := 0 } : Room) (va_Pc [.ref h_t, .ref h_u] (fun (U : State) => U.heap.size = sz ∧ va_P (dC, dI) vwCl [(h_t, .inr (6, [.ref h_t_letters, .ref h_t_settings, .int t_size])), (h_t_letters, .inl (cI, 24, .inl t_letters)), (h_t_settings, .inl (cI, 5, .inl t_settings)), (h_u, .inr (6, [.ref h_u_letters, .ref h_u_settings, .int u_size])), (h_u_letters, .inl (cI, 24, .inl u_letters)), (h_u_settings, .inl (cI, 5, .inl u_settings))] U.heap ∧ va_K (dC, dI) vwCl (tyA cI cJ cC cS) U ∧ nwN U ∧ va_D (fun _ => True) [(h_t, .inr (6, [.ref h_t_letters, .ref h_t_settings, .int t_size])), (h_t_letters, .inl (cI, 24, .inl t_letters)), (h_t_settings, .inl (cI, 5, .inl t_settings)), (h_u, .inr (6, [.ref h_u_letters, .ref h_u_settings, .int u_size])), (h_u_letters, .inl (cI, 24, .inl u_letters)), (h_u_settings, .inl (cI, 5, .inl u_settings))])) (va_Qv (fun (_ : Unit) => True) (fun (_ : Unit) (t : State) => va_P (dC, dI) vwCl [(h_t, .inr (6, [.ref h_t_letters, .ref h_t_settings, .int y_t_size])), (h_t_letters, .inl (cI, 24, .inl y_t_letters)), (h_t_settings, .inl (cI, 5, .inl y_t_settings)), (h_u, .inr (6, [.ref h_u_letters, .ref h_u_settings, .int u_size])), (h_u_letters, .inl (cI, 24, .inl u_letters)), (h_u_settings, .inl (cI, 5, .inl u_settings))] t.heap ∧ va_K (dC, dI) vwCl (tyA cI cJ cC cS) t ∧ va_D (va_A [(h_t, .inr (6, [.ref h_t_letters, .ref h_t_settings, .int t_size])), (h_t_letters, .inl (cI, 24, .inl t_letters)), (h_t_settings, .inl (cI, 5, .inl t_settings)), (h_u, .inr (6, [.ref h_u_letters, .ref h_u_settings, .int u_size])), (h_u_letters, .inl (cI, 24, .inl u_letters)), (h_u_settings, .inl (cI, 5, .inl u_settings))] sz) [(h_t, .inr (6, [.ref h_t_letters, .ref h_t_settings, .int y_t_size])), (h_t_letters, .inl (cI, 24, .inl y_t_letters)), (h_t_settings, .inl (cI, 5, .inl y_t_settings)), (h_u, .inr (6, [.ref h_u_letters, .ref h_u_settings, .int u_size])), (h_u_letters, .inl (cI, 24, .inl u_letters)), (h_u_settings, .inl (cI, 5, .inl u_settings))]) (va_A [(h_t, .inr (6, [.ref h_t_letters, .ref h_t_settings, .int t_size])), (h_t_letters, .inl (cI, 24, .inl t_letters)), (h_t_settings, .inl (cI, 5, .inl t_settings)), (h_u, .inr (6, [.ref h_u_letters, .ref h_u_settings, .int u_size])), (h_u_letters, .inl (cI, 24, .inl u_letters)), (h_u_settings, .inl (cI, 5, .inl u_settings))] sz)) 0 0 (va_A [(h_t, .inr (6, [.ref h_t_letters, .ref h_t_settings, .int t_size])), (h_t_letters, .inl (cI, 24, .inl t_letters)), (h_t_settings, .inl (cI, 5, .inl t_settings)), (h_u, .inr (6, [.ref h_u_letters, .ref h_u_settings, .int u_size])), (h_u_letters, .inl (cI, 24, .inl u_letters)), (h_u_settings, .inl (cI, 5, .inl u_settings))] sz) := by
  refine Met.ofW (cc := cX7_copyFrom) (maxL := 3) (ret := none) (by decide) rfl ?_
  intro p e s m args below meth c s₁ B hml hv
  obtain ⟨hargs, hsz, hP, hK, hN, hD0⟩ := hv
  have hx := B.exec
  have hb := B.bytes
  have hr := B.returns
  have hts := atoms_spec (ws := wsX7_copyFrom) B.pre
  have hown : s.vm.findClass RX7 = some m.cls := findClass_of_methodNamed B.named
  have hlocks := B.notSynchronized
  subst hsz
  have hD := hD0.self (sz := s.heap.size)
  generalize hAe : va_A [(h_t, .inr (6, [.ref h_t_letters, .ref h_t_settings, .int t_size])), (h_t_letters, .inl (cI, 24, .inl t_letters)), (h_t_settings, .inl (cI, 5, .inl t_settings)), (h_u, .inr (6, [.ref h_u_letters, .ref h_u_settings, .int u_size])), (h_u_letters, .inl (cI, 24, .inl u_letters)), (h_u_settings, .inl (cI, 5, .inl u_settings))] s.heap.size = A at hD ⊢
  have hA : ∀ q : Nat, s.heap.size ≤ q → A q := fun q h => by rw [← hAe]; exact Or.inr h
  have hS : va_S A s.heap s.heap [] := va_S.rf
  have hP : va_P (dC, dI) vwCl [(h_t, .inr (6, [.ref h_t_letters, .ref h_t_settings, .int t_size])), (h_t_letters, .inl (cI, 24, .inl t_letters)), (h_t_settings, .inl (cI, 5, .inl t_settings)), (h_u, .inr (6, [.ref h_u_letters, .ref h_u_settings, .int u_size])), (h_u_letters, .inl (cI, 24, .inl u_letters)), (h_u_settings, .inl (cI, 5, .inl u_settings))] s.heap := hP
  have hl := lv_entry [.ref h_t, .ref h_u] (n := 3) (Nat.le_of_ble_eq_true rfl)
  rw [show entryFrame m args 3 = entryFrame m ([.ref h_t, .ref h_u] : List Value).toArray 3 from by rw [hargs], lg_entry_eq]
  generalize (lg_sl [.ref h_t, .ref h_u] ++ List.replicate (3 - (lg_sl [.ref h_t, .ref h_u]).length) Slot.unset).toArray = ls at hl ⊢
  have hl : lv_has ls 3 [(0, .ref h_t), (1, .ref h_u)] := hl
  generalize hQQ : MQ below (va_Qv (fun (_ : Unit) => True) (fun (_ : Unit) (t : State) => va_P (dC, dI) vwCl [(h_t, .inr (6, [.ref h_t_letters, .ref h_t_settings, .int y_t_size])), (h_t_letters, .inl (cI, 24, .inl y_t_letters)), (h_t_settings, .inl (cI, 5, .inl y_t_settings)), (h_u, .inr (6, [.ref h_u_letters, .ref h_u_settings, .int u_size])), (h_u_letters, .inl (cI, 24, .inl u_letters)), (h_u_settings, .inl (cI, 5, .inl u_settings))] t.heap ∧ va_K (dC, dI) vwCl (tyA cI cJ cC cS) t ∧ va_D A [(h_t, .inr (6, [.ref h_t_letters, .ref h_t_settings, .int y_t_size])), (h_t_letters, .inl (cI, 24, .inl y_t_letters)), (h_t_settings, .inl (cI, 5, .inl y_t_settings)), (h_u, .inr (6, [.ref h_u_letters, .ref h_u_settings, .int u_size])), (h_u_letters, .inl (cI, 24, .inl u_letters)), (h_u_settings, .inl (cI, 5, .inl u_settings))]) A) args s 0 0 A = QQ
  obtain ⟨H, hH⟩ : ∃ H : Heap, H = s.heap := ⟨_, rfl⟩
  obtain ⟨locs, hlocs⟩ : ∃ locs : List Loc, locs = [] := ⟨_, rfl⟩
  rw [← hH] at hP
  have hS : va_S A s.heap H locs := by rw [hH, hlocs]; exact hS
  suffices hZ : W p l e (headSpec wsX7_copyFrom ({ frames := 0, cells := 0, slots := 0, locals := 0 } : Room)).room s m args below meth c H locs 0 0 QQ (F0 m 0 ls []) by rw [hH, hlocs] at hZ; exact hZ
  clear hH hlocs
  have hL28 : ∀ (n28 : Nat) , ∀ (x2 : Int32) (t_size : Int32) (t_letters : Nat → Int32) (t_settings : Nat → Int32) (H : Heap) (locs : List Loc) (ls : Array Slot), fSt_copyFrom_28 u_size u_settings n28 x2 t_size t_letters t_settings = some (y_t_size, y_t_letters, y_t_settings) → va_P (dC, dI) vwCl [(h_t, .inr (6, [.ref h_t_letters, .ref h_t_settings, .int t_size])), (h_t_letters, .inl (cI, 24, .inl t_letters)), (h_t_settings, .inl (cI, 5, .inl t_settings)), (h_u, .inr (6, [.ref h_u_letters, .ref h_u_settings, .int u_size])), (h_u_letters, .inl (cI, 24, .inl u_letters)), (h_u_settings, .inl (cI, 5, .inl u_settings))] H → va_D A [(h_t, .inr (6, [.ref h_t_letters, .ref h_t_settings, .int t_size])), (h_t_letters, .inl (cI, 24, .inl t_letters)), (h_t_settings, .inl (cI, 5, .inl t_settings)), (h_u, .inr (6, [.ref h_u_letters, .ref h_u_settings, .int u_size])), (h_u_letters, .inl (cI, 24, .inl u_letters)), (h_u_settings, .inl (cI, 5, .inl u_settings))] → va_S A s.heap H locs → lv_has ls 3 [(0, .ref h_t), (1, .ref h_u), (2, .int x2)] → W p l e (headSpec wsX7_copyFrom ({ frames := 0, cells := 0, slots := 0, locals := 0 } : Room)).room s m args below meth c H locs 0 0 QQ (F0 m 28 ls []) := by
    intro n28
    induction n28 with
    | zero =>
      intro x2 t_size t_letters t_settings H locs ls hres
      rw [fSt_copyFrom_28] at hres
      cases hres
    | succ n28 ih28 =>
      intro x2 t_size t_letters t_settings H locs ls hres hP hD hS hl
      rw [fSt_copyFrom_28] at hres
      refine lv_iload_n hx hb dX7_copyFrom_28 rfl (lv_at hl 2 rfl) ?_
      refine lv_iconst (v := (5 : Int32)) hx hb dX7_copyFrom_29 (by decide) ?_
      refine lv_icmp_ge (tgt := 51) hx hb dX7_copyFrom_30 (by decide) (fun c_4 => ?_) (fun c_4 => ?_)
      · have hres := it_of hres c_4
        refine lv_aload_n hx hb dX7_copyFrom_51 rfl (lv_at hl 0 rfl) ?_
        refine lv_aload_n hx hb dX7_copyFrom_52 rfl (lv_at hl 1 rfl) ?_
        refine va_get (D := (dC, dI)) (ci := 6) (v := .int u_size) (C := RX7) (T := TX7) (N := 3) hx hb hts iSt_copyFrom_X7_copyFrom_1 hown hK hP 3 rfl rfl 2 (by decide) (hts _ kSt_copyFrom_X7_copyFrom_2) (fun _ h9 => h9) rfl dX7_copyFrom_53 ?_
        refine va_put (D := (dC, dI)) (ci := 6) (v := .int u_size) (ty := .int) (C := RX7) (T := TX7) (N := 3) hx hb hts iSt_copyFrom_X7_copyFrom_1 tyX7 tyX7_ok nmX7 hown hK hP hD hS 0 rfl rfl 2 (by decide) (hts _ kSt_copyFrom_X7_copyFrom_2) (fun _ h9 => h9) rfl (by decide +kernel) rfl rfl (Nat.le_of_ble_eq_true rfl) dX7_copyFrom_56 (fun H locs hP hD hS => ?_)
        have hP : va_P (dC, dI) vwCl [(h_t, .inr (6, [.ref h_t_letters, .ref h_t_settings, .int u_size])), (h_t_letters, .inl (cI, 24, .inl t_letters)), (h_t_settings, .inl (cI, 5, .inl t_settings)), (h_u, .inr (6, [.ref h_u_letters, .ref h_u_settings, .int u_size])), (h_u_letters, .inl (cI, 24, .inl u_letters)), (h_u_settings, .inl (cI, 5, .inl u_settings))] H := hP
        have hD : va_D A [(h_t, .inr (6, [.ref h_t_letters, .ref h_t_settings, .int u_size])), (h_t_letters, .inl (cI, 24, .inl t_letters)), (h_t_settings, .inl (cI, 5, .inl t_settings)), (h_u, .inr (6, [.ref h_u_letters, .ref h_u_settings, .int u_size])), (h_u_letters, .inl (cI, 24, .inl u_letters)), (h_u_settings, .inl (cI, 5, .inl u_settings))] := hD
        obtain ⟨e9_0, e9_1, e9_2⟩ := tup3 hres
        subst e9_0
        subst e9_1
        subst e9_2
        rw [← hQQ]
        exact W.vret hx hb hr (fun t ht hW => ⟨⟨(), rfl, trivial, by rw [ht]; exact hP, va_K.moved hW.alike hK, hD⟩, hS.F ht⟩) hS.2.2 dX7_copyFrom_59
      · have hres := ie_of hres c_4
        refine lv_aload_n hx hb dX7_copyFrom_33 rfl (lv_at hl 0 rfl) ?_
        refine va_get (D := (dC, dI)) (ci := 6) (v := .ref h_t_settings) (C := RX7) (T := TX7) (N := 3) hx hb hts iSt_copyFrom_X7_copyFrom_1 hown hK hP 0 rfl rfl 1 (by decide) (hts _ kSt_copyFrom_X7_copyFrom_3) (fun _ h9 => h9) rfl dX7_copyFrom_34 ?_
        refine lv_iload_n hx hb dX7_copyFrom_37 rfl (lv_at hl 2 rfl) ?_
        refine lv_aload_n hx hb dX7_copyFrom_38 rfl (lv_at hl 1 rfl) ?_
        refine va_get (D := (dC, dI)) (ci := 6) (v := .ref h_u_settings) (C := RX7) (T := TX7) (N := 3) hx hb hts iSt_copyFrom_X7_copyFrom_1 hown hK hP 3 rfl rfl 1 (by decide) (hts _ kSt_copyFrom_X7_copyFrom_3) (fun _ h9 => h9) rfl dX7_copyFrom_39 ?_
        refine lv_iload_n hx hb dX7_copyFrom_42 rfl (lv_at hl 2 rfl) ?_
        obtain ⟨c_5, hres⟩ := ck_of hres
        refine va_iald hx hb hK hP 5 0 rfl rfl c_5 dX7_copyFrom_43 ?_
        obtain ⟨c_6, hres⟩ := ck_of hres
        refine va_iast hx hb hK hP hD hS 2 0 rfl rfl c_6 dX7_copyFrom_44 (fun H locs hP hD hS => ?_)
        have hP : va_P (dC, dI) vwCl [(h_t, .inr (6, [.ref h_t_letters, .ref h_t_settings, .int t_size])), (h_t_letters, .inl (cI, 24, .inl t_letters)), (h_t_settings, .inl (cI, 5, .inl (wr t_settings x2 (rd u_settings x2)))), (h_u, .inr (6, [.ref h_u_letters, .ref h_u_settings, .int u_size])), (h_u_letters, .inl (cI, 24, .inl u_letters)), (h_u_settings, .inl (cI, 5, .inl u_settings))] H := hP
        have hD : va_D A [(h_t, .inr (6, [.ref h_t_letters, .ref h_t_settings, .int t_size])), (h_t_letters, .inl (cI, 24, .inl t_letters)), (h_t_settings, .inl (cI, 5, .inl (wr t_settings x2 (rd u_settings x2)))), (h_u, .inr (6, [.ref h_u_letters, .ref h_u_settings, .int u_size])), (h_u_letters, .inl (cI, 24, .inl u_letters)), (h_u_settings, .inl (cI, 5, .inl u_settings))] := hD
        refine lv_iinc (v := (x2 + 1)) (lv' := [(2, .int (x2 + 1)), (0, .ref h_t), (1, .ref h_u)]) hx hb dX7_copyFrom_45 hl (k := 2) rfl rfl (by decide) rfl (fun ls hl => ?_)
        refine lv_goto (tgt := 28) hx hb dX7_copyFrom_48 (by decide) ?_
        exact ih28 (x2 + 1) t_size t_letters (wr t_settings x2 (rd u_settings x2)) H locs ls hres hP hD hS (lv_sub hl [1, 2, 0] rfl)
  have hL2 : ∀ (n2 : Nat) , ∀ (x2 : Int32) (t_size : Int32) (t_letters : Nat → Int32) (t_settings : Nat → Int32) (H : Heap) (locs : List Loc) (ls : Array Slot), fSt_copyFrom_2 u_size u_letters u_settings n2 x2 t_size t_letters t_settings = some (y_t_size, y_t_letters, y_t_settings) → va_P (dC, dI) vwCl [(h_t, .inr (6, [.ref h_t_letters, .ref h_t_settings, .int t_size])), (h_t_letters, .inl (cI, 24, .inl t_letters)), (h_t_settings, .inl (cI, 5, .inl t_settings)), (h_u, .inr (6, [.ref h_u_letters, .ref h_u_settings, .int u_size])), (h_u_letters, .inl (cI, 24, .inl u_letters)), (h_u_settings, .inl (cI, 5, .inl u_settings))] H → va_D A [(h_t, .inr (6, [.ref h_t_letters, .ref h_t_settings, .int t_size])), (h_t_letters, .inl (cI, 24, .inl t_letters)), (h_t_settings, .inl (cI, 5, .inl t_settings)), (h_u, .inr (6, [.ref h_u_letters, .ref h_u_settings, .int u_size])), (h_u_letters, .inl (cI, 24, .inl u_letters)), (h_u_settings, .inl (cI, 5, .inl u_settings))] → va_S A s.heap H locs → lv_has ls 3 [(0, .ref h_t), (1, .ref h_u), (2, .int x2)] → W p l e (headSpec wsX7_copyFrom ({ frames := 0, cells := 0, slots := 0, locals := 0 } : Room)).room s m args below meth c H locs 0 0 QQ (F0 m 2 ls []) := by
    intro n2
    induction n2 with
    | zero =>
      intro x2 t_size t_letters t_settings H locs ls hres
      rw [fSt_copyFrom_2] at hres
      cases hres
    | succ n2 ih2 =>
      intro x2 t_size t_letters t_settings H locs ls hres hP hD hS hl
      rw [fSt_copyFrom_2] at hres
      refine lv_iload_n hx hb dX7_copyFrom_2 rfl (lv_at hl 2 rfl) ?_
      refine lv_bipush (v := (24 : Int32)) hx hb dX7_copyFrom_3 (by decide) ?_
      refine lv_icmp_ge (tgt := 26) hx hb dX7_copyFrom_5 (by decide) (fun c_1 => ?_) (fun c_1 => ?_)
      · have hres := it_of hres c_1
        refine lv_iconst (v := (0 : Int32)) hx hb dX7_copyFrom_26 (by decide) ?_
        refine lv_istore_n (lv' := [(2, .int (0 : Int32)), (0, .ref h_t), (1, .ref h_u)]) hx hb dX7_copyFrom_27 rfl hl (by decide) rfl (fun ls hl => ?_)
        exact hL28 FU (0 : Int32) t_size t_letters t_settings H locs ls hres hP hD hS (lv_sub hl [1, 2, 0] rfl)
      · have hres := ie_of hres c_1
        refine lv_aload_n hx hb dX7_copyFrom_8 rfl (lv_at hl 0 rfl) ?_
        refine va_get (D := (dC, dI)) (ci := 6) (v := .ref h_t_letters) (C := RX7) (T := TX7) (N := 3) hx hb hts iSt_copyFrom_X7_copyFrom_1 hown hK hP 0 rfl rfl 0 (by decide) (hts _ kSt_copyFrom_X7_copyFrom_0) (fun _ h9 => h9) rfl dX7_copyFrom_9 ?_
        refine lv_iload_n hx hb dX7_copyFrom_12 rfl (lv_at hl 2 rfl) ?_
        refine lv_aload_n hx hb dX7_copyFrom_13 rfl (lv_at hl 1 rfl) ?_
        refine va_get (D := (dC, dI)) (ci := 6) (v := .ref h_u_letters) (C := RX7) (T := TX7) (N := 3) hx hb hts iSt_copyFrom_X7_copyFrom_1 hown hK hP 3 rfl rfl 0 (by decide) (hts _ kSt_copyFrom_X7_copyFrom_0) (fun _ h9 => h9) rfl dX7_copyFrom_14 ?_
        refine lv_iload_n hx hb dX7_copyFrom_17 rfl (lv_at hl 2 rfl) ?_
        obtain ⟨c_2, hres⟩ := ck_of hres
        refine va_iald hx hb hK hP 4 0 rfl rfl c_2 dX7_copyFrom_18 ?_
        obtain ⟨c_3, hres⟩ := ck_of hres
        refine va_iast hx hb hK hP hD hS 1 0 rfl rfl c_3 dX7_copyFrom_19 (fun H locs hP hD hS => ?_)
        have hP : va_P (dC, dI) vwCl [(h_t, .inr (6, [.ref h_t_letters, .ref h_t_settings, .int t_size])), (h_t_letters, .inl (cI, 24, .inl (wr t_letters x2 (rd u_letters x2)))), (h_t_settings, .inl (cI, 5, .inl t_settings)), (h_u, .inr (6, [.ref h_u_letters, .ref h_u_settings, .int u_size])), (h_u_letters, .inl (cI, 24, .inl u_letters)), (h_u_settings, .inl (cI, 5, .inl u_settings))] H := hP
        have hD : va_D A [(h_t, .inr (6, [.ref h_t_letters, .ref h_t_settings, .int t_size])), (h_t_letters, .inl (cI, 24, .inl (wr t_letters x2 (rd u_letters x2)))), (h_t_settings, .inl (cI, 5, .inl t_settings)), (h_u, .inr (6, [.ref h_u_letters, .ref h_u_settings, .int u_size])), (h_u_letters, .inl (cI, 24, .inl u_letters)), (h_u_settings, .inl (cI, 5, .inl u_settings))] := hD
        refine lv_iinc (v := (x2 + 1)) (lv' := [(2, .int (x2 + 1)), (0, .ref h_t), (1, .ref h_u)]) hx hb dX7_copyFrom_20 hl (k := 2) rfl rfl (by decide) rfl (fun ls hl => ?_)
        refine lv_goto (tgt := 2) hx hb dX7_copyFrom_23 (by decide) ?_
        exact ih2 (x2 + 1) t_size (wr t_letters x2 (rd u_letters x2)) t_settings H locs ls hres hP hD hS (lv_sub hl [1, 2, 0] rfl)
  rw [fSt_copyFrom] at hres
  refine lv_iconst (v := (0 : Int32)) hx hb dX7_copyFrom_0 (by decide) ?_
  refine lv_istore_n (lv' := [(2, .int (0 : Int32)), (0, .ref h_t), (1, .ref h_u)]) hx hb dX7_copyFrom_1 rfl hl (by decide) rfl (fun ls hl => ?_)
  exact hL2 FU (0 : Int32) t_size t_letters t_settings H locs ls hres hP hD hS (lv_sub hl [1, 2, 0] rfl)

-- St_addLetter
theorem kSt_addLetter_X7_addLetter_0 : Cond.fieldLink RX7 18 "RepeatNests$State" "size" "I" ∈ wsX7_addLetter := by decide +kernel
theorem iSt_addLetter_X7_addLetter_1 : ∀ w ∈ wsX70, w ∈ wsX7_addLetter := by decide +kernel
theorem kSt_addLetter_X7_addLetter_2 : Cond.fieldLink RX7 9 "RepeatNests$State" "letters" "[I" ∈ wsX7_addLetter := by decide +kernel
set_option maxHeartbeats 4000000 in
set_option maxRecDepth 100000 in
theorem cSt_addLetter (l : Launch) (dC : Nat → ClassId) (dI : Nat → Nat → Nat) (cI cJ cC cS : ClassId) (h_t h_t_letters h_t_settings : Nat) (sz : Nat) (t_size : Int32) (t_letters : Nat → Int32) (x1 : Int32) (y_t_size : Int32) (y_t_letters : Nat → Int32) (hres : fSt_addLetter t_size t_letters x1 = some (y_t_size, y_t_letters)) :
    Met l yX7_addLetter wsX7_addLetter ({ frames := 0, cells := 0, slots := 0, locals := 0 } : Room) (va_Pc [.ref h_t, .int x1] (fun (U : State) => U.heap.size = sz ∧ va_P (dC, dI) vwCl [(h_t, .inr (6, [.ref h_t_letters, .ref h_t_settings, .int t_size])), (h_t_letters, .inl (cI, 24, .inl t_letters))] U.heap ∧ va_K (dC, dI) vwCl (tyA cI cJ cC cS) U ∧ nwN U ∧ va_D (fun _ => True) [(h_t, .inr (6, [.ref h_t_letters, .ref h_t_settings, .int t_size])), (h_t_letters, .inl (cI, 24, .inl t_letters))])) (va_Qv (fun (_ : Unit) => True) (fun (_ : Unit) (t : State) => va_P (dC, dI) vwCl [(h_t, .inr (6, [.ref h_t_letters, .ref h_t_settings, .int y_t_size])), (h_t_letters, .inl (cI, 24, .inl y_t_letters))] t.heap ∧ va_K (dC, dI) vwCl (tyA cI cJ cC cS) t ∧ va_D (va_A [(h_t, .inr (6, [.ref h_t_letters, .ref h_t_settings, .int t_size])), (h_t_letters, .inl (cI, 24, .inl t_letters))] sz) [(h_t, .inr (6, [.ref h_t_letters, .ref h_t_settings, .int y_t_size])), (h_t_letters, .inl (cI, 24, .inl y_t_letters))]) (va_A [(h_t, .inr (6, [.ref h_t_letters, .ref h_t_settings, .int t_size])), (h_t_letters, .inl (cI, 24, .inl t_letters))] sz)) 0 0 (va_A [(h_t, .inr (6, [.ref h_t_letters, .ref h_t_settings, .int t_size])), (h_t_letters, .inl (cI, 24, .inl t_letters))] sz) := by
  refine Met.ofW (cc := cX7_addLetter) (maxL := 2) (ret := none) (by decide) rfl ?_
  intro p e s m args below meth c s₁ B hml hv
  obtain ⟨hargs, hsz, hP, hK, hN, hD0⟩ := hv
  have hx := B.exec
  have hb := B.bytes
  have hr := B.returns
  have hts := atoms_spec (ws := wsX7_addLetter) B.pre
  have hown : s.vm.findClass RX7 = some m.cls := findClass_of_methodNamed B.named
  have hlocks := B.notSynchronized
  subst hsz
  have hD := hD0.self (sz := s.heap.size)
  generalize hAe : va_A [(h_t, .inr (6, [.ref h_t_letters, .ref h_t_settings, .int t_size])), (h_t_letters, .inl (cI, 24, .inl t_letters))] s.heap.size = A at hD ⊢
  have hA : ∀ q : Nat, s.heap.size ≤ q → A q := fun q h => by rw [← hAe]; exact Or.inr h
  have hS : va_S A s.heap s.heap [] := va_S.rf
  have hP : va_P (dC, dI) vwCl [(h_t, .inr (6, [.ref h_t_letters, .ref h_t_settings, .int t_size])), (h_t_letters, .inl (cI, 24, .inl t_letters))] s.heap := hP
  have hl := lv_entry [.ref h_t, .int x1] (n := 2) (Nat.le_of_ble_eq_true rfl)
  rw [show entryFrame m args 2 = entryFrame m ([.ref h_t, .int x1] : List Value).toArray 2 from by rw [hargs], lg_entry_eq]
  generalize (lg_sl [.ref h_t, .int x1] ++ List.replicate (2 - (lg_sl [.ref h_t, .int x1]).length) Slot.unset).toArray = ls at hl ⊢
  have hl : lv_has ls 2 [(0, .ref h_t), (1, .int x1)] := hl
  generalize hQQ : MQ below (va_Qv (fun (_ : Unit) => True) (fun (_ : Unit) (t : State) => va_P (dC, dI) vwCl [(h_t, .inr (6, [.ref h_t_letters, .ref h_t_settings, .int y_t_size])), (h_t_letters, .inl (cI, 24, .inl y_t_letters))] t.heap ∧ va_K (dC, dI) vwCl (tyA cI cJ cC cS) t ∧ va_D A [(h_t, .inr (6, [.ref h_t_letters, .ref h_t_settings, .int y_t_size])), (h_t_letters, .inl (cI, 24, .inl y_t_letters))]) A) args s 0 0 A = QQ
  obtain ⟨H, hH⟩ : ∃ H : Heap, H = s.heap := ⟨_, rfl⟩
  obtain ⟨locs, hlocs⟩ : ∃ locs : List Loc, locs = [] := ⟨_, rfl⟩
  rw [← hH] at hP
  have hS : va_S A s.heap H locs := by rw [hH, hlocs]; exact hS
  suffices hZ : W p l e (headSpec wsX7_addLetter ({ frames := 0, cells := 0, slots := 0, locals := 0 } : Room)).room s m args below meth c H locs 0 0 QQ (F0 m 0 ls []) by rw [hH, hlocs] at hZ; exact hZ
  clear hH hlocs
  rw [fSt_addLetter] at hres
  refine lv_aload_n hx hb dX7_addLetter_0 rfl (lv_at hl 0 rfl) ?_
  refine va_get (D := (dC, dI)) (ci := 6) (v := .int t_size) (C := RX7) (T := TX7) (N := 3) hx hb hts iSt_addLetter_X7_addLetter_1 hown hK hP 0 rfl rfl 2 (by decide) (hts _ kSt_addLetter_X7_addLetter_0) (fun _ h9 => h9) rfl dX7_addLetter_1 ?_
  refine lv_if_lt (tgt := 36) hx hb dX7_addLetter_4 (by decide) (fun c_1 => ?_) (fun c_1 => ?_)
  · have hres := it_of hres c_1
    obtain ⟨e9_0, e9_1⟩ := tup2 hres
    subst e9_0
    subst e9_1
    rw [← hQQ]
    exact W.vret hx hb hr (fun t ht hW => ⟨⟨(), rfl, trivial, by rw [ht]; exact hP, va_K.moved hW.alike hK, hD⟩, hS.F ht⟩) hS.2.2 dX7_addLetter_36
  · have hres := ie_of hres c_1
    refine lv_aload_n hx hb dX7_addLetter_7 rfl (lv_at hl 0 rfl) ?_
    refine va_get (D := (dC, dI)) (ci := 6) (v := .int t_size) (C := RX7) (T := TX7) (N := 3) hx hb hts iSt_addLetter_X7_addLetter_1 hown hK hP 0 rfl rfl 2 (by decide) (hts _ kSt_addLetter_X7_addLetter_0) (fun _ h9 => h9) rfl dX7_addLetter_8 ?_
    refine lv_bipush (v := (24 : Int32)) hx hb dX7_addLetter_11 (by decide) ?_
    refine lv_icmp_ge (tgt := 36) hx hb dX7_addLetter_13 (by decide) (fun c_2 => ?_) (fun c_2 => ?_)
    · have hres := it_of hres c_2
      obtain ⟨e9_0, e9_1⟩ := tup2 hres
      subst e9_0
      subst e9_1
      rw [← hQQ]
      exact W.vret hx hb hr (fun t ht hW => ⟨⟨(), rfl, trivial, by rw [ht]; exact hP, va_K.moved hW.alike hK, hD⟩, hS.F ht⟩) hS.2.2 dX7_addLetter_36
    · have hres := ie_of hres c_2
      refine lv_aload_n hx hb dX7_addLetter_16 rfl (lv_at hl 0 rfl) ?_
      refine va_get (D := (dC, dI)) (ci := 6) (v := .ref h_t_letters) (C := RX7) (T := TX7) (N := 3) hx hb hts iSt_addLetter_X7_addLetter_1 hown hK hP 0 rfl rfl 0 (by decide) (hts _ kSt_addLetter_X7_addLetter_2) (fun _ h9 => h9) rfl dX7_addLetter_17 ?_
      refine lv_aload_n hx hb dX7_addLetter_20 rfl (lv_at hl 0 rfl) ?_
      refine va_get (D := (dC, dI)) (ci := 6) (v := .int t_size) (C := RX7) (T := TX7) (N := 3) hx hb hts iSt_addLetter_X7_addLetter_1 hown hK hP 0 rfl rfl 2 (by decide) (hts _ kSt_addLetter_X7_addLetter_0) (fun _ h9 => h9) rfl dX7_addLetter_21 ?_
      refine lv_iload_n hx hb dX7_addLetter_24 rfl (lv_at hl 1 rfl) ?_
      obtain ⟨c_3, hres⟩ := ck_of hres
      refine va_iast hx hb hK hP hD hS 1 0 rfl rfl c_3 dX7_addLetter_25 (fun H locs hP hD hS => ?_)
      have hP : va_P (dC, dI) vwCl [(h_t, .inr (6, [.ref h_t_letters, .ref h_t_settings, .int t_size])), (h_t_letters, .inl (cI, 24, .inl (wr t_letters t_size x1)))] H := hP
      have hD : va_D A [(h_t, .inr (6, [.ref h_t_letters, .ref h_t_settings, .int t_size])), (h_t_letters, .inl (cI, 24, .inl (wr t_letters t_size x1)))] := hD
      refine lv_aload_n hx hb dX7_addLetter_26 rfl (lv_at hl 0 rfl) ?_
      refine lv_dup hx hb dX7_addLetter_27 rfl ?_
      refine va_get (D := (dC, dI)) (ci := 6) (v := .int t_size) (C := RX7) (T := TX7) (N := 3) hx hb hts iSt_addLetter_X7_addLetter_1 hown hK hP 0 rfl rfl 2 (by decide) (hts _ kSt_addLetter_X7_addLetter_0) (fun _ h9 => h9) rfl dX7_addLetter_28 ?_
      refine lv_iconst (v := (1 : Int32)) hx hb dX7_addLetter_31 (by decide) ?_
      refine lv_iadd hx hb dX7_addLetter_32 ?_
      refine va_put (D := (dC, dI)) (ci := 6) (v := .int (t_size + (1 : Int32))) (ty := .int) (C := RX7) (T := TX7) (N := 3) hx hb hts iSt_addLetter_X7_addLetter_1 tyX7 tyX7_ok nmX7 hown hK hP hD hS 0 rfl rfl 2 (by decide) (hts _ kSt_addLetter_X7_addLetter_0) (fun _ h9 => h9) rfl (by decide +kernel) rfl rfl (Nat.le_of_ble_eq_true rfl) dX7_addLetter_33 (fun H locs hP hD hS => ?_)
      have hP : va_P (dC, dI) vwCl [(h_t, .inr (6, [.ref h_t_letters, .ref h_t_settings, .int (t_size + (1 : Int32))])), (h_t_letters, .inl (cI, 24, .inl (wr t_letters t_size x1)))] H := hP
      have hD : va_D A [(h_t, .inr (6, [.ref h_t_letters, .ref h_t_settings, .int (t_size + (1 : Int32))])), (h_t_letters, .inl (cI, 24, .inl (wr t_letters t_size x1)))] := hD
      obtain ⟨e9_0, e9_1⟩ := tup2 hres
      subst e9_0
      subst e9_1
      rw [← hQQ]
      exact W.vret hx hb hr (fun t ht hW => ⟨⟨(), rfl, trivial, by rw [ht]; exact hP, va_K.moved hW.alike hK, hD⟩, hS.F ht⟩) hS.2.2 dX7_addLetter_36

-- St_setting
theorem kSt_setting_X7_setting_0 : Cond.fieldLink RX7 15 "RepeatNests$State" "settings" "[I" ∈ wsX7_setting := by decide +kernel
theorem iSt_setting_X7_setting_1 : ∀ w ∈ wsX70, w ∈ wsX7_setting := by decide +kernel
set_option maxHeartbeats 4000000 in
set_option maxRecDepth 100000 in
theorem cSt_setting (l : Launch) (dC : Nat → ClassId) (dI : Nat → Nat → Nat) (cI cJ cC cS : ClassId) (h_t h_t_letters h_t_settings : Nat) (sz : Nat) (t_size : Int32) (t_settings : Nat → Int32) (x1 : Int32) (r : Int32) (hres : fSt_setting t_settings x1 = some r) :
    Met l yX7_setting wsX7_setting ({ frames := 0, cells := 0, slots := 0, locals := 0 } : Room) (va_Pc [.ref h_t, .int x1] (fun (U : State) => U.heap.size = sz ∧ va_P (dC, dI) vwCl [(h_t, .inr (6, [.ref h_t_letters, .ref h_t_settings, .int t_size])), (h_t_settings, .inl (cI, 5, .inl t_settings))] U.heap ∧ va_K (dC, dI) vwCl (tyA cI cJ cC cS) U ∧ nwN U ∧ va_D (fun _ => True) [(h_t, .inr (6, [.ref h_t_letters, .ref h_t_settings, .int t_size])), (h_t_settings, .inl (cI, 5, .inl t_settings))])) (va_Qi (fun (r9 : Int32) (_ : Unit) => r9 = r) (fun (_ : Unit) (t : State) => va_P (dC, dI) vwCl [(h_t, .inr (6, [.ref h_t_letters, .ref h_t_settings, .int t_size])), (h_t_settings, .inl (cI, 5, .inl t_settings))] t.heap ∧ va_K (dC, dI) vwCl (tyA cI cJ cC cS) t ∧ va_D (va_A [(h_t, .inr (6, [.ref h_t_letters, .ref h_t_settings, .int t_size])), (h_t_settings, .inl (cI, 5, .inl t_settings))] sz) [(h_t, .inr (6, [.ref h_t_letters, .ref h_t_settings, .int t_size])), (h_t_settings, .inl (cI, 5, .inl t_settings))]) (va_A [(h_t, .inr (6, [.ref h_t_letters, .ref h_t_settings, .int t_size])), (h_t_settings, .inl (cI, 5, .inl t_settings))] sz)) 0 0 (va_A [(h_t, .inr (6, [.ref h_t_letters, .ref h_t_settings, .int t_size])), (h_t_settings, .inl (cI, 5, .inl t_settings))] sz) := by
  refine Met.ofW (cc := cX7_setting) (maxL := 2) (ret := (some .int)) (by decide) rfl ?_
  intro p e s m args below meth c s₁ B hml hv
  obtain ⟨hargs, hsz, hP, hK, hN, hD0⟩ := hv
  have hx := B.exec
  have hb := B.bytes
  have hr := B.returns
  have hts := atoms_spec (ws := wsX7_setting) B.pre
  have hown : s.vm.findClass RX7 = some m.cls := findClass_of_methodNamed B.named
  have hlocks := B.notSynchronized
  subst hsz
  have hD := hD0.self (sz := s.heap.size)
  generalize hAe : va_A [(h_t, .inr (6, [.ref h_t_letters, .ref h_t_settings, .int t_size])), (h_t_settings, .inl (cI, 5, .inl t_settings))] s.heap.size = A at hD ⊢
  have hA : ∀ q : Nat, s.heap.size ≤ q → A q := fun q h => by rw [← hAe]; exact Or.inr h
  have hS : va_S A s.heap s.heap [] := va_S.rf
  have hP : va_P (dC, dI) vwCl [(h_t, .inr (6, [.ref h_t_letters, .ref h_t_settings, .int t_size])), (h_t_settings, .inl (cI, 5, .inl t_settings))] s.heap := hP
  have hl := lv_entry [.ref h_t, .int x1] (n := 2) (Nat.le_of_ble_eq_true rfl)
  rw [show entryFrame m args 2 = entryFrame m ([.ref h_t, .int x1] : List Value).toArray 2 from by rw [hargs], lg_entry_eq]
  generalize (lg_sl [.ref h_t, .int x1] ++ List.replicate (2 - (lg_sl [.ref h_t, .int x1]).length) Slot.unset).toArray = ls at hl ⊢
  have hl : lv_has ls 2 [(0, .ref h_t), (1, .int x1)] := hl
  generalize hQQ : MQ below (va_Qi (fun (r9 : Int32) (_ : Unit) => r9 = r) (fun (_ : Unit) (t : State) => va_P (dC, dI) vwCl [(h_t, .inr (6, [.ref h_t_letters, .ref h_t_settings, .int t_size])), (h_t_settings, .inl (cI, 5, .inl t_settings))] t.heap ∧ va_K (dC, dI) vwCl (tyA cI cJ cC cS) t ∧ va_D A [(h_t, .inr (6, [.ref h_t_letters, .ref h_t_settings, .int t_size])), (h_t_settings, .inl (cI, 5, .inl t_settings))]) A) args s 0 0 A = QQ
  obtain ⟨H, hH⟩ : ∃ H : Heap, H = s.heap := ⟨_, rfl⟩
  obtain ⟨locs, hlocs⟩ : ∃ locs : List Loc, locs = [] := ⟨_, rfl⟩
  rw [← hH] at hP
  have hS : va_S A s.heap H locs := by rw [hH, hlocs]; exact hS
  suffices hZ : W p l e (headSpec wsX7_setting ({ frames := 0, cells := 0, slots := 0, locals := 0 } : Room)).room s m args below meth c H locs 0 0 QQ (F0 m 0 ls []) by rw [hH, hlocs] at hZ; exact hZ
  clear hH hlocs
  rw [fSt_setting] at hres
  refine lv_iload_n hx hb dX7_setting_0 rfl (lv_at hl 1 rfl) ?_
  refine lv_if_lt (tgt := 18) hx hb dX7_setting_1 (by decide) (fun c_1 => ?_) (fun c_1 => ?_)
  · have hres := it_of hres c_1
    refine lv_iconst (v := (0 : Int32)) hx hb dX7_setting_18 (by decide) ?_
    have e9_0 := Option.some.inj hres
    subst e9_0
    rw [← hQQ]
    exact W.iret (v := (0 : Int32)) hx hb hr (fun t ht hW => ⟨⟨(0 : Int32), (), rfl, rfl, by rw [ht]; exact hP, va_K.moved hW.alike hK, hD⟩, hS.F ht⟩) hS.2.2 dX7_setting_19
  · have hres := ie_of hres c_1
    refine lv_iload_n hx hb dX7_setting_4 rfl (lv_at hl 1 rfl) ?_
    refine lv_iconst (v := (5 : Int32)) hx hb dX7_setting_5 (by decide) ?_
    refine lv_icmp_ge (tgt := 18) hx hb dX7_setting_6 (by decide) (fun c_2 => ?_) (fun c_2 => ?_)
    · have hres := it_of hres c_2
      refine lv_iconst (v := (0 : Int32)) hx hb dX7_setting_18 (by decide) ?_
      have e9_0 := Option.some.inj hres
      subst e9_0
      rw [← hQQ]
      exact W.iret (v := (0 : Int32)) hx hb hr (fun t ht hW => ⟨⟨(0 : Int32), (), rfl, rfl, by rw [ht]; exact hP, va_K.moved hW.alike hK, hD⟩, hS.F ht⟩) hS.2.2 dX7_setting_19
    · have hres := ie_of hres c_2
      refine lv_aload_n hx hb dX7_setting_9 rfl (lv_at hl 0 rfl) ?_
      refine va_get (D := (dC, dI)) (ci := 6) (v := .ref h_t_settings) (C := RX7) (T := TX7) (N := 3) hx hb hts iSt_setting_X7_setting_1 hown hK hP 0 rfl rfl 1 (by decide) (hts _ kSt_setting_X7_setting_0) (fun _ h9 => h9) rfl dX7_setting_10 ?_
      refine lv_iload_n hx hb dX7_setting_13 rfl (lv_at hl 1 rfl) ?_
      obtain ⟨c_3, hres⟩ := ck_of hres
      refine va_iald hx hb hK hP 1 0 rfl rfl c_3 dX7_setting_14 ?_
      refine lv_goto (tgt := 19) hx hb dX7_setting_15 (by decide) ?_
      have e9_0 := Option.some.inj hres
      subst e9_0
      rw [← hQQ]
      exact W.iret (v := (rd t_settings x1)) hx hb hr (fun t ht hW => ⟨⟨(rd t_settings x1), (), rfl, rfl, by rw [ht]; exact hP, va_K.moved hW.alike hK, hD⟩, hS.F ht⟩) hS.2.2 dX7_setting_19

-- St_letter
theorem kSt_letter_X7_letter_0 : Cond.fieldLink RX7 18 "RepeatNests$State" "size" "I" ∈ wsX7_letter := by decide +kernel
theorem iSt_letter_X7_letter_1 : ∀ w ∈ wsX70, w ∈ wsX7_letter := by decide +kernel
theorem kSt_letter_X7_letter_2 : Cond.fieldLink RX7 9 "RepeatNests$State" "letters" "[I" ∈ wsX7_letter := by decide +kernel
set_option maxHeartbeats 4000000 in
set_option maxRecDepth 100000 in
theorem cSt_letter (l : Launch) (dC : Nat → ClassId) (dI : Nat → Nat → Nat) (cI cJ cC cS : ClassId) (h_t h_t_letters h_t_settings : Nat) (sz : Nat) (t_size : Int32) (t_letters : Nat → Int32) (x1 : Int32) (r : Int32) (hres : fSt_letter t_size t_letters x1 = some r) :
    Met l yX7_letter wsX7_letter ({ frames := 0, cells := 0, slots := 0, locals := 0 } : Room) (va_Pc [.ref h_t, .int x1] (fun (U : State) => U.heap.size = sz ∧ va_P (dC, dI) vwCl [(h_t, .inr (6, [.ref h_t_letters, .ref h_t_settings, .int t_size])), (h_t_letters, .inl (cI, 24, .inl t_letters))] U.heap ∧ va_K (dC, dI) vwCl (tyA cI cJ cC cS) U ∧ nwN U ∧ va_D (fun _ => True) [(h_t, .inr (6, [.ref h_t_letters, .ref h_t_settings, .int t_size])), (h_t_letters, .inl (cI, 24, .inl t_letters))])) (va_Qi (fun (r9 : Int32) (_ : Unit) => r9 = r) (fun (_ : Unit) (t : State) => va_P (dC, dI) vwCl [(h_t, .inr (6, [.ref h_t_letters, .ref h_t_settings, .int t_size])), (h_t_letters, .inl (cI, 24, .inl t_letters))] t.heap ∧ va_K (dC, dI) vwCl (tyA cI cJ cC cS) t ∧ va_D (va_A [(h_t, .inr (6, [.ref h_t_letters, .ref h_t_settings, .int t_size])), (h_t_letters, .inl (cI, 24, .inl t_letters))] sz) [(h_t, .inr (6, [.ref h_t_letters, .ref h_t_settings, .int t_size])), (h_t_letters, .inl (cI, 24, .inl t_letters))]) (va_A [(h_t, .inr (6, [.ref h_t_letters, .ref h_t_settings, .int t_size])), (h_t_letters, .inl (cI, 24, .inl t_letters))] sz)) 0 0 (va_A [(h_t, .inr (6, [.ref h_t_letters, .ref h_t_settings, .int t_size])), (h_t_letters, .inl (cI, 24, .inl t_letters))] sz) := by
  refine Met.ofW (cc := cX7_letter) (maxL := 2) (ret := (some .int)) (by decide) rfl ?_
  intro p e s m args below meth c s₁ B hml hv
  obtain ⟨hargs, hsz, hP, hK, hN, hD0⟩ := hv
  have hx := B.exec
  have hb := B.bytes
  have hr := B.returns
  have hts := atoms_spec (ws := wsX7_letter) B.pre
  have hown : s.vm.findClass RX7 = some m.cls := findClass_of_methodNamed B.named
  have hlocks := B.notSynchronized
  subst hsz
  have hD := hD0.self (sz := s.heap.size)
  generalize hAe : va_A [(h_t, .inr (6, [.ref h_t_letters, .ref h_t_settings, .int t_size])), (h_t_letters, .inl (cI, 24, .inl t_letters))] s.heap.size = A at hD ⊢
  have hA : ∀ q : Nat, s.heap.size ≤ q → A q := fun q h => by rw [← hAe]; exact Or.inr h
  have hS : va_S A s.heap s.heap [] := va_S.rf
  have hP : va_P (dC, dI) vwCl [(h_t, .inr (6, [.ref h_t_letters, .ref h_t_settings, .int t_size])), (h_t_letters, .inl (cI, 24, .inl t_letters))] s.heap := hP
  have hl := lv_entry [.ref h_t, .int x1] (n := 2) (Nat.le_of_ble_eq_true rfl)
  rw [show entryFrame m args 2 = entryFrame m ([.ref h_t, .int x1] : List Value).toArray 2 from by rw [hargs], lg_entry_eq]
  generalize (lg_sl [.ref h_t, .int x1] ++ List.replicate (2 - (lg_sl [.ref h_t, .int x1]).length) Slot.unset).toArray = ls at hl ⊢
  have hl : lv_has ls 2 [(0, .ref h_t), (1, .int x1)] := hl
  generalize hQQ : MQ below (va_Qi (fun (r9 : Int32) (_ : Unit) => r9 = r) (fun (_ : Unit) (t : State) => va_P (dC, dI) vwCl [(h_t, .inr (6, [.ref h_t_letters, .ref h_t_settings, .int t_size])), (h_t_letters, .inl (cI, 24, .inl t_letters))] t.heap ∧ va_K (dC, dI) vwCl (tyA cI cJ cC cS) t ∧ va_D A [(h_t, .inr (6, [.ref h_t_letters, .ref h_t_settings, .int t_size])), (h_t_letters, .inl (cI, 24, .inl t_letters))]) A) args s 0 0 A = QQ
  obtain ⟨H, hH⟩ : ∃ H : Heap, H = s.heap := ⟨_, rfl⟩
  obtain ⟨locs, hlocs⟩ : ∃ locs : List Loc, locs = [] := ⟨_, rfl⟩
  rw [← hH] at hP
  have hS : va_S A s.heap H locs := by rw [hH, hlocs]; exact hS
  suffices hZ : W p l e (headSpec wsX7_letter ({ frames := 0, cells := 0, slots := 0, locals := 0 } : Room)).room s m args below meth c H locs 0 0 QQ (F0 m 0 ls []) by rw [hH, hlocs] at hZ; exact hZ
  clear hH hlocs
  rw [fSt_letter] at hres
  refine lv_iload_n hx hb dX7_letter_0 rfl (lv_at hl 1 rfl) ?_
  refine lv_if_lt (tgt := 27) hx hb dX7_letter_1 (by decide) (fun c_1 => ?_) (fun c_1 => ?_)
  · have hres := it_of hres c_1
    refine lv_iconst (v := (-1 : Int32)) hx hb dX7_letter_27 (by decide) ?_
    have e9_0 := Option.some.inj hres
    subst e9_0
    rw [← hQQ]
    exact W.iret (v := (-1 : Int32)) hx hb hr (fun t ht hW => ⟨⟨(-1 : Int32), (), rfl, rfl, by rw [ht]; exact hP, va_K.moved hW.alike hK, hD⟩, hS.F ht⟩) hS.2.2 dX7_letter_28
  · have hres := ie_of hres c_1
    refine lv_iload_n hx hb dX7_letter_4 rfl (lv_at hl 1 rfl) ?_
    refine lv_aload_n hx hb dX7_letter_5 rfl (lv_at hl 0 rfl) ?_
    refine va_get (D := (dC, dI)) (ci := 6) (v := .int t_size) (C := RX7) (T := TX7) (N := 3) hx hb hts iSt_letter_X7_letter_1 hown hK hP 0 rfl rfl 2 (by decide) (hts _ kSt_letter_X7_letter_0) (fun _ h9 => h9) rfl dX7_letter_6 ?_
    refine lv_icmp_ge (tgt := 27) hx hb dX7_letter_9 (by decide) (fun c_2 => ?_) (fun c_2 => ?_)
    · have hres := it_of hres c_2
      refine lv_iconst (v := (-1 : Int32)) hx hb dX7_letter_27 (by decide) ?_
      have e9_0 := Option.some.inj hres
      subst e9_0
      rw [← hQQ]
      exact W.iret (v := (-1 : Int32)) hx hb hr (fun t ht hW => ⟨⟨(-1 : Int32), (), rfl, rfl, by rw [ht]; exact hP, va_K.moved hW.alike hK, hD⟩, hS.F ht⟩) hS.2.2 dX7_letter_28
    · have hres := ie_of hres c_2
      refine lv_iload_n hx hb dX7_letter_12 rfl (lv_at hl 1 rfl) ?_
      refine lv_bipush (v := (24 : Int32)) hx hb dX7_letter_13 (by decide) ?_
      refine lv_icmp_ge (tgt := 27) hx hb dX7_letter_15 (by decide) (fun c_3 => ?_) (fun c_3 => ?_)
      · have hres := it_of hres c_3
        refine lv_iconst (v := (-1 : Int32)) hx hb dX7_letter_27 (by decide) ?_
        have e9_0 := Option.some.inj hres
        subst e9_0
        rw [← hQQ]
        exact W.iret (v := (-1 : Int32)) hx hb hr (fun t ht hW => ⟨⟨(-1 : Int32), (), rfl, rfl, by rw [ht]; exact hP, va_K.moved hW.alike hK, hD⟩, hS.F ht⟩) hS.2.2 dX7_letter_28
      · have hres := ie_of hres c_3
        refine lv_aload_n hx hb dX7_letter_18 rfl (lv_at hl 0 rfl) ?_
        refine va_get (D := (dC, dI)) (ci := 6) (v := .ref h_t_letters) (C := RX7) (T := TX7) (N := 3) hx hb hts iSt_letter_X7_letter_1 hown hK hP 0 rfl rfl 0 (by decide) (hts _ kSt_letter_X7_letter_2) (fun _ h9 => h9) rfl dX7_letter_19 ?_
        refine lv_iload_n hx hb dX7_letter_22 rfl (lv_at hl 1 rfl) ?_
        obtain ⟨c_4, hres⟩ := ck_of hres
        refine va_iald hx hb hK hP 1 0 rfl rfl c_4 dX7_letter_23 ?_
        refine lv_goto (tgt := 28) hx hb dX7_letter_24 (by decide) ?_
        have e9_0 := Option.some.inj hres
        subst e9_0
        rw [← hQQ]
        exact W.iret (v := (rd t_letters x1)) hx hb hr (fun t ht hW => ⟨⟨(rd t_letters x1), (), rfl, rfl, by rw [ht]; exact hP, va_K.moved hW.alike hK, hD⟩, hS.F ht⟩) hS.2.2 dX7_letter_28

-- St_putLetter
theorem kSt_putLetter_X7_putLetter_0 : Cond.fieldLink RX7 18 "RepeatNests$State" "size" "I" ∈ wsX7_putLetter := by decide +kernel
theorem iSt_putLetter_X7_putLetter_1 : ∀ w ∈ wsX70, w ∈ wsX7_putLetter := by decide +kernel
theorem kSt_putLetter_X7_putLetter_2 : Cond.fieldLink RX7 9 "RepeatNests$State" "letters" "[I" ∈ wsX7_putLetter := by decide +kernel
set_option maxHeartbeats 4000000 in
set_option maxRecDepth 100000 in
theorem cSt_putLetter (l : Launch) (dC : Nat → ClassId) (dI : Nat → Nat → Nat) (cI cJ cC cS : ClassId) (h_t h_t_letters h_t_settings : Nat) (sz : Nat) (t_size : Int32) (t_letters : Nat → Int32) (x1 : Int32) (x2 : Int32) (y_t_letters : Nat → Int32) (hres : fSt_putLetter t_size t_letters x1 x2 = some y_t_letters) :
    Met l yX7_putLetter wsX7_putLetter ({ frames := 0, cells := 0, slots := 0, locals := 0 } : Room) (va_Pc [.ref h_t, .int x1, .int x2] (fun (U : State) => U.heap.size = sz ∧ va_P (dC, dI) vwCl [(h_t, .inr (6, [.ref h_t_letters, .ref h_t_settings, .int t_size])), (h_t_letters, .inl (cI, 24, .inl t_letters))] U.heap ∧ va_K (dC, dI) vwCl (tyA cI cJ cC cS) U ∧ nwN U ∧ va_D (fun _ => True) [(h_t, .inr (6, [.ref h_t_letters, .ref h_t_settings, .int t_size])), (h_t_letters, .inl (cI, 24, .inl t_letters))])) (va_Qv (fun (_ : Unit) => True) (fun (_ : Unit) (t : State) => va_P (dC, dI) vwCl [(h_t, .inr (6, [.ref h_t_letters, .ref h_t_settings, .int t_size])), (h_t_letters, .inl (cI, 24, .inl y_t_letters))] t.heap ∧ va_K (dC, dI) vwCl (tyA cI cJ cC cS) t ∧ va_D (va_A [(h_t, .inr (6, [.ref h_t_letters, .ref h_t_settings, .int t_size])), (h_t_letters, .inl (cI, 24, .inl t_letters))] sz) [(h_t, .inr (6, [.ref h_t_letters, .ref h_t_settings, .int t_size])), (h_t_letters, .inl (cI, 24, .inl y_t_letters))]) (va_A [(h_t, .inr (6, [.ref h_t_letters, .ref h_t_settings, .int t_size])), (h_t_letters, .inl (cI, 24, .inl t_letters))] sz)) 0 0 (va_A [(h_t, .inr (6, [.ref h_t_letters, .ref h_t_settings, .int t_size])), (h_t_letters, .inl (cI, 24, .inl t_letters))] sz) := by
  refine Met.ofW (cc := cX7_putLetter) (maxL := 3) (ret := none) (by decide) rfl ?_
  intro p e s m args below meth c s₁ B hml hv
  obtain ⟨hargs, hsz, hP, hK, hN, hD0⟩ := hv
  have hx := B.exec
  have hb := B.bytes
  have hr := B.returns
  have hts := atoms_spec (ws := wsX7_putLetter) B.pre
  have hown : s.vm.findClass RX7 = some m.cls := findClass_of_methodNamed B.named
  have hlocks := B.notSynchronized
  subst hsz
  have hD := hD0.self (sz := s.heap.size)
  generalize hAe : va_A [(h_t, .inr (6, [.ref h_t_letters, .ref h_t_settings, .int t_size])), (h_t_letters, .inl (cI, 24, .inl t_letters))] s.heap.size = A at hD ⊢
  have hA : ∀ q : Nat, s.heap.size ≤ q → A q := fun q h => by rw [← hAe]; exact Or.inr h
  have hS : va_S A s.heap s.heap [] := va_S.rf
  have hP : va_P (dC, dI) vwCl [(h_t, .inr (6, [.ref h_t_letters, .ref h_t_settings, .int t_size])), (h_t_letters, .inl (cI, 24, .inl t_letters))] s.heap := hP
  have hl := lv_entry [.ref h_t, .int x1, .int x2] (n := 3) (Nat.le_of_ble_eq_true rfl)
  rw [show entryFrame m args 3 = entryFrame m ([.ref h_t, .int x1, .int x2] : List Value).toArray 3 from by rw [hargs], lg_entry_eq]
  generalize (lg_sl [.ref h_t, .int x1, .int x2] ++ List.replicate (3 - (lg_sl [.ref h_t, .int x1, .int x2]).length) Slot.unset).toArray = ls at hl ⊢
  have hl : lv_has ls 3 [(0, .ref h_t), (1, .int x1), (2, .int x2)] := hl
  generalize hQQ : MQ below (va_Qv (fun (_ : Unit) => True) (fun (_ : Unit) (t : State) => va_P (dC, dI) vwCl [(h_t, .inr (6, [.ref h_t_letters, .ref h_t_settings, .int t_size])), (h_t_letters, .inl (cI, 24, .inl y_t_letters))] t.heap ∧ va_K (dC, dI) vwCl (tyA cI cJ cC cS) t ∧ va_D A [(h_t, .inr (6, [.ref h_t_letters, .ref h_t_settings, .int t_size])), (h_t_letters, .inl (cI, 24, .inl y_t_letters))]) A) args s 0 0 A = QQ
  obtain ⟨H, hH⟩ : ∃ H : Heap, H = s.heap := ⟨_, rfl⟩
  obtain ⟨locs, hlocs⟩ : ∃ locs : List Loc, locs = [] := ⟨_, rfl⟩
  rw [← hH] at hP
  have hS : va_S A s.heap H locs := by rw [hH, hlocs]; exact hS
  suffices hZ : W p l e (headSpec wsX7_putLetter ({ frames := 0, cells := 0, slots := 0, locals := 0 } : Room)).room s m args below meth c H locs 0 0 QQ (F0 m 0 ls []) by rw [hH, hlocs] at hZ; exact hZ
  clear hH hlocs
  rw [fSt_putLetter] at hres
  refine lv_iload_n hx hb dX7_putLetter_0 rfl (lv_at hl 1 rfl) ?_
  refine lv_if_lt (tgt := 25) hx hb dX7_putLetter_1 (by decide) (fun c_1 => ?_) (fun c_1 => ?_)
  · have hres := it_of hres c_1
    have e9_0 := Option.some.inj hres
    subst e9_0
    rw [← hQQ]
    exact W.vret hx hb hr (fun t ht hW => ⟨⟨(), rfl, trivial, by rw [ht]; exact hP, va_K.moved hW.alike hK, hD⟩, hS.F ht⟩) hS.2.2 dX7_putLetter_25
  · have hres := ie_of hres c_1
    refine lv_iload_n hx hb dX7_putLetter_4 rfl (lv_at hl 1 rfl) ?_
    refine lv_aload_n hx hb dX7_putLetter_5 rfl (lv_at hl 0 rfl) ?_
    refine va_get (D := (dC, dI)) (ci := 6) (v := .int t_size) (C := RX7) (T := TX7) (N := 3) hx hb hts iSt_putLetter_X7_putLetter_1 hown hK hP 0 rfl rfl 2 (by decide) (hts _ kSt_putLetter_X7_putLetter_0) (fun _ h9 => h9) rfl dX7_putLetter_6 ?_
    refine lv_icmp_ge (tgt := 25) hx hb dX7_putLetter_9 (by decide) (fun c_2 => ?_) (fun c_2 => ?_)
    · have hres := it_of hres c_2
      have e9_0 := Option.some.inj hres
      subst e9_0
      rw [← hQQ]
      exact W.vret hx hb hr (fun t ht hW => ⟨⟨(), rfl, trivial, by rw [ht]; exact hP, va_K.moved hW.alike hK, hD⟩, hS.F ht⟩) hS.2.2 dX7_putLetter_25
    · have hres := ie_of hres c_2
      refine lv_iload_n hx hb dX7_putLetter_12 rfl (lv_at hl 1 rfl) ?_
      refine lv_bipush (v := (24 : Int32)) hx hb dX7_putLetter_13 (by decide) ?_
      refine lv_icmp_ge (tgt := 25) hx hb dX7_putLetter_15 (by decide) (fun c_3 => ?_) (fun c_3 => ?_)
      · have hres := it_of hres c_3
        have e9_0 := Option.some.inj hres
        subst e9_0
        rw [← hQQ]
        exact W.vret hx hb hr (fun t ht hW => ⟨⟨(), rfl, trivial, by rw [ht]; exact hP, va_K.moved hW.alike hK, hD⟩, hS.F ht⟩) hS.2.2 dX7_putLetter_25
      · have hres := ie_of hres c_3
        refine lv_aload_n hx hb dX7_putLetter_18 rfl (lv_at hl 0 rfl) ?_
        refine va_get (D := (dC, dI)) (ci := 6) (v := .ref h_t_letters) (C := RX7) (T := TX7) (N := 3) hx hb hts iSt_putLetter_X7_putLetter_1 hown hK hP 0 rfl rfl 0 (by decide) (hts _ kSt_putLetter_X7_putLetter_2) (fun _ h9 => h9) rfl dX7_putLetter_19 ?_
        refine lv_iload_n hx hb dX7_putLetter_22 rfl (lv_at hl 1 rfl) ?_
        refine lv_iload_n hx hb dX7_putLetter_23 rfl (lv_at hl 2 rfl) ?_
        obtain ⟨c_4, hres⟩ := ck_of hres
        refine va_iast hx hb hK hP hD hS 1 0 rfl rfl c_4 dX7_putLetter_24 (fun H locs hP hD hS => ?_)
        have hP : va_P (dC, dI) vwCl [(h_t, .inr (6, [.ref h_t_letters, .ref h_t_settings, .int t_size])), (h_t_letters, .inl (cI, 24, .inl (wr t_letters x1 x2)))] H := hP
        have hD : va_D A [(h_t, .inr (6, [.ref h_t_letters, .ref h_t_settings, .int t_size])), (h_t_letters, .inl (cI, 24, .inl (wr t_letters x1 x2)))] := hD
        have e9_0 := Option.some.inj hres
        subst e9_0
        rw [← hQQ]
        exact W.vret hx hb hr (fun t ht hW => ⟨⟨(), rfl, trivial, by rw [ht]; exact hP, va_K.moved hW.alike hK, hD⟩, hS.F ht⟩) hS.2.2 dX7_putLetter_25

-- St_hasPlace
theorem kSt_hasPlace_X7_hasPlace_0 : Cond.fieldLink RX7 18 "RepeatNests$State" "size" "I" ∈ wsX7_hasPlace := by decide +kernel
theorem iSt_hasPlace_X7_hasPlace_1 : ∀ w ∈ wsX70, w ∈ wsX7_hasPlace := by decide +kernel
set_option maxHeartbeats 4000000 in
set_option maxRecDepth 100000 in
theorem cSt_hasPlace (l : Launch) (dC : Nat → ClassId) (dI : Nat → Nat → Nat) (cI cJ cC cS : ClassId) (h_t h_t_letters h_t_settings : Nat) (sz : Nat) (t_size : Int32) (x1 : Int32) (r : Int32) (hres : fSt_hasPlace t_size x1 = some r) :
    Met l yX7_hasPlace wsX7_hasPlace ({ frames := 0, cells := 0, slots := 0, locals := 0 } : Room) (va_Pc [.ref h_t, .int x1] (fun (U : State) => U.heap.size = sz ∧ va_P (dC, dI) vwCl [(h_t, .inr (6, [.ref h_t_letters, .ref h_t_settings, .int t_size]))] U.heap ∧ va_K (dC, dI) vwCl (tyA cI cJ cC cS) U ∧ nwN U ∧ va_D (fun _ => True) [(h_t, .inr (6, [.ref h_t_letters, .ref h_t_settings, .int t_size]))])) (va_Qi (fun (r9 : Int32) (_ : Unit) => r9 = r) (fun (_ : Unit) (t : State) => va_P (dC, dI) vwCl [(h_t, .inr (6, [.ref h_t_letters, .ref h_t_settings, .int t_size]))] t.heap ∧ va_K (dC, dI) vwCl (tyA cI cJ cC cS) t ∧ va_D (va_A [(h_t, .inr (6, [.ref h_t_letters, .ref h_t_settings, .int t_size]))] sz) [(h_t, .inr (6, [.ref h_t_letters, .ref h_t_settings, .int t_size]))]) (va_A [(h_t, .inr (6, [.ref h_t_letters, .ref h_t_settings, .int t_size]))] sz)) 0 0 (va_A [(h_t, .inr (6, [.ref h_t_letters, .ref h_t_settings, .int t_size]))] sz) := by
  refine Met.ofW (cc := cX7_hasPlace) (maxL := 2) (ret := (some .boolean)) (by decide) rfl ?_
  intro p e s m args below meth c s₁ B hml hv
  obtain ⟨hargs, hsz, hP, hK, hN, hD0⟩ := hv
  have hx := B.exec
  have hb := B.bytes
  have hr := B.returns
  have hts := atoms_spec (ws := wsX7_hasPlace) B.pre
  have hown : s.vm.findClass RX7 = some m.cls := findClass_of_methodNamed B.named
  have hlocks := B.notSynchronized
  subst hsz
  have hD := hD0.self (sz := s.heap.size)
  generalize hAe : va_A [(h_t, .inr (6, [.ref h_t_letters, .ref h_t_settings, .int t_size]))] s.heap.size = A at hD ⊢
  have hA : ∀ q : Nat, s.heap.size ≤ q → A q := fun q h => by rw [← hAe]; exact Or.inr h
  have hS : va_S A s.heap s.heap [] := va_S.rf
  have hP : va_P (dC, dI) vwCl [(h_t, .inr (6, [.ref h_t_letters, .ref h_t_settings, .int t_size]))] s.heap := hP
  have hl := lv_entry [.ref h_t, .int x1] (n := 2) (Nat.le_of_ble_eq_true rfl)
  rw [show entryFrame m args 2 = entryFrame m ([.ref h_t, .int x1] : List Value).toArray 2 from by rw [hargs], lg_entry_eq]
  generalize (lg_sl [.ref h_t, .int x1] ++ List.replicate (2 - (lg_sl [.ref h_t, .int x1]).length) Slot.unset).toArray = ls at hl ⊢
  have hl : lv_has ls 2 [(0, .ref h_t), (1, .int x1)] := hl
  generalize hQQ : MQ below (va_Qi (fun (r9 : Int32) (_ : Unit) => r9 = r) (fun (_ : Unit) (t : State) => va_P (dC, dI) vwCl [(h_t, .inr (6, [.ref h_t_letters, .ref h_t_settings, .int t_size]))] t.heap ∧ va_K (dC, dI) vwCl (tyA cI cJ cC cS) t ∧ va_D A [(h_t, .inr (6, [.ref h_t_letters, .ref h_t_settings, .int t_size]))]) A) args s 0 0 A = QQ
  obtain ⟨H, hH⟩ : ∃ H : Heap, H = s.heap := ⟨_, rfl⟩
  obtain ⟨locs, hlocs⟩ : ∃ locs : List Loc, locs = [] := ⟨_, rfl⟩
  rw [← hH] at hP
  have hS : va_S A s.heap H locs := by rw [hH, hlocs]; exact hS
  suffices hZ : W p l e (headSpec wsX7_hasPlace ({ frames := 0, cells := 0, slots := 0, locals := 0 } : Room)).room s m args below meth c H locs 0 0 QQ (F0 m 0 ls []) by rw [hH, hlocs] at hZ; exact hZ
  clear hH hlocs
  rw [fSt_hasPlace] at hres
  refine lv_iload_n hx hb dX7_hasPlace_0 rfl (lv_at hl 1 rfl) ?_
  refine lv_if_lt (tgt := 16) hx hb dX7_hasPlace_1 (by decide) (fun c_1 => ?_) (fun c_1 => ?_)
  · have hres := it_of hres c_1
    refine lv_iconst (v := (0 : Int32)) hx hb dX7_hasPlace_16 (by decide) ?_
    have e9_0 := Option.some.inj hres
    subst e9_0
    rw [← hQQ]
    exact W.zret (v := (0 : Int32)) hx hb hr rfl (fun t ht hW => ⟨⟨(0 : Int32), (), rfl, rfl, by rw [ht]; exact hP, va_K.moved hW.alike hK, hD⟩, hS.F ht⟩) hS.2.2 dX7_hasPlace_17
  · have hres := ie_of hres c_1
    refine lv_iload_n hx hb dX7_hasPlace_4 rfl (lv_at hl 1 rfl) ?_
    refine lv_aload_n hx hb dX7_hasPlace_5 rfl (lv_at hl 0 rfl) ?_
    refine va_get (D := (dC, dI)) (ci := 6) (v := .int t_size) (C := RX7) (T := TX7) (N := 3) hx hb hts iSt_hasPlace_X7_hasPlace_1 hown hK hP 0 rfl rfl 2 (by decide) (hts _ kSt_hasPlace_X7_hasPlace_0) (fun _ h9 => h9) rfl dX7_hasPlace_6 ?_
    refine lv_icmp_ge (tgt := 16) hx hb dX7_hasPlace_9 (by decide) (fun c_2 => ?_) (fun c_2 => ?_)
    · have hres := it_of hres c_2
      refine lv_iconst (v := (0 : Int32)) hx hb dX7_hasPlace_16 (by decide) ?_
      have e9_0 := Option.some.inj hres
      subst e9_0
      rw [← hQQ]
      exact W.zret (v := (0 : Int32)) hx hb hr rfl (fun t ht hW => ⟨⟨(0 : Int32), (), rfl, rfl, by rw [ht]; exact hP, va_K.moved hW.alike hK, hD⟩, hS.F ht⟩) hS.2.2 dX7_hasPlace_17
    · have hres := ie_of hres c_2
      refine lv_iconst (v := (1 : Int32)) hx hb dX7_hasPlace_12 (by decide) ?_
      refine lv_goto (tgt := 17) hx hb dX7_hasPlace_13 (by decide) ?_
      have e9_0 := Option.some.inj hres
      subst e9_0
      rw [← hQQ]
      exact W.zret (v := (1 : Int32)) hx hb hr rfl (fun t ht hW => ⟨⟨(1 : Int32), (), rfl, rfl, by rw [ht]; exact hP, va_K.moved hW.alike hK, hD⟩, hS.F ht⟩) hS.2.2 dX7_hasPlace_17

-- St_hasPart
theorem kSt_hasPart_X7_hasPart_0 : Cond.fieldLink RX7 18 "RepeatNests$State" "size" "I" ∈ wsX7_hasPart := by decide +kernel
theorem iSt_hasPart_X7_hasPart_1 : ∀ w ∈ wsX70, w ∈ wsX7_hasPart := by decide +kernel
set_option maxHeartbeats 4000000 in
set_option maxRecDepth 100000 in
theorem cSt_hasPart (l : Launch) (dC : Nat → ClassId) (dI : Nat → Nat → Nat) (cI cJ cC cS : ClassId) (h_t h_t_letters h_t_settings : Nat) (sz : Nat) (t_size : Int32) (x1 : Int32) (x2 : Int32) (r : Int32) (hres : fSt_hasPart t_size x1 x2 = some r) :
    Met l yX7_hasPart wsX7_hasPart ({ frames := 0, cells := 0, slots := 0, locals := 0 } : Room) (va_Pc [.ref h_t, .int x1, .int x2] (fun (U : State) => U.heap.size = sz ∧ va_P (dC, dI) vwCl [(h_t, .inr (6, [.ref h_t_letters, .ref h_t_settings, .int t_size]))] U.heap ∧ va_K (dC, dI) vwCl (tyA cI cJ cC cS) U ∧ nwN U ∧ va_D (fun _ => True) [(h_t, .inr (6, [.ref h_t_letters, .ref h_t_settings, .int t_size]))])) (va_Qi (fun (r9 : Int32) (_ : Unit) => r9 = r) (fun (_ : Unit) (t : State) => va_P (dC, dI) vwCl [(h_t, .inr (6, [.ref h_t_letters, .ref h_t_settings, .int t_size]))] t.heap ∧ va_K (dC, dI) vwCl (tyA cI cJ cC cS) t ∧ va_D (va_A [(h_t, .inr (6, [.ref h_t_letters, .ref h_t_settings, .int t_size]))] sz) [(h_t, .inr (6, [.ref h_t_letters, .ref h_t_settings, .int t_size]))]) (va_A [(h_t, .inr (6, [.ref h_t_letters, .ref h_t_settings, .int t_size]))] sz)) 0 0 (va_A [(h_t, .inr (6, [.ref h_t_letters, .ref h_t_settings, .int t_size]))] sz) := by
  refine Met.ofW (cc := cX7_hasPart) (maxL := 3) (ret := (some .boolean)) (by decide) rfl ?_
  intro p e s m args below meth c s₁ B hml hv
  obtain ⟨hargs, hsz, hP, hK, hN, hD0⟩ := hv
  have hx := B.exec
  have hb := B.bytes
  have hr := B.returns
  have hts := atoms_spec (ws := wsX7_hasPart) B.pre
  have hown : s.vm.findClass RX7 = some m.cls := findClass_of_methodNamed B.named
  have hlocks := B.notSynchronized
  subst hsz
  have hD := hD0.self (sz := s.heap.size)
  generalize hAe : va_A [(h_t, .inr (6, [.ref h_t_letters, .ref h_t_settings, .int t_size]))] s.heap.size = A at hD ⊢
  have hA : ∀ q : Nat, s.heap.size ≤ q → A q := fun q h => by rw [← hAe]; exact Or.inr h
  have hS : va_S A s.heap s.heap [] := va_S.rf
  have hP : va_P (dC, dI) vwCl [(h_t, .inr (6, [.ref h_t_letters, .ref h_t_settings, .int t_size]))] s.heap := hP
  have hl := lv_entry [.ref h_t, .int x1, .int x2] (n := 3) (Nat.le_of_ble_eq_true rfl)
  rw [show entryFrame m args 3 = entryFrame m ([.ref h_t, .int x1, .int x2] : List Value).toArray 3 from by rw [hargs], lg_entry_eq]
  generalize (lg_sl [.ref h_t, .int x1, .int x2] ++ List.replicate (3 - (lg_sl [.ref h_t, .int x1, .int x2]).length) Slot.unset).toArray = ls at hl ⊢
  have hl : lv_has ls 3 [(0, .ref h_t), (1, .int x1), (2, .int x2)] := hl
  generalize hQQ : MQ below (va_Qi (fun (r9 : Int32) (_ : Unit) => r9 = r) (fun (_ : Unit) (t : State) => va_P (dC, dI) vwCl [(h_t, .inr (6, [.ref h_t_letters, .ref h_t_settings, .int t_size]))] t.heap ∧ va_K (dC, dI) vwCl (tyA cI cJ cC cS) t ∧ va_D A [(h_t, .inr (6, [.ref h_t_letters, .ref h_t_settings, .int t_size]))]) A) args s 0 0 A = QQ
  obtain ⟨H, hH⟩ : ∃ H : Heap, H = s.heap := ⟨_, rfl⟩
  obtain ⟨locs, hlocs⟩ : ∃ locs : List Loc, locs = [] := ⟨_, rfl⟩
  rw [← hH] at hP
  have hS : va_S A s.heap H locs := by rw [hH, hlocs]; exact hS
  suffices hZ : W p l e (headSpec wsX7_hasPart ({ frames := 0, cells := 0, slots := 0, locals := 0 } : Room)).room s m args below meth c H locs 0 0 QQ (F0 m 0 ls []) by rw [hH, hlocs] at hZ; exact hZ
  clear hH hlocs
  rw [fSt_hasPart] at hres
  refine lv_iload_n hx hb dX7_hasPart_0 rfl (lv_at hl 1 rfl) ?_
  refine lv_if_lt (tgt := 21) hx hb dX7_hasPart_1 (by decide) (fun c_1 => ?_) (fun c_1 => ?_)
  · have hres := it_of hres c_1
    refine lv_iconst (v := (0 : Int32)) hx hb dX7_hasPart_21 (by decide) ?_
    have e9_0 := Option.some.inj hres
    subst e9_0
    rw [← hQQ]
    exact W.zret (v := (0 : Int32)) hx hb hr rfl (fun t ht hW => ⟨⟨(0 : Int32), (), rfl, rfl, by rw [ht]; exact hP, va_K.moved hW.alike hK, hD⟩, hS.F ht⟩) hS.2.2 dX7_hasPart_22
  · have hres := ie_of hres c_1
    refine lv_iload_n hx hb dX7_hasPart_4 rfl (lv_at hl 1 rfl) ?_
    refine lv_iload_n hx hb dX7_hasPart_5 rfl (lv_at hl 2 rfl) ?_
    refine lv_icmp_ge (tgt := 21) hx hb dX7_hasPart_6 (by decide) (fun c_2 => ?_) (fun c_2 => ?_)
    · have hres := it_of hres c_2
      refine lv_iconst (v := (0 : Int32)) hx hb dX7_hasPart_21 (by decide) ?_
      have e9_0 := Option.some.inj hres
      subst e9_0
      rw [← hQQ]
      exact W.zret (v := (0 : Int32)) hx hb hr rfl (fun t ht hW => ⟨⟨(0 : Int32), (), rfl, rfl, by rw [ht]; exact hP, va_K.moved hW.alike hK, hD⟩, hS.F ht⟩) hS.2.2 dX7_hasPart_22
    · have hres := ie_of hres c_2
      refine lv_iload_n hx hb dX7_hasPart_9 rfl (lv_at hl 2 rfl) ?_
      refine lv_aload_n hx hb dX7_hasPart_10 rfl (lv_at hl 0 rfl) ?_
      refine va_get (D := (dC, dI)) (ci := 6) (v := .int t_size) (C := RX7) (T := TX7) (N := 3) hx hb hts iSt_hasPart_X7_hasPart_1 hown hK hP 0 rfl rfl 2 (by decide) (hts _ kSt_hasPart_X7_hasPart_0) (fun _ h9 => h9) rfl dX7_hasPart_11 ?_
      refine lv_icmp_gt (tgt := 21) hx hb dX7_hasPart_14 (by decide) (fun c_3 => ?_) (fun c_3 => ?_)
      · have hres := it_of hres c_3
        refine lv_iconst (v := (0 : Int32)) hx hb dX7_hasPart_21 (by decide) ?_
        have e9_0 := Option.some.inj hres
        subst e9_0
        rw [← hQQ]
        exact W.zret (v := (0 : Int32)) hx hb hr rfl (fun t ht hW => ⟨⟨(0 : Int32), (), rfl, rfl, by rw [ht]; exact hP, va_K.moved hW.alike hK, hD⟩, hS.F ht⟩) hS.2.2 dX7_hasPart_22
      · have hres := ie_of hres c_3
        refine lv_iconst (v := (1 : Int32)) hx hb dX7_hasPart_17 (by decide) ?_
        refine lv_goto (tgt := 22) hx hb dX7_hasPart_18 (by decide) ?_
        have e9_0 := Option.some.inj hres
        subst e9_0
        rw [← hQQ]
        exact W.zret (v := (1 : Int32)) hx hb hr rfl (fun t ht hW => ⟨⟨(1 : Int32), (), rfl, rfl, by rw [ht]; exact hP, va_K.moved hW.alike hK, hD⟩, hS.F ht⟩) hS.2.2 dX7_hasPart_22

-- St_unlikeLetters
set_option maxHeartbeats 4000000 in
set_option maxRecDepth 100000 in
theorem cSt_unlikeLetters (l : Launch) (dC : Nat → ClassId) (dI : Nat → Nat → Nat) (cI cJ cC cS : ClassId) (h_t h_t_letters h_t_settings : Nat) (sz : Nat) (t_size : Int32) (t_letters : Nat → Int32) (x1 : Int32) (x2 : Int32) (x3 : Int32) (r : Int32) (hres : fSt_unlikeLetters t_size t_letters x1 x2 x3 = some r) :
    Met l yX7_unlikeLetters wsX7_unlikeLetters ({ frames := 1, cells := 0, slots := 0, locals := 21 } : Room) (va_Pc [.ref h_t, .int x1, .int x2, .int x3] (fun (U : State) => U.heap.size = sz ∧ va_P (dC, dI) vwCl [(h_t, .inr (6, [.ref h_t_letters, .ref h_t_settings, .int t_size])), (h_t_letters, .inl (cI, 24, .inl t_letters))] U.heap ∧ va_K (dC, dI) vwCl (tyA cI cJ cC cS) U ∧ nwN U ∧ va_D (fun _ => True) [(h_t, .inr (6, [.ref h_t_letters, .ref h_t_settings, .int t_size])), (h_t_letters, .inl (cI, 24, .inl t_letters))])) (va_Qi (fun (r9 : Int32) (_ : Unit) => r9 = r) (fun (_ : Unit) (t : State) => va_P (dC, dI) vwCl [(h_t, .inr (6, [.ref h_t_letters, .ref h_t_settings, .int t_size])), (h_t_letters, .inl (cI, 24, .inl t_letters))] t.heap ∧ va_K (dC, dI) vwCl (tyA cI cJ cC cS) t ∧ va_D (va_A [(h_t, .inr (6, [.ref h_t_letters, .ref h_t_settings, .int t_size])), (h_t_letters, .inl (cI, 24, .inl t_letters))] sz) [(h_t, .inr (6, [.ref h_t_letters, .ref h_t_settings, .int t_size])), (h_t_letters, .inl (cI, 24, .inl t_letters))]) (va_A [(h_t, .inr (6, [.ref h_t_letters, .ref h_t_settings, .int t_size])), (h_t_letters, .inl (cI, 24, .inl t_letters))] sz)) 0 0 (va_A [(h_t, .inr (6, [.ref h_t_letters, .ref h_t_settings, .int t_size])), (h_t_letters, .inl (cI, 24, .inl t_letters))] sz) := by
  refine Met.ofW (cc := cX7_unlikeLetters) (maxL := 6) (ret := (some .int)) (by decide) rfl ?_
  intro p e s m args below meth c s₁ B hml hv
  obtain ⟨hargs, hsz, hP, hK, hN, hD0⟩ := hv
  have hx := B.exec
  have hb := B.bytes
  have hr := B.returns
  have hts := atoms_spec (ws := wsX7_unlikeLetters) B.pre
  have hown : s.vm.findClass RX7 = some m.cls := findClass_of_methodNamed B.named
  have hlocks := B.notSynchronized
  subst hsz
  have hD := hD0.self (sz := s.heap.size)
  generalize hAe : va_A [(h_t, .inr (6, [.ref h_t_letters, .ref h_t_settings, .int t_size])), (h_t_letters, .inl (cI, 24, .inl t_letters))] s.heap.size = A at hD ⊢
  have hA : ∀ q : Nat, s.heap.size ≤ q → A q := fun q h => by rw [← hAe]; exact Or.inr h
  have hS : va_S A s.heap s.heap [] := va_S.rf
  have hP : va_P (dC, dI) vwCl [(h_t, .inr (6, [.ref h_t_letters, .ref h_t_settings, .int t_size])), (h_t_letters, .inl (cI, 24, .inl t_letters))] s.heap := hP
  have hl := lv_entry [.ref h_t, .int x1, .int x2, .int x3] (n := 6) (Nat.le_of_ble_eq_true rfl)
  rw [show entryFrame m args 6 = entryFrame m ([.ref h_t, .int x1, .int x2, .int x3] : List Value).toArray 6 from by rw [hargs], lg_entry_eq]
  generalize (lg_sl [.ref h_t, .int x1, .int x2, .int x3] ++ List.replicate (6 - (lg_sl [.ref h_t, .int x1, .int x2, .int x3]).length) Slot.unset).toArray = ls at hl ⊢
  have hl : lv_has ls 6 [(0, .ref h_t), (1, .int x1), (2, .int x2), (3, .int x3)] := hl
  generalize hQQ : MQ below (va_Qi (fun (r9 : Int32) (_ : Unit) => r9 = r) (fun (_ : Unit) (t : State) => va_P (dC, dI) vwCl [(h_t, .inr (6, [.ref h_t_letters, .ref h_t_settings, .int t_size])), (h_t_letters, .inl (cI, 24, .inl t_letters))] t.heap ∧ va_K (dC, dI) vwCl (tyA cI cJ cC cS) t ∧ va_D A [(h_t, .inr (6, [.ref h_t_letters, .ref h_t_settings, .int t_size])), (h_t_letters, .inl (cI, 24, .inl t_letters))]) A) args s 0 0 A = QQ
  obtain ⟨H, hH⟩ : ∃ H : Heap, H = s.heap := ⟨_, rfl⟩
  obtain ⟨locs, hlocs⟩ : ∃ locs : List Loc, locs = [] := ⟨_, rfl⟩
  rw [← hH] at hP
  have hS : va_S A s.heap H locs := by rw [hH, hlocs]; exact hS
  suffices hZ : W p l e (headSpec wsX7_unlikeLetters ({ frames := 1, cells := 0, slots := 0, locals := 21 } : Room)).room s m args below meth c H locs 0 0 QQ (F0 m 0 ls []) by rw [hH, hlocs] at hZ; exact hZ
  clear hH hlocs
  have hL8 : ∀ (n8 : Nat) , ∀ (x4 : Int32) (x5 : Int32) (H : Heap) (locs : List Loc) (ls : Array Slot), fSt_unlikeLetters_8 t_size t_letters x2 x3 n8 x4 x5 = some r → va_P (dC, dI) vwCl [(h_t, .inr (6, [.ref h_t_letters, .ref h_t_settings, .int t_size])), (h_t_letters, .inl (cI, 24, .inl t_letters))] H → va_D A [(h_t, .inr (6, [.ref h_t_letters, .ref h_t_settings, .int t_size])), (h_t_letters, .inl (cI, 24, .inl t_letters))] → va_S A s.heap H locs → lv_has ls 6 [(0, .ref h_t), (2, .int x2), (3, .int x3), (4, .int x4), (5, .int x5)] → W p l e (headSpec wsX7_unlikeLetters ({ frames := 1, cells := 0, slots := 0, locals := 21 } : Room)).room s m args below meth c H locs 0 0 QQ (F0 m 8 ls []) := by
    intro n8
    induction n8 with
    | zero =>
      intro x4 x5 H locs ls hres
      rw [fSt_unlikeLetters_8] at hres
      cases hres
    | succ n8 ih8 =>
      intro x4 x5 H locs ls hres hP hD hS hl
      rw [fSt_unlikeLetters_8] at hres
      refine lv_iload hx hb dX7_unlikeLetters_8 (lv_at hl 4 rfl) ?_
      refine lv_iload_n hx hb dX7_unlikeLetters_10 rfl (lv_at hl 1 rfl) ?_
      refine lv_icmp_ge (tgt := 40) hx hb dX7_unlikeLetters_11 (by decide) (fun c_1 => ?_) (fun c_1 => ?_)
      · have hres := it_of hres c_1
        refine lv_iload hx hb dX7_unlikeLetters_40 (lv_at hl 3 rfl) ?_
        have e9_0 := Option.some.inj hres
        subst e9_0
        rw [← hQQ]
        exact W.iret (v := x4) hx hb hr (fun t ht hW => ⟨⟨x4, (), rfl, rfl, by rw [ht]; exact hP, va_K.moved hW.alike hK, hD⟩, hS.F ht⟩) hS.2.2 dX7_unlikeLetters_42
      · have hres := ie_of hres c_1
        refine lv_aload_n hx hb dX7_unlikeLetters_14 rfl (lv_at hl 0 rfl) ?_
        refine lv_iload hx hb dX7_unlikeLetters_15 (lv_at hl 4 rfl) ?_
        obtain ⟨o2, ho2, hres⟩ := bd_of hres
        have hPc := hP.sub (ws' := [(h_t, .inr (6, [.ref h_t_letters, .ref h_t_settings, .int t_size])), (h_t_letters, .inl (cI, 24, .inl t_letters))]) [0, 1] rfl
        have hDc := hD.sub (ws' := [(h_t, .inr (6, [.ref h_t_letters, .ref h_t_settings, .int t_size])), (h_t_letters, .inl (cI, 24, .inl t_letters))]) [0, 1] (by decide) rfl
        have hFc := va_free (wc := [(h_t, .inr (6, [.ref h_t_letters, .ref h_t_settings, .int t_size])), (h_t_letters, .inl (cI, 24, .inl t_letters))]) hD hS hA [0, 1] rfl
        refine va_calli (va_runV (As := [.int x5]) (rest := []) ⟨hx, hb, hml, hown, hts⟩ (cSt_letter l dC dI cI cJ cC cS h_t h_t_letters h_t_settings H.size t_size t_letters x5 o2 ho2) (cwV 1 hts gX7_unlikeLetters_X7_letter rfl rfl rfl (by decide +kernel) ⟨Nat.le_of_ble_eq_true rfl, Nat.le_of_ble_eq_true rfl⟩) ⟨fun a U g mk q => by obtain ⟨q0, q1, qP, qK, qN, qD⟩ := q; exact ⟨q0, q1, qP, va_K.moved (u := U) (U := U.calling g mk a) (Vm.Alike.refl U.vm) qK, nwS (u := U) (U := U.calling g mk a) rfl qN, qD⟩, va_recv hK hPc (ci := 6) (q0 := 0) rfl rfl, fun U hU hW => ⟨rfl, by rw [hU], by rw [hU]; exact hPc, va_K.moved hW.alike hK, nwW hW hN, hDc.weaken (fun _ _ _ _ => trivial)⟩⟩ rfl rfl hl.1 rfl (lv_room (Nat.le_of_ble_eq_true rfl)) dX7_unlikeLetters_17 ⟨Nat.zero_le _, Nat.zero_le _⟩) hS (fun q _ h => hFc q h) hFc (fun r9 u9 t H1 locs ht hvm hw hB hz1 hk1 hS => ?_)
        have hw := hw.symm
        subst hw
        obtain ⟨hP1, hK1, hD1⟩ := hB
        rw [ht] at hP1
        obtain ⟨hP, hD⟩ := va_join (wr := []) (w1 := [(h_t, .inr (6, [.ref h_t_letters, .ref h_t_settings, .int t_size])), (h_t_letters, .inl (cI, 24, .inl t_letters))]) hP hD [0, 1] [] rfl rfl (by decide) (by decide) hk1 hFc hP1 hD1
        generalize H1 = H at hP hS ⊢
        have hP : va_P (dC, dI) vwCl [(h_t, .inr (6, [.ref h_t_letters, .ref h_t_settings, .int t_size])), (h_t_letters, .inl (cI, 24, .inl t_letters))] H := hP
        have hD : va_D A [(h_t, .inr (6, [.ref h_t_letters, .ref h_t_settings, .int t_size])), (h_t_letters, .inl (cI, 24, .inl t_letters))] := hD
        refine lv_aload_n hx hb dX7_unlikeLetters_20 rfl (lv_at hl 0 rfl) ?_
        refine lv_iload hx hb dX7_unlikeLetters_21 (lv_at hl 4 rfl) ?_
        refine lv_iload_n hx hb dX7_unlikeLetters_23 rfl (lv_at hl 2 rfl) ?_
        refine lv_isub hx hb dX7_unlikeLetters_24 ?_
        obtain ⟨o3, ho3, hres⟩ := bd_of hres
        have hPc := hP.sub (ws' := [(h_t, .inr (6, [.ref h_t_letters, .ref h_t_settings, .int t_size])), (h_t_letters, .inl (cI, 24, .inl t_letters))]) [0, 1] rfl
        have hDc := hD.sub (ws' := [(h_t, .inr (6, [.ref h_t_letters, .ref h_t_settings, .int t_size])), (h_t_letters, .inl (cI, 24, .inl t_letters))]) [0, 1] (by decide) rfl
        have hFc := va_free (wc := [(h_t, .inr (6, [.ref h_t_letters, .ref h_t_settings, .int t_size])), (h_t_letters, .inl (cI, 24, .inl t_letters))]) hD hS hA [0, 1] rfl
        refine va_calli (va_runV (As := [.int (x5 - x3)]) (rest := [.int o2]) ⟨hx, hb, hml, hown, hts⟩ (cSt_letter l dC dI cI cJ cC cS h_t h_t_letters h_t_settings H.size t_size t_letters (x5 - x3) o3 ho3) (cwV 1 hts gX7_unlikeLetters_X7_letter rfl rfl rfl (by decide +kernel) ⟨Nat.le_of_ble_eq_true rfl, Nat.le_of_ble_eq_true rfl⟩) ⟨fun a U g mk q => by obtain ⟨q0, q1, qP, qK, qN, qD⟩ := q; exact ⟨q0, q1, qP, va_K.moved (u := U) (U := U.calling g mk a) (Vm.Alike.refl U.vm) qK, nwS (u := U) (U := U.calling g mk a) rfl qN, qD⟩, va_recv hK hPc (ci := 6) (q0 := 0) rfl rfl, fun U hU hW => ⟨rfl, by rw [hU], by rw [hU]; exact hPc, va_K.moved hW.alike hK, nwW hW hN, hDc.weaken (fun _ _ _ _ => trivial)⟩⟩ rfl rfl hl.1 rfl (lv_room (Nat.le_of_ble_eq_true rfl)) dX7_unlikeLetters_25 ⟨Nat.zero_le _, Nat.zero_le _⟩) hS (fun q _ h => hFc q h) hFc (fun r9 u9 t H1 locs ht hvm hw hB hz1 hk1 hS => ?_)
        have hw := hw.symm
        subst hw
        obtain ⟨hP1, hK1, hD1⟩ := hB
        rw [ht] at hP1
        obtain ⟨hP, hD⟩ := va_join (wr := []) (w1 := [(h_t, .inr (6, [.ref h_t_letters, .ref h_t_settings, .int t_size])), (h_t_letters, .inl (cI, 24, .inl t_letters))]) hP hD [0, 1] [] rfl rfl (by decide) (by decide) hk1 hFc hP1 hD1
        generalize H1 = H at hP hS ⊢
        have hP : va_P (dC, dI) vwCl [(h_t, .inr (6, [.ref h_t_letters, .ref h_t_settings, .int t_size])), (h_t_letters, .inl (cI, 24, .inl t_letters))] H := hP
        have hD : va_D A [(h_t, .inr (6, [.ref h_t_letters, .ref h_t_settings, .int t_size])), (h_t_letters, .inl (cI, 24, .inl t_letters))] := hD
        refine lv_icmp_eq (tgt := 34) hx hb dX7_unlikeLetters_28 (by decide) (fun c_4 => ?_) (fun c_4 => ?_)
        · have hres := it_of hres c_4
          refine lv_iinc (v := (x5 + 1)) (lv' := [(5, .int (x5 + 1)), (0, .ref h_t), (2, .int x2), (3, .int x3), (4, .int x4)]) hx hb dX7_unlikeLetters_34 hl (k := 4) rfl rfl (by decide) rfl (fun ls hl => ?_)
          refine lv_goto (tgt := 8) hx hb dX7_unlikeLetters_37 (by decide) ?_
          exact ih8 x4 (x5 + 1) H locs ls hres hP hD hS (lv_sub hl [1, 2, 3, 4, 0] rfl)
        · have hres := ie_of hres c_4
          refine lv_iinc (v := (x4 + 1)) (lv' := [(4, .int (x4 + 1)), (0, .ref h_t), (2, .int x2), (3, .int x3), (5, .int x5)]) hx hb dX7_unlikeLetters_31 hl (k := 3) rfl rfl (by decide) rfl (fun ls hl => ?_)
          refine lv_iinc (v := (x5 + 1)) (lv' := [(5, .int (x5 + 1)), (4, .int (x4 + 1)), (0, .ref h_t), (2, .int x2), (3, .int x3)]) hx hb dX7_unlikeLetters_34 hl (k := 4) rfl rfl (by decide) rfl (fun ls hl => ?_)
          refine lv_goto (tgt := 8) hx hb dX7_unlikeLetters_37 (by decide) ?_
          exact ih8 (x4 + 1) (x5 + 1) H locs ls hres hP hD hS (lv_sub hl [2, 3, 4, 1, 0] rfl)
  rw [fSt_unlikeLetters] at hres
  refine lv_iconst (v := (0 : Int32)) hx hb dX7_unlikeLetters_0 (by decide) ?_
  refine lv_istore (lv' := [(4, .int (0 : Int32)), (0, .ref h_t), (1, .int x1), (2, .int x2), (3, .int x3)]) hx hb dX7_unlikeLetters_1 hl (by decide) rfl (fun ls hl => ?_)
  refine lv_iload_n hx hb dX7_unlikeLetters_3 rfl (lv_at hl 2 rfl) ?_
  refine lv_iload_n hx hb dX7_unlikeLetters_4 rfl (lv_at hl 4 rfl) ?_
  refine lv_iadd hx hb dX7_unlikeLetters_5 ?_
  refine lv_istore (lv' := [(5, .int (x1 + x3)), (4, .int (0 : Int32)), (0, .ref h_t), (1, .int x1), (2, .int x2), (3, .int x3)]) hx hb dX7_unlikeLetters_6 hl (by decide) rfl (fun ls hl => ?_)
  exact hL8 FU (0 : Int32) (x1 + x3) H locs ls hres hP hD hS (lv_sub hl [2, 4, 5, 1, 0] rfl)

-- St_leastPeriod
set_option maxHeartbeats 4000000 in
set_option maxRecDepth 100000 in
theorem cSt_leastPeriod (l : Launch) (dC : Nat → ClassId) (dI : Nat → Nat → Nat) (cI cJ cC cS : ClassId) (h_t h_t_letters h_t_settings : Nat) (sz : Nat) (t_size : Int32) (t_letters : Nat → Int32) (x1 : Int32) (x2 : Int32) (r : Int32) (hres : fSt_leastPeriod t_size t_letters x1 x2 = some r) :
    Met l yX7_leastPeriod wsX7_leastPeriod ({ frames := 2, cells := 0, slots := 0, locals := 46 } : Room) (va_Pc [.ref h_t, .int x1, .int x2] (fun (U : State) => U.heap.size = sz ∧ va_P (dC, dI) vwCl [(h_t, .inr (6, [.ref h_t_letters, .ref h_t_settings, .int t_size])), (h_t_letters, .inl (cI, 24, .inl t_letters))] U.heap ∧ va_K (dC, dI) vwCl (tyA cI cJ cC cS) U ∧ nwN U ∧ va_D (fun _ => True) [(h_t, .inr (6, [.ref h_t_letters, .ref h_t_settings, .int t_size])), (h_t_letters, .inl (cI, 24, .inl t_letters))])) (va_Qi (fun (r9 : Int32) (_ : Unit) => r9 = r) (fun (_ : Unit) (t : State) => va_P (dC, dI) vwCl [(h_t, .inr (6, [.ref h_t_letters, .ref h_t_settings, .int t_size])), (h_t_letters, .inl (cI, 24, .inl t_letters))] t.heap ∧ va_K (dC, dI) vwCl (tyA cI cJ cC cS) t ∧ va_D (va_A [(h_t, .inr (6, [.ref h_t_letters, .ref h_t_settings, .int t_size])), (h_t_letters, .inl (cI, 24, .inl t_letters))] sz) [(h_t, .inr (6, [.ref h_t_letters, .ref h_t_settings, .int t_size])), (h_t_letters, .inl (cI, 24, .inl t_letters))]) (va_A [(h_t, .inr (6, [.ref h_t_letters, .ref h_t_settings, .int t_size])), (h_t_letters, .inl (cI, 24, .inl t_letters))] sz)) 0 0 (va_A [(h_t, .inr (6, [.ref h_t_letters, .ref h_t_settings, .int t_size])), (h_t_letters, .inl (cI, 24, .inl t_letters))] sz) := by
  refine Met.ofW (cc := cX7_leastPeriod) (maxL := 4) (ret := (some .int)) (by decide) rfl ?_
  intro p e s m args below meth c s₁ B hml hv
  obtain ⟨hargs, hsz, hP, hK, hN, hD0⟩ := hv
  have hx := B.exec
  have hb := B.bytes
  have hr := B.returns
  have hts := atoms_spec (ws := wsX7_leastPeriod) B.pre
  have hown : s.vm.findClass RX7 = some m.cls := findClass_of_methodNamed B.named
  have hlocks := B.notSynchronized
  subst hsz
  have hD := hD0.self (sz := s.heap.size)
  generalize hAe : va_A [(h_t, .inr (6, [.ref h_t_letters, .ref h_t_settings, .int t_size])), (h_t_letters, .inl (cI, 24, .inl t_letters))] s.heap.size = A at hD ⊢
  have hA : ∀ q : Nat, s.heap.size ≤ q → A q := fun q h => by rw [← hAe]; exact Or.inr h
  have hS : va_S A s.heap s.heap [] := va_S.rf
  have hP : va_P (dC, dI) vwCl [(h_t, .inr (6, [.ref h_t_letters, .ref h_t_settings, .int t_size])), (h_t_letters, .inl (cI, 24, .inl t_letters))] s.heap := hP
  have hl := lv_entry [.ref h_t, .int x1, .int x2] (n := 4) (Nat.le_of_ble_eq_true rfl)
  rw [show entryFrame m args 4 = entryFrame m ([.ref h_t, .int x1, .int x2] : List Value).toArray 4 from by rw [hargs], lg_entry_eq]
  generalize (lg_sl [.ref h_t, .int x1, .int x2] ++ List.replicate (4 - (lg_sl [.ref h_t, .int x1, .int x2]).length) Slot.unset).toArray = ls at hl ⊢
  have hl : lv_has ls 4 [(0, .ref h_t), (1, .int x1), (2, .int x2)] := hl
  generalize hQQ : MQ below (va_Qi (fun (r9 : Int32) (_ : Unit) => r9 = r) (fun (_ : Unit) (t : State) => va_P (dC, dI) vwCl [(h_t, .inr (6, [.ref h_t_letters, .ref h_t_settings, .int t_size])), (h_t_letters, .inl (cI, 24, .inl t_letters))] t.heap ∧ va_K (dC, dI) vwCl (tyA cI cJ cC cS) t ∧ va_D A [(h_t, .inr (6, [.ref h_t_letters, .ref h_t_settings, .int t_size])), (h_t_letters, .inl (cI, 24, .inl t_letters))]) A) args s 0 0 A = QQ
  obtain ⟨H, hH⟩ : ∃ H : Heap, H = s.heap := ⟨_, rfl⟩
  obtain ⟨locs, hlocs⟩ : ∃ locs : List Loc, locs = [] := ⟨_, rfl⟩
  rw [← hH] at hP
  have hS : va_S A s.heap H locs := by rw [hH, hlocs]; exact hS
  suffices hZ : W p l e (headSpec wsX7_leastPeriod ({ frames := 2, cells := 0, slots := 0, locals := 46 } : Room)).room s m args below meth c H locs 0 0 QQ (F0 m 0 ls []) by rw [hH, hlocs] at hZ; exact hZ
  clear hH hlocs
  have hL2 : ∀ (n2 : Nat) , ∀ (x3 : Int32) (H : Heap) (locs : List Loc) (ls : Array Slot), fSt_leastPeriod_2 t_size t_letters x1 x2 n2 x3 = some r → va_P (dC, dI) vwCl [(h_t, .inr (6, [.ref h_t_letters, .ref h_t_settings, .int t_size])), (h_t_letters, .inl (cI, 24, .inl t_letters))] H → va_D A [(h_t, .inr (6, [.ref h_t_letters, .ref h_t_settings, .int t_size])), (h_t_letters, .inl (cI, 24, .inl t_letters))] → va_S A s.heap H locs → lv_has ls 4 [(0, .ref h_t), (1, .int x1), (2, .int x2), (3, .int x3)] → W p l e (headSpec wsX7_leastPeriod ({ frames := 2, cells := 0, slots := 0, locals := 46 } : Room)).room s m args below meth c H locs 0 0 QQ (F0 m 2 ls []) := by
    intro n2
    induction n2 with
    | zero =>
      intro x3 H locs ls hres
      rw [fSt_leastPeriod_2] at hres
      cases hres
    | succ n2 ih2 =>
      intro x3 H locs ls hres hP hD hS hl
      rw [fSt_leastPeriod_2] at hres
      refine lv_iload_n hx hb dX7_leastPeriod_2 rfl (lv_at hl 3 rfl) ?_
      refine lv_iload_n hx hb dX7_leastPeriod_3 rfl (lv_at hl 2 rfl) ?_
      refine lv_iload_n hx hb dX7_leastPeriod_4 rfl (lv_at hl 1 rfl) ?_
      refine lv_isub hx hb dX7_leastPeriod_5 ?_
      refine lv_icmp_ge (tgt := 27) hx hb dX7_leastPeriod_6 (by decide) (fun c_1 => ?_) (fun c_1 => ?_)
      · have hres := it_of hres c_1
        refine lv_iload_n hx hb dX7_leastPeriod_27 rfl (lv_at hl 2 rfl) ?_
        refine lv_iload_n hx hb dX7_leastPeriod_28 rfl (lv_at hl 1 rfl) ?_
        refine lv_isub hx hb dX7_leastPeriod_29 ?_
        have e9_0 := Option.some.inj hres
        subst e9_0
        rw [← hQQ]
        exact W.iret (v := (x2 - x1)) hx hb hr (fun t ht hW => ⟨⟨(x2 - x1), (), rfl, rfl, by rw [ht]; exact hP, va_K.moved hW.alike hK, hD⟩, hS.F ht⟩) hS.2.2 dX7_leastPeriod_30
      · have hres := ie_of hres c_1
        refine lv_aload_n hx hb dX7_leastPeriod_9 rfl (lv_at hl 0 rfl) ?_
        refine lv_iload_n hx hb dX7_leastPeriod_10 rfl (lv_at hl 1 rfl) ?_
        refine lv_iload_n hx hb dX7_leastPeriod_11 rfl (lv_at hl 2 rfl) ?_
        refine lv_iload_n hx hb dX7_leastPeriod_12 rfl (lv_at hl 3 rfl) ?_
        obtain ⟨o2, ho2, hres⟩ := bd_of hres
        have hPc := hP.sub (ws' := [(h_t, .inr (6, [.ref h_t_letters, .ref h_t_settings, .int t_size])), (h_t_letters, .inl (cI, 24, .inl t_letters))]) [0, 1] rfl
        have hDc := hD.sub (ws' := [(h_t, .inr (6, [.ref h_t_letters, .ref h_t_settings, .int t_size])), (h_t_letters, .inl (cI, 24, .inl t_letters))]) [0, 1] (by decide) rfl
        have hFc := va_free (wc := [(h_t, .inr (6, [.ref h_t_letters, .ref h_t_settings, .int t_size])), (h_t_letters, .inl (cI, 24, .inl t_letters))]) hD hS hA [0, 1] rfl
        refine va_calli (va_runV (As := [.int x1, .int x2, .int x3]) (rest := []) ⟨hx, hb, hml, hown, hts⟩ (cSt_unlikeLetters l dC dI cI cJ cC cS h_t h_t_letters h_t_settings H.size t_size t_letters x1 x2 x3 o2 ho2) (cwV 3 hts gX7_leastPeriod_X7_unlikeLetters rfl rfl rfl (by decide +kernel) ⟨Nat.le_of_ble_eq_true rfl, Nat.le_of_ble_eq_true rfl⟩) ⟨fun a U g mk q => by obtain ⟨q0, q1, qP, qK, qN, qD⟩ := q; exact ⟨q0, q1, qP, va_K.moved (u := U) (U := U.calling g mk a) (Vm.Alike.refl U.vm) qK, nwS (u := U) (U := U.calling g mk a) rfl qN, qD⟩, va_recv hK hPc (ci := 6) (q0 := 0) rfl rfl, fun U hU hW => ⟨rfl, by rw [hU], by rw [hU]; exact hPc, va_K.moved hW.alike hK, nwW hW hN, hDc.weaken (fun _ _ _ _ => trivial)⟩⟩ rfl rfl hl.1 rfl (lv_room (Nat.le_of_ble_eq_true rfl)) dX7_leastPeriod_13 ⟨Nat.zero_le _, Nat.zero_le _⟩) hS (fun q _ h => hFc q h) hFc (fun r9 u9 t H1 locs ht hvm hw hB hz1 hk1 hS => ?_)
        have hw := hw.symm
        subst hw
        obtain ⟨hP1, hK1, hD1⟩ := hB
        rw [ht] at hP1
        obtain ⟨hP, hD⟩ := va_join (wr := []) (w1 := [(h_t, .inr (6, [.ref h_t_letters, .ref h_t_settings, .int t_size])), (h_t_letters, .inl (cI, 24, .inl t_letters))]) hP hD [0, 1] [] rfl rfl (by decide) (by decide) hk1 hFc hP1 hD1
        generalize H1 = H at hP hS ⊢
        have hP : va_P (dC, dI) vwCl [(h_t, .inr (6, [.ref h_t_letters, .ref h_t_settings, .int t_size])), (h_t_letters, .inl (cI, 24, .inl t_letters))] H := hP
        have hD : va_D A [(h_t, .inr (6, [.ref h_t_letters, .ref h_t_settings, .int t_size])), (h_t_letters, .inl (cI, 24, .inl t_letters))] := hD
        refine lv_if_ne (tgt := 21) hx hb dX7_leastPeriod_16 (by decide) (fun c_3 => ?_) (fun c_3 => ?_)
        · have hres := ie_of hres c_3
          refine lv_iinc (v := (x3 + 1)) (lv' := [(3, .int (x3 + 1)), (0, .ref h_t), (1, .int x1), (2, .int x2)]) hx hb dX7_leastPeriod_21 hl (k := 3) rfl rfl (by decide) rfl (fun ls hl => ?_)
          refine lv_goto (tgt := 2) hx hb dX7_leastPeriod_24 (by decide) ?_
          exact ih2 (x3 + 1) H locs ls hres hP hD hS (lv_sub hl [1, 2, 3, 0] rfl)
        · have hres := it_of hres c_3
          refine lv_iload_n hx hb dX7_leastPeriod_19 rfl (lv_at hl 3 rfl) ?_
          have e9_0 := Option.some.inj hres
          subst e9_0
          rw [← hQQ]
          exact W.iret (v := x3) hx hb hr (fun t ht hW => ⟨⟨x3, (), rfl, rfl, by rw [ht]; exact hP, va_K.moved hW.alike hK, hD⟩, hS.F ht⟩) hS.2.2 dX7_leastPeriod_20
  rw [fSt_leastPeriod] at hres
  refine lv_iconst (v := (1 : Int32)) hx hb dX7_leastPeriod_0 (by decide) ?_
  refine lv_istore_n (lv' := [(3, .int (1 : Int32)), (0, .ref h_t), (1, .int x1), (2, .int x2)]) hx hb dX7_leastPeriod_1 rfl hl (by decide) rfl (fun ls hl => ?_)
  exact hL2 FU (1 : Int32) H locs ls hres hP hD hS (lv_sub hl [1, 2, 3, 0] rfl)

-- St_putSetting
theorem kSt_putSetting_X7_putSetting_0 : Cond.fieldLink RX7 15 "RepeatNests$State" "settings" "[I" ∈ wsX7_putSetting := by decide +kernel
theorem iSt_putSetting_X7_putSetting_1 : ∀ w ∈ wsX70, w ∈ wsX7_putSetting := by decide +kernel
set_option maxHeartbeats 4000000 in
set_option maxRecDepth 100000 in
theorem cSt_putSetting (l : Launch) (dC : Nat → ClassId) (dI : Nat → Nat → Nat) (cI cJ cC cS : ClassId) (h_t h_t_letters h_t_settings : Nat) (sz : Nat) (t_size : Int32) (t_settings : Nat → Int32) (x1 : Int32) (x2 : Int32) (y_t_settings : Nat → Int32) (hres : fSt_putSetting t_settings x1 x2 = some y_t_settings) :
    Met l yX7_putSetting wsX7_putSetting ({ frames := 0, cells := 0, slots := 0, locals := 0 } : Room) (va_Pc [.ref h_t, .int x1, .int x2] (fun (U : State) => U.heap.size = sz ∧ va_P (dC, dI) vwCl [(h_t, .inr (6, [.ref h_t_letters, .ref h_t_settings, .int t_size])), (h_t_settings, .inl (cI, 5, .inl t_settings))] U.heap ∧ va_K (dC, dI) vwCl (tyA cI cJ cC cS) U ∧ nwN U ∧ va_D (fun _ => True) [(h_t, .inr (6, [.ref h_t_letters, .ref h_t_settings, .int t_size])), (h_t_settings, .inl (cI, 5, .inl t_settings))])) (va_Qv (fun (_ : Unit) => True) (fun (_ : Unit) (t : State) => va_P (dC, dI) vwCl [(h_t, .inr (6, [.ref h_t_letters, .ref h_t_settings, .int t_size])), (h_t_settings, .inl (cI, 5, .inl y_t_settings))] t.heap ∧ va_K (dC, dI) vwCl (tyA cI cJ cC cS) t ∧ va_D (va_A [(h_t, .inr (6, [.ref h_t_letters, .ref h_t_settings, .int t_size])), (h_t_settings, .inl (cI, 5, .inl t_settings))] sz) [(h_t, .inr (6, [.ref h_t_letters, .ref h_t_settings, .int t_size])), (h_t_settings, .inl (cI, 5, .inl y_t_settings))]) (va_A [(h_t, .inr (6, [.ref h_t_letters, .ref h_t_settings, .int t_size])), (h_t_settings, .inl (cI, 5, .inl t_settings))] sz)) 0 0 (va_A [(h_t, .inr (6, [.ref h_t_letters, .ref h_t_settings, .int t_size])), (h_t_settings, .inl (cI, 5, .inl t_settings))] sz) := by
  refine Met.ofW (cc := cX7_putSetting) (maxL := 3) (ret := none) (by decide) rfl ?_
  intro p e s m args below meth c s₁ B hml hv
  obtain ⟨hargs, hsz, hP, hK, hN, hD0⟩ := hv
  have hx := B.exec
  have hb := B.bytes
  have hr := B.returns
  have hts := atoms_spec (ws := wsX7_putSetting) B.pre
  have hown : s.vm.findClass RX7 = some m.cls := findClass_of_methodNamed B.named
  have hlocks := B.notSynchronized
  subst hsz
  have hD := hD0.self (sz := s.heap.size)
  generalize hAe : va_A [(h_t, .inr (6, [.ref h_t_letters, .ref h_t_settings, .int t_size])), (h_t_settings, .inl (cI, 5, .inl t_settings))] s.heap.size = A at hD ⊢
  have hA : ∀ q : Nat, s.heap.size ≤ q → A q := fun q h => by rw [← hAe]; exact Or.inr h
  have hS : va_S A s.heap s.heap [] := va_S.rf
  have hP : va_P (dC, dI) vwCl [(h_t, .inr (6, [.ref h_t_letters, .ref h_t_settings, .int t_size])), (h_t_settings, .inl (cI, 5, .inl t_settings))] s.heap := hP
  have hl := lv_entry [.ref h_t, .int x1, .int x2] (n := 3) (Nat.le_of_ble_eq_true rfl)
  rw [show entryFrame m args 3 = entryFrame m ([.ref h_t, .int x1, .int x2] : List Value).toArray 3 from by rw [hargs], lg_entry_eq]
  generalize (lg_sl [.ref h_t, .int x1, .int x2] ++ List.replicate (3 - (lg_sl [.ref h_t, .int x1, .int x2]).length) Slot.unset).toArray = ls at hl ⊢
  have hl : lv_has ls 3 [(0, .ref h_t), (1, .int x1), (2, .int x2)] := hl
  generalize hQQ : MQ below (va_Qv (fun (_ : Unit) => True) (fun (_ : Unit) (t : State) => va_P (dC, dI) vwCl [(h_t, .inr (6, [.ref h_t_letters, .ref h_t_settings, .int t_size])), (h_t_settings, .inl (cI, 5, .inl y_t_settings))] t.heap ∧ va_K (dC, dI) vwCl (tyA cI cJ cC cS) t ∧ va_D A [(h_t, .inr (6, [.ref h_t_letters, .ref h_t_settings, .int t_size])), (h_t_settings, .inl (cI, 5, .inl y_t_settings))]) A) args s 0 0 A = QQ
  obtain ⟨H, hH⟩ : ∃ H : Heap, H = s.heap := ⟨_, rfl⟩
  obtain ⟨locs, hlocs⟩ : ∃ locs : List Loc, locs = [] := ⟨_, rfl⟩
  rw [← hH] at hP
  have hS : va_S A s.heap H locs := by rw [hH, hlocs]; exact hS
  suffices hZ : W p l e (headSpec wsX7_putSetting ({ frames := 0, cells := 0, slots := 0, locals := 0 } : Room)).room s m args below meth c H locs 0 0 QQ (F0 m 0 ls []) by rw [hH, hlocs] at hZ; exact hZ
  clear hH hlocs
  rw [fSt_putSetting] at hres
  refine lv_iload_n hx hb dX7_putSetting_0 rfl (lv_at hl 1 rfl) ?_
  refine lv_if_lt (tgt := 16) hx hb dX7_putSetting_1 (by decide) (fun c_1 => ?_) (fun c_1 => ?_)
  · have hres := it_of hres c_1
    have e9_0 := Option.some.inj hres
    subst e9_0
    rw [← hQQ]
    exact W.vret hx hb hr (fun t ht hW => ⟨⟨(), rfl, trivial, by rw [ht]; exact hP, va_K.moved hW.alike hK, hD⟩, hS.F ht⟩) hS.2.2 dX7_putSetting_16
  · have hres := ie_of hres c_1
    refine lv_iload_n hx hb dX7_putSetting_4 rfl (lv_at hl 1 rfl) ?_
    refine lv_iconst (v := (5 : Int32)) hx hb dX7_putSetting_5 (by decide) ?_
    refine lv_icmp_ge (tgt := 16) hx hb dX7_putSetting_6 (by decide) (fun c_2 => ?_) (fun c_2 => ?_)
    · have hres := it_of hres c_2
      have e9_0 := Option.some.inj hres
      subst e9_0
      rw [← hQQ]
      exact W.vret hx hb hr (fun t ht hW => ⟨⟨(), rfl, trivial, by rw [ht]; exact hP, va_K.moved hW.alike hK, hD⟩, hS.F ht⟩) hS.2.2 dX7_putSetting_16
    · have hres := ie_of hres c_2
      refine lv_aload_n hx hb dX7_putSetting_9 rfl (lv_at hl 0 rfl) ?_
      refine va_get (D := (dC, dI)) (ci := 6) (v := .ref h_t_settings) (C := RX7) (T := TX7) (N := 3) hx hb hts iSt_putSetting_X7_putSetting_1 hown hK hP 0 rfl rfl 1 (by decide) (hts _ kSt_putSetting_X7_putSetting_0) (fun _ h9 => h9) rfl dX7_putSetting_10 ?_
      refine lv_iload_n hx hb dX7_putSetting_13 rfl (lv_at hl 1 rfl) ?_
      refine lv_iload_n hx hb dX7_putSetting_14 rfl (lv_at hl 2 rfl) ?_
      obtain ⟨c_3, hres⟩ := ck_of hres
      refine va_iast hx hb hK hP hD hS 1 0 rfl rfl c_3 dX7_putSetting_15 (fun H locs hP hD hS => ?_)
      have hP : va_P (dC, dI) vwCl [(h_t, .inr (6, [.ref h_t_letters, .ref h_t_settings, .int t_size])), (h_t_settings, .inl (cI, 5, .inl (wr t_settings x1 x2)))] H := hP
      have hD : va_D A [(h_t, .inr (6, [.ref h_t_letters, .ref h_t_settings, .int t_size])), (h_t_settings, .inl (cI, 5, .inl (wr t_settings x1 x2)))] := hD
      have e9_0 := Option.some.inj hres
      subst e9_0
      rw [← hQQ]
      exact W.vret hx hb hr (fun t ht hW => ⟨⟨(), rfl, trivial, by rw [ht]; exact hP, va_K.moved hW.alike hK, hD⟩, hS.F ht⟩) hS.2.2 dX7_putSetting_16

-- St_reverse
theorem kSt_reverse_X7_reverse_0 : Cond.fieldLink RX7 18 "RepeatNests$State" "size" "I" ∈ wsX7_reverse := by decide +kernel
theorem iSt_reverse_X7_reverse_1 : ∀ w ∈ wsX70, w ∈ wsX7_reverse := by decide +kernel
set_option maxHeartbeats 4000000 in
set_option maxRecDepth 100000 in
theorem cSt_reverse (l : Launch) (dC : Nat → ClassId) (dI : Nat → Nat → Nat) (cI cJ cC cS : ClassId) (h_t h_t_letters h_t_settings : Nat) (sz : Nat) (t_size : Int32) (t_letters : Nat → Int32) (y_t_letters : Nat → Int32) (hres : fSt_reverse t_size t_letters = some y_t_letters) :
    Met l yX7_reverse wsX7_reverse ({ frames := 1, cells := 0, slots := 0, locals := 22 } : Room) (va_Pc [.ref h_t] (fun (U : State) => U.heap.size = sz ∧ va_P (dC, dI) vwCl [(h_t, .inr (6, [.ref h_t_letters, .ref h_t_settings, .int t_size])), (h_t_letters, .inl (cI, 24, .inl t_letters))] U.heap ∧ va_K (dC, dI) vwCl (tyA cI cJ cC cS) U ∧ nwN U ∧ va_D (fun _ => True) [(h_t, .inr (6, [.ref h_t_letters, .ref h_t_settings, .int t_size])), (h_t_letters, .inl (cI, 24, .inl t_letters))])) (va_Qv (fun (_ : Unit) => True) (fun (_ : Unit) (t : State) => va_P (dC, dI) vwCl [(h_t, .inr (6, [.ref h_t_letters, .ref h_t_settings, .int t_size])), (h_t_letters, .inl (cI, 24, .inl y_t_letters))] t.heap ∧ va_K (dC, dI) vwCl (tyA cI cJ cC cS) t ∧ va_D (va_A [(h_t, .inr (6, [.ref h_t_letters, .ref h_t_settings, .int t_size])), (h_t_letters, .inl (cI, 24, .inl t_letters))] sz) [(h_t, .inr (6, [.ref h_t_letters, .ref h_t_settings, .int t_size])), (h_t_letters, .inl (cI, 24, .inl y_t_letters))]) (va_A [(h_t, .inr (6, [.ref h_t_letters, .ref h_t_settings, .int t_size])), (h_t_letters, .inl (cI, 24, .inl t_letters))] sz)) 0 0 (va_A [(h_t, .inr (6, [.ref h_t_letters, .ref h_t_settings, .int t_size])), (h_t_letters, .inl (cI, 24, .inl t_letters))] sz) := by
  refine Met.ofW (cc := cX7_reverse) (maxL := 4) (ret := none) (by decide) rfl ?_
  intro p e s m args below meth c s₁ B hml hv
  obtain ⟨hargs, hsz, hP, hK, hN, hD0⟩ := hv
  have hx := B.exec
  have hb := B.bytes
  have hr := B.returns
  have hts := atoms_spec (ws := wsX7_reverse) B.pre
  have hown : s.vm.findClass RX7 = some m.cls := findClass_of_methodNamed B.named
  have hlocks := B.notSynchronized
  subst hsz
  have hD := hD0.self (sz := s.heap.size)
  generalize hAe : va_A [(h_t, .inr (6, [.ref h_t_letters, .ref h_t_settings, .int t_size])), (h_t_letters, .inl (cI, 24, .inl t_letters))] s.heap.size = A at hD ⊢
  have hA : ∀ q : Nat, s.heap.size ≤ q → A q := fun q h => by rw [← hAe]; exact Or.inr h
  have hS : va_S A s.heap s.heap [] := va_S.rf
  have hP : va_P (dC, dI) vwCl [(h_t, .inr (6, [.ref h_t_letters, .ref h_t_settings, .int t_size])), (h_t_letters, .inl (cI, 24, .inl t_letters))] s.heap := hP
  have hl := lv_entry [.ref h_t] (n := 4) (Nat.le_of_ble_eq_true rfl)
  rw [show entryFrame m args 4 = entryFrame m ([.ref h_t] : List Value).toArray 4 from by rw [hargs], lg_entry_eq]
  generalize (lg_sl [.ref h_t] ++ List.replicate (4 - (lg_sl [.ref h_t]).length) Slot.unset).toArray = ls at hl ⊢
  have hl : lv_has ls 4 [(0, .ref h_t)] := hl
  generalize hQQ : MQ below (va_Qv (fun (_ : Unit) => True) (fun (_ : Unit) (t : State) => va_P (dC, dI) vwCl [(h_t, .inr (6, [.ref h_t_letters, .ref h_t_settings, .int t_size])), (h_t_letters, .inl (cI, 24, .inl y_t_letters))] t.heap ∧ va_K (dC, dI) vwCl (tyA cI cJ cC cS) t ∧ va_D A [(h_t, .inr (6, [.ref h_t_letters, .ref h_t_settings, .int t_size])), (h_t_letters, .inl (cI, 24, .inl y_t_letters))]) A) args s 0 0 A = QQ
  obtain ⟨H, hH⟩ : ∃ H : Heap, H = s.heap := ⟨_, rfl⟩
  obtain ⟨locs, hlocs⟩ : ∃ locs : List Loc, locs = [] := ⟨_, rfl⟩
  rw [← hH] at hP
  have hS : va_S A s.heap H locs := by rw [hH, hlocs]; exact hS
  suffices hZ : W p l e (headSpec wsX7_reverse ({ frames := 1, cells := 0, slots := 0, locals := 22 } : Room)).room s m args below meth c H locs 0 0 QQ (F0 m 0 ls []) by rw [hH, hlocs] at hZ; exact hZ
  clear hH hlocs
  have hL2 : ∀ (n2 : Nat) , ∀ (x1 : Int32) (t_letters : Nat → Int32) (H : Heap) (locs : List Loc) (ls : Array Slot), fSt_reverse_2 t_size n2 x1 t_letters = some y_t_letters → va_P (dC, dI) vwCl [(h_t, .inr (6, [.ref h_t_letters, .ref h_t_settings, .int t_size])), (h_t_letters, .inl (cI, 24, .inl t_letters))] H → va_D A [(h_t, .inr (6, [.ref h_t_letters, .ref h_t_settings, .int t_size])), (h_t_letters, .inl (cI, 24, .inl t_letters))] → va_S A s.heap H locs → lv_has ls 4 [(0, .ref h_t), (1, .int x1)] → W p l e (headSpec wsX7_reverse ({ frames := 1, cells := 0, slots := 0, locals := 22 } : Room)).room s m args below meth c H locs 0 0 QQ (F0 m 2 ls []) := by
    intro n2
    induction n2 with
    | zero =>
      intro x1 t_letters H locs ls hres
      rw [fSt_reverse_2] at hres
      cases hres
    | succ n2 ih2 =>
      intro x1 t_letters H locs ls hres hP hD hS hl
      rw [fSt_reverse_2] at hres
      refine lv_iload_n hx hb dX7_reverse_2 rfl (lv_at hl 1 rfl) ?_
      refine lv_aload_n hx hb dX7_reverse_3 rfl (lv_at hl 0 rfl) ?_
      refine va_get (D := (dC, dI)) (ci := 6) (v := .int t_size) (C := RX7) (T := TX7) (N := 3) hx hb hts iSt_reverse_X7_reverse_1 hown hK hP 0 rfl rfl 2 (by decide) (hts _ kSt_reverse_X7_reverse_0) (fun _ h9 => h9) rfl dX7_reverse_4 ?_
      refine lv_iconst (v := (2 : Int32)) hx hb dX7_reverse_7 (by decide) ?_
      refine lv_idiv hx hb dX7_reverse_8 (by decide) ?_
      refine lv_icmp_ge (tgt := 49) hx hb dX7_reverse_9 (by decide) (fun c_1 => ?_) (fun c_1 => ?_)
      · have hres := it_of hres c_1
        have e9_0 := Option.some.inj hres
        subst e9_0
        rw [← hQQ]
        exact W.vret hx hb hr (fun t ht hW => ⟨⟨(), rfl, trivial, by rw [ht]; exact hP, va_K.moved hW.alike hK, hD⟩, hS.F ht⟩) hS.2.2 dX7_reverse_49
      · have hres := ie_of hres c_1
        refine lv_aload_n hx hb dX7_reverse_12 rfl (lv_at hl 0 rfl) ?_
        refine lv_iload_n hx hb dX7_reverse_13 rfl (lv_at hl 1 rfl) ?_
        obtain ⟨o2, ho2, hres⟩ := bd_of hres
        have hPc := hP.sub (ws' := [(h_t, .inr (6, [.ref h_t_letters, .ref h_t_settings, .int t_size])), (h_t_letters, .inl (cI, 24, .inl t_letters))]) [0, 1] rfl
        have hDc := hD.sub (ws' := [(h_t, .inr (6, [.ref h_t_letters, .ref h_t_settings, .int t_size])), (h_t_letters, .inl (cI, 24, .inl t_letters))]) [0, 1] (by decide) rfl
        have hFc := va_free (wc := [(h_t, .inr (6, [.ref h_t_letters, .ref h_t_settings, .int t_size])), (h_t_letters, .inl (cI, 24, .inl t_letters))]) hD hS hA [0, 1] rfl
        refine va_calli (va_runV (As := [.int x1]) (rest := []) ⟨hx, hb, hml, hown, hts⟩ (cSt_letter l dC dI cI cJ cC cS h_t h_t_letters h_t_settings H.size t_size t_letters x1 o2 ho2) (cwV 1 hts gX7_reverse_X7_letter rfl rfl rfl (by decide +kernel) ⟨Nat.le_of_ble_eq_true rfl, Nat.le_of_ble_eq_true rfl⟩) ⟨fun a U g mk q => by obtain ⟨q0, q1, qP, qK, qN, qD⟩ := q; exact ⟨q0, q1, qP, va_K.moved (u := U) (U := U.calling g mk a) (Vm.Alike.refl U.vm) qK, nwS (u := U) (U := U.calling g mk a) rfl qN, qD⟩, va_recv hK hPc (ci := 6) (q0 := 0) rfl rfl, fun U hU hW => ⟨rfl, by rw [hU], by rw [hU]; exact hPc, va_K.moved hW.alike hK, nwW hW hN, hDc.weaken (fun _ _ _ _ => trivial)⟩⟩ rfl rfl hl.1 rfl (lv_room (Nat.le_of_ble_eq_true rfl)) dX7_reverse_14 ⟨Nat.zero_le _, Nat.zero_le _⟩) hS (fun q _ h => hFc q h) hFc (fun r9 u9 t H1 locs ht hvm hw hB hz1 hk1 hS => ?_)
        have hw := hw.symm
        subst hw
        obtain ⟨hP1, hK1, hD1⟩ := hB
        rw [ht] at hP1
        obtain ⟨hP, hD⟩ := va_join (wr := []) (w1 := [(h_t, .inr (6, [.ref h_t_letters, .ref h_t_settings, .int t_size])), (h_t_letters, .inl (cI, 24, .inl t_letters))]) hP hD [0, 1] [] rfl rfl (by decide) (by decide) hk1 hFc hP1 hD1
        generalize H1 = H at hP hS ⊢
        have hP : va_P (dC, dI) vwCl [(h_t, .inr (6, [.ref h_t_letters, .ref h_t_settings, .int t_size])), (h_t_letters, .inl (cI, 24, .inl t_letters))] H := hP
        have hD : va_D A [(h_t, .inr (6, [.ref h_t_letters, .ref h_t_settings, .int t_size])), (h_t_letters, .inl (cI, 24, .inl t_letters))] := hD
        refine lv_istore_n (lv' := [(2, .int o2), (0, .ref h_t), (1, .int x1)]) hx hb dX7_reverse_17 rfl hl (by decide) rfl (fun ls hl => ?_)
        refine lv_aload_n hx hb dX7_reverse_18 rfl (lv_at hl 1 rfl) ?_
        refine va_get (D := (dC, dI)) (ci := 6) (v := .int t_size) (C := RX7) (T := TX7) (N := 3) hx hb hts iSt_reverse_X7_reverse_1 hown hK hP 0 rfl rfl 2 (by decide) (hts _ kSt_reverse_X7_reverse_0) (fun _ h9 => h9) rfl dX7_reverse_19 ?_
        refine lv_iconst (v := (1 : Int32)) hx hb dX7_reverse_22 (by decide) ?_
        refine lv_isub hx hb dX7_reverse_23 ?_
        refine lv_iload_n hx hb dX7_reverse_24 rfl (lv_at hl 2 rfl) ?_
        refine lv_isub hx hb dX7_reverse_25 ?_
        refine lv_istore_n (lv' := [(3, .int ((t_size - (1 : Int32)) - x1)), (2, .int o2), (0, .ref h_t), (1, .int x1)]) hx hb dX7_reverse_26 rfl hl (by decide) rfl (fun ls hl => ?_)
        refine lv_aload_n hx hb dX7_reverse_27 rfl (lv_at hl 2 rfl) ?_
        refine lv_iload_n hx hb dX7_reverse_28 rfl (lv_at hl 3 rfl) ?_
        refine lv_aload_n hx hb dX7_reverse_29 rfl (lv_at hl 2 rfl) ?_
        refine lv_iload_n hx hb dX7_reverse_30 rfl (lv_at hl 0 rfl) ?_
        obtain ⟨o3, ho3, hres⟩ := bd_of hres
        have hPc := hP.sub (ws' := [(h_t, .inr (6, [.ref h_t_letters, .ref h_t_settings, .int t_size])), (h_t_letters, .inl (cI, 24, .inl t_letters))]) [0, 1] rfl
        have hDc := hD.sub (ws' := [(h_t, .inr (6, [.ref h_t_letters, .ref h_t_settings, .int t_size])), (h_t_letters, .inl (cI, 24, .inl t_letters))]) [0, 1] (by decide) rfl
        have hFc := va_free (wc := [(h_t, .inr (6, [.ref h_t_letters, .ref h_t_settings, .int t_size])), (h_t_letters, .inl (cI, 24, .inl t_letters))]) hD hS hA [0, 1] rfl
        refine va_calli (va_runV (As := [.int ((t_size - (1 : Int32)) - x1)]) (rest := [.int x1, .ref h_t]) ⟨hx, hb, hml, hown, hts⟩ (cSt_letter l dC dI cI cJ cC cS h_t h_t_letters h_t_settings H.size t_size t_letters ((t_size - (1 : Int32)) - x1) o3 ho3) (cwV 1 hts gX7_reverse_X7_letter rfl rfl rfl (by decide +kernel) ⟨Nat.le_of_ble_eq_true rfl, Nat.le_of_ble_eq_true rfl⟩) ⟨fun a U g mk q => by obtain ⟨q0, q1, qP, qK, qN, qD⟩ := q; exact ⟨q0, q1, qP, va_K.moved (u := U) (U := U.calling g mk a) (Vm.Alike.refl U.vm) qK, nwS (u := U) (U := U.calling g mk a) rfl qN, qD⟩, va_recv hK hPc (ci := 6) (q0 := 0) rfl rfl, fun U hU hW => ⟨rfl, by rw [hU], by rw [hU]; exact hPc, va_K.moved hW.alike hK, nwW hW hN, hDc.weaken (fun _ _ _ _ => trivial)⟩⟩ rfl rfl hl.1 rfl (lv_room (Nat.le_of_ble_eq_true rfl)) dX7_reverse_31 ⟨Nat.zero_le _, Nat.zero_le _⟩) hS (fun q _ h => hFc q h) hFc (fun r9 u9 t H1 locs ht hvm hw hB hz1 hk1 hS => ?_)
        have hw := hw.symm
        subst hw
        obtain ⟨hP1, hK1, hD1⟩ := hB
        rw [ht] at hP1
        obtain ⟨hP, hD⟩ := va_join (wr := []) (w1 := [(h_t, .inr (6, [.ref h_t_letters, .ref h_t_settings, .int t_size])), (h_t_letters, .inl (cI, 24, .inl t_letters))]) hP hD [0, 1] [] rfl rfl (by decide) (by decide) hk1 hFc hP1 hD1
        generalize H1 = H at hP hS ⊢
        have hP : va_P (dC, dI) vwCl [(h_t, .inr (6, [.ref h_t_letters, .ref h_t_settings, .int t_size])), (h_t_letters, .inl (cI, 24, .inl t_letters))] H := hP
        have hD : va_D A [(h_t, .inr (6, [.ref h_t_letters, .ref h_t_settings, .int t_size])), (h_t_letters, .inl (cI, 24, .inl t_letters))] := hD
        obtain ⟨o4, ho4, hres⟩ := bd_of hres
        have hPc := hP.sub (ws' := [(h_t, .inr (6, [.ref h_t_letters, .ref h_t_settings, .int t_size])), (h_t_letters, .inl (cI, 24, .inl t_letters))]) [0, 1] rfl
        have hDc := hD.sub (ws' := [(h_t, .inr (6, [.ref h_t_letters, .ref h_t_settings, .int t_size])), (h_t_letters, .inl (cI, 24, .inl t_letters))]) [0, 1] (by decide) rfl
        have hFc := va_free (wc := [(h_t, .inr (6, [.ref h_t_letters, .ref h_t_settings, .int t_size])), (h_t_letters, .inl (cI, 24, .inl t_letters))]) hD hS hA [0, 1] rfl
        refine va_callv (va_runV (As := [.int x1, .int o3]) (rest := []) ⟨hx, hb, hml, hown, hts⟩ (cSt_putLetter l dC dI cI cJ cC cS h_t h_t_letters h_t_settings H.size t_size t_letters x1 o3 o4 ho4) (cwV 2 hts gX7_reverse_X7_putLetter rfl rfl rfl (by decide +kernel) ⟨Nat.le_of_ble_eq_true rfl, Nat.le_of_ble_eq_true rfl⟩) ⟨fun a U g mk q => by obtain ⟨q0, q1, qP, qK, qN, qD⟩ := q; exact ⟨q0, q1, qP, va_K.moved (u := U) (U := U.calling g mk a) (Vm.Alike.refl U.vm) qK, nwS (u := U) (U := U.calling g mk a) rfl qN, qD⟩, va_recv hK hPc (ci := 6) (q0 := 0) rfl rfl, fun U hU hW => ⟨rfl, by rw [hU], by rw [hU]; exact hPc, va_K.moved hW.alike hK, nwW hW hN, hDc.weaken (fun _ _ _ _ => trivial)⟩⟩ rfl rfl hl.1 rfl (lv_room (Nat.le_of_ble_eq_true rfl)) dX7_reverse_34 ⟨Nat.zero_le _, Nat.zero_le _⟩) hS (fun q _ h => hFc q h) hFc (fun u9 t H1 locs ht hvm hw hB hz1 hk1 hS => ?_)
        obtain ⟨hP1, hK1, hD1⟩ := hB
        rw [ht] at hP1
        obtain ⟨hP, hD⟩ := va_join (wr := []) (w1 := [(h_t, .inr (6, [.ref h_t_letters, .ref h_t_settings, .int t_size])), (h_t_letters, .inl (cI, 24, .inl o4))]) hP hD [0, 1] [] rfl rfl (by decide) (by decide) hk1 hFc hP1 hD1
        generalize H1 = H at hP hS ⊢
        have hP : va_P (dC, dI) vwCl [(h_t, .inr (6, [.ref h_t_letters, .ref h_t_settings, .int t_size])), (h_t_letters, .inl (cI, 24, .inl o4))] H := hP
        have hD : va_D A [(h_t, .inr (6, [.ref h_t_letters, .ref h_t_settings, .int t_size])), (h_t_letters, .inl (cI, 24, .inl o4))] := hD
        refine lv_aload_n hx hb dX7_reverse_37 rfl (lv_at hl 2 rfl) ?_
        refine lv_iload_n hx hb dX7_reverse_38 rfl (lv_at hl 0 rfl) ?_
        refine lv_iload_n hx hb dX7_reverse_39 rfl (lv_at hl 1 rfl) ?_
        obtain ⟨o5, ho5, hres⟩ := bd_of hres
        have hPc := hP.sub (ws' := [(h_t, .inr (6, [.ref h_t_letters, .ref h_t_settings, .int t_size])), (h_t_letters, .inl (cI, 24, .inl o4))]) [0, 1] rfl
        have hDc := hD.sub (ws' := [(h_t, .inr (6, [.ref h_t_letters, .ref h_t_settings, .int t_size])), (h_t_letters, .inl (cI, 24, .inl o4))]) [0, 1] (by decide) rfl
        have hFc := va_free (wc := [(h_t, .inr (6, [.ref h_t_letters, .ref h_t_settings, .int t_size])), (h_t_letters, .inl (cI, 24, .inl o4))]) hD hS hA [0, 1] rfl
        refine va_callv (va_runV (As := [.int ((t_size - (1 : Int32)) - x1), .int o2]) (rest := []) ⟨hx, hb, hml, hown, hts⟩ (cSt_putLetter l dC dI cI cJ cC cS h_t h_t_letters h_t_settings H.size t_size o4 ((t_size - (1 : Int32)) - x1) o2 o5 ho5) (cwV 2 hts gX7_reverse_X7_putLetter rfl rfl rfl (by decide +kernel) ⟨Nat.le_of_ble_eq_true rfl, Nat.le_of_ble_eq_true rfl⟩) ⟨fun a U g mk q => by obtain ⟨q0, q1, qP, qK, qN, qD⟩ := q; exact ⟨q0, q1, qP, va_K.moved (u := U) (U := U.calling g mk a) (Vm.Alike.refl U.vm) qK, nwS (u := U) (U := U.calling g mk a) rfl qN, qD⟩, va_recv hK hPc (ci := 6) (q0 := 0) rfl rfl, fun U hU hW => ⟨rfl, by rw [hU], by rw [hU]; exact hPc, va_K.moved hW.alike hK, nwW hW hN, hDc.weaken (fun _ _ _ _ => trivial)⟩⟩ rfl rfl hl.1 rfl (lv_room (Nat.le_of_ble_eq_true rfl)) dX7_reverse_40 ⟨Nat.zero_le _, Nat.zero_le _⟩) hS (fun q _ h => hFc q h) hFc (fun u9 t H1 locs ht hvm hw hB hz1 hk1 hS => ?_)
        obtain ⟨hP1, hK1, hD1⟩ := hB
        rw [ht] at hP1
        obtain ⟨hP, hD⟩ := va_join (wr := []) (w1 := [(h_t, .inr (6, [.ref h_t_letters, .ref h_t_settings, .int t_size])), (h_t_letters, .inl (cI, 24, .inl o5))]) hP hD [0, 1] [] rfl rfl (by decide) (by decide) hk1 hFc hP1 hD1
        generalize H1 = H at hP hS ⊢
        have hP : va_P (dC, dI) vwCl [(h_t, .inr (6, [.ref h_t_letters, .ref h_t_settings, .int t_size])), (h_t_letters, .inl (cI, 24, .inl o5))] H := hP
        have hD : va_D A [(h_t, .inr (6, [.ref h_t_letters, .ref h_t_settings, .int t_size])), (h_t_letters, .inl (cI, 24, .inl o5))] := hD
        refine lv_iinc (v := (x1 + 1)) (lv' := [(1, .int (x1 + 1)), (3, .int ((t_size - (1 : Int32)) - x1)), (2, .int o2), (0, .ref h_t)]) hx hb dX7_reverse_43 hl (k := 3) rfl rfl (by decide) rfl (fun ls hl => ?_)
        refine lv_goto (tgt := 2) hx hb dX7_reverse_46 (by decide) ?_
        exact ih2 (x1 + 1) o5 H locs ls hres hP hD hS (lv_sub hl [3, 0] rfl)
  rw [fSt_reverse] at hres
  refine lv_iconst (v := (0 : Int32)) hx hb dX7_reverse_0 (by decide) ?_
  refine lv_istore_n (lv' := [(1, .int (0 : Int32)), (0, .ref h_t)]) hx hb dX7_reverse_1 rfl hl (by decide) rfl (fun ls hl => ?_)
  exact hL2 FU (0 : Int32) t_letters H locs ls hres hP hD hS (lv_sub hl [1, 0] rfl)
