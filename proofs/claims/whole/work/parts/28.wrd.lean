-- Rd_init
theorem kRd_init_X4_init_0 : Cond.methodLink RX4 3 objectInit ∈ wsX4_init := by decide +kernel
theorem kRd_init_X4_init_1 : Cond.instanceMethod objectInit ∈ wsX4_init := by decide +kernel
theorem kRd_init_X4_init_2 : Cond.code objectInit ⟨#[0xb1]⟩ 1 none ∈ wsX4_init := by decide +kernel
theorem kRd_init_X4_init_3 : Cond.arrayClass .int ∈ wsX4_init := by decide +kernel
theorem kRd_init_X4_init_4 : Cond.fieldLink RX4 9 "RepeatNests$Reader" "signs" "[I" ∈ wsX4_init := by decide +kernel
theorem iRd_init_X4_init_5 : ∀ w ∈ wsX40, w ∈ wsX4_init := by decide +kernel
theorem kRd_init_X4_init_6 : Cond.fieldLink RX4 15 "RepeatNests$Reader" "letters" "[I" ∈ wsX4_init := by decide +kernel
theorem kRd_init_X4_init_7 : Cond.fieldLink RX4 18 "RepeatNests$Reader" "length" "I" ∈ wsX4_init := by decide +kernel
theorem kRd_init_X4_init_8 : Cond.fieldLink RX4 22 "RepeatNests$Reader" "at" "I" ∈ wsX4_init := by decide +kernel
theorem kRd_init_X4_init_9 : Cond.fieldLink RX4 25 "RepeatNests$Reader" "size" "I" ∈ wsX4_init := by decide +kernel
theorem kRd_init_X4_init_10 : Cond.fieldLink RX4 28 "RepeatNests$Reader" "faultPlace" "I" ∈ wsX4_init := by decide +kernel
theorem kRd_init_X4_init_11 : Cond.fieldLink RX4 31 "RepeatNests$Reader" "faultReason" "I" ∈ wsX4_init := by decide +kernel
theorem kRd_init_X4_init_12 : Cond.fieldLink RX4 34 "RepeatNests$Reader" "lettersTold" "I" ∈ wsX4_init := by decide +kernel
theorem kRd_init_X4_init_13 : Cond.fieldLink RX4 37 "RepeatNests$Reader" "repeatsTold" "I" ∈ wsX4_init := by decide +kernel
theorem kRd_init_X4_init_14 : Cond.fieldLink RX4 40 "RepeatNests$Reader" "correctionsTold" "I" ∈ wsX4_init := by decide +kernel
theorem kRd_init_X4_init_15 : Cond.fieldLink RX4 43 "RepeatNests$Reader" "mostCorrections" "I" ∈ wsX4_init := by decide +kernel
theorem kRd_init_X4_init_16 : Cond.fieldLink RX4 46 "RepeatNests$Reader" "deepest" "I" ∈ wsX4_init := by decide +kernel
theorem kRd_init_X4_init_17 : Cond.fieldLink RX4 49 "RepeatNests$Reader" "fresh" "Z" ∈ wsX4_init := by decide +kernel
set_option maxHeartbeats 4000000 in
set_option maxRecDepth 100000 in
theorem cRd_init (l : Launch) (dC : Nat → ClassId) (dI : Nat → Nat → Nat) (cI cJ cC cS : ClassId) (h_t : Nat) (sz : Nat) (hres : fRd_init = some ()) :
    Met l yX4_init wsX4_init ({ frames := 1, cells := 2, slots := 804, locals := 21 } : Room) (va_Pc [.ref h_t] (fun (U : State) => U.heap.size = sz ∧ va_P (dC, dI) vwCl [(h_t, .inr (3, [.null, .null, .int 0, .int 0, .int 0, .int 0, .int 0, .int 0, .int 0, .int 0, .int 0, .int 0, .int 0]))] U.heap ∧ va_K (dC, dI) vwCl (tyA cI cJ cC cS) U ∧ nwN U ∧ va_D (fun _ => True) [(h_t, .inr (3, [.null, .null, .int 0, .int 0, .int 0, .int 0, .int 0, .int 0, .int 0, .int 0, .int 0, .int 0, .int 0]))])) (va_Qv (fun (_ : Nat × Nat) => True) (fun (u8 : Nat × Nat) (t : State) => va_P (dC, dI) vwCl [(h_t, .inr (3, [.ref u8.1, .ref u8.2, .int (0 : Int32), .int (0 : Int32), .int (0 : Int32), .int (0 : Int32), .int (0 : Int32), .int (0 : Int32), .int (0 : Int32), .int (0 : Int32), .int (0 : Int32), .int (0 : Int32), .int (0 : Int32)])), (u8.1, .inl (cI, 60, .inl (fun _ => 0))), (u8.2, .inl (cI, 744, .inl (fun _ => 0)))] t.heap ∧ va_K (dC, dI) vwCl (tyA cI cJ cC cS) t ∧ va_D (va_A [(h_t, .inr (3, [.null, .null, .int 0, .int 0, .int 0, .int 0, .int 0, .int 0, .int 0, .int 0, .int 0, .int 0, .int 0]))] sz) [(h_t, .inr (3, [.ref u8.1, .ref u8.2, .int (0 : Int32), .int (0 : Int32), .int (0 : Int32), .int (0 : Int32), .int (0 : Int32), .int (0 : Int32), .int (0 : Int32), .int (0 : Int32), .int (0 : Int32), .int (0 : Int32), .int (0 : Int32)])), (u8.1, .inl (cI, 60, .inl (fun _ => 0))), (u8.2, .inl (cI, 744, .inl (fun _ => 0)))]) (va_A [(h_t, .inr (3, [.null, .null, .int 0, .int 0, .int 0, .int 0, .int 0, .int 0, .int 0, .int 0, .int 0, .int 0, .int 0]))] sz)) 2 804 (va_A [(h_t, .inr (3, [.null, .null, .int 0, .int 0, .int 0, .int 0, .int 0, .int 0, .int 0, .int 0, .int 0, .int 0, .int 0]))] sz) := by
  refine Met.ofW (cc := cX4_init) (maxL := 1) (ret := none) (by decide) rfl ?_
  intro p e s m args below meth c s₁ B hml hv
  obtain ⟨hargs, hsz, hP, hK, hN, hD0⟩ := hv
  have hx := B.exec
  have hb := B.bytes
  have hr := B.returns
  have hts := atoms_spec (ws := wsX4_init) B.pre
  have hown : s.vm.findClass RX4 = some m.cls := findClass_of_methodNamed B.named
  have hlocks := B.notSynchronized
  have hin : meth.name = "<init>" := (name_of_methodNamed B.named B.method).1
  subst hsz
  have hD := hD0.self (sz := s.heap.size)
  generalize hAe : va_A [(h_t, .inr (3, [.null, .null, .int 0, .int 0, .int 0, .int 0, .int 0, .int 0, .int 0, .int 0, .int 0, .int 0, .int 0]))] s.heap.size = A at hD ⊢
  have hA : ∀ q : Nat, s.heap.size ≤ q → A q := fun q h => by rw [← hAe]; exact Or.inr h
  have hS : va_S A s.heap s.heap [] := va_S.rf
  have hP : va_P (dC, dI) vwCl [(h_t, .inr (3, [.null, .null, .int 0, .int 0, .int 0, .int 0, .int 0, .int 0, .int 0, .int 0, .int 0, .int 0, .int 0]))] s.heap := hP
  have hl := lv_entry [.ref h_t] (n := 1) (Nat.le_of_ble_eq_true rfl)
  rw [show entryFrame m args 1 = entryFrame m ([.ref h_t] : List Value).toArray 1 from by rw [hargs], lg_entry_eq]
  generalize (lg_sl [.ref h_t] ++ List.replicate (1 - (lg_sl [.ref h_t]).length) Slot.unset).toArray = ls at hl ⊢
  have hl : lv_has ls 1 [(0, .ref h_t)] := hl
  generalize hQQ : MQ below (va_Qv (fun (_ : Nat × Nat) => True) (fun (u8 : Nat × Nat) (t : State) => va_P (dC, dI) vwCl [(h_t, .inr (3, [.ref u8.1, .ref u8.2, .int (0 : Int32), .int (0 : Int32), .int (0 : Int32), .int (0 : Int32), .int (0 : Int32), .int (0 : Int32), .int (0 : Int32), .int (0 : Int32), .int (0 : Int32), .int (0 : Int32), .int (0 : Int32)])), (u8.1, .inl (cI, 60, .inl (fun _ => 0))), (u8.2, .inl (cI, 744, .inl (fun _ => 0)))] t.heap ∧ va_K (dC, dI) vwCl (tyA cI cJ cC cS) t ∧ va_D A [(h_t, .inr (3, [.ref u8.1, .ref u8.2, .int (0 : Int32), .int (0 : Int32), .int (0 : Int32), .int (0 : Int32), .int (0 : Int32), .int (0 : Int32), .int (0 : Int32), .int (0 : Int32), .int (0 : Int32), .int (0 : Int32), .int (0 : Int32)])), (u8.1, .inl (cI, 60, .inl (fun _ => 0))), (u8.2, .inl (cI, 744, .inl (fun _ => 0)))]) A) args s 2 804 A = QQ
  obtain ⟨H, hH⟩ : ∃ H : Heap, H = s.heap := ⟨_, rfl⟩
  obtain ⟨locs, hlocs⟩ : ∃ locs : List Loc, locs = [] := ⟨_, rfl⟩
  rw [← hH] at hP
  have hS : va_S A s.heap H locs := by rw [hH, hlocs]; exact hS
  suffices hZ : W p l e (headSpec wsX4_init ({ frames := 1, cells := 2, slots := 804, locals := 21 } : Room)).room s m args below meth c H locs 0 0 QQ (F0 m 0 ls []) by rw [hH, hlocs] at hZ; exact hZ
  clear hH hlocs
  rw [fRd_init] at hres
  refine lv_aload_n hx hb dX4_init_0 rfl (lv_at hl 0 rfl) ?_
  refine W.objInit hx hb hown (hts _ kRd_init_X4_init_0) (hts _ kRd_init_X4_init_1) (hts _ kRd_init_X4_init_2) rfl (by rw [hml]; exact hl.1) rfl dX4_init_1 (Nat.le_of_ble_eq_true rfl) (Nat.le_of_ble_eq_true rfl) ?_
  refine W.eq (g2 := F0 m 4 ls []) rfl ?_
  refine lv_aload_n hx hb dX4_init_4 rfl (lv_at hl 0 rfl) ?_
  refine lv_bipush (v := (60 : Int32)) hx hb dX4_init_5 (by decide) ?_
  refine va_newa hx hb (atype := .int) (hts _ kRd_init_X4_init_3) (ty := .int) rfl hK hP hD hS hA (N' := 60) (a0 := (60, .inl (fun _ => 0))) (fun cA => rfl) (by decide) (by decide) (Nat.le_of_ble_eq_true rfl) (Nat.le_of_ble_eq_true rfl) (Nat.le_of_ble_eq_true rfl) dX4_init_7 (fun q_n7 cA H hK9 hP hD hS => ?_)
  have eA := newA_I hK9
  subst eA
  clear hK9
  have hP : va_P (dC, dI) vwCl [(h_t, .inr (3, [.null, .null, .int 0, .int 0, .int 0, .int 0, .int 0, .int 0, .int 0, .int 0, .int 0, .int 0, .int 0])), (q_n7, .inl (cI, 60, .inl (fun _ => 0)))] H := hP
  have hD : va_D A [(h_t, .inr (3, [.null, .null, .int 0, .int 0, .int 0, .int 0, .int 0, .int 0, .int 0, .int 0, .int 0, .int 0, .int 0])), (q_n7, .inl (cI, 60, .inl (fun _ => 0)))] := hD
  refine W.widen (k := 1) (n := 60) (Nat.le_of_ble_eq_true rfl) (Nat.le_of_ble_eq_true rfl) ?_
  refine va_putF (D := (dC, dI)) (ci := 3) (v := .ref q_n7) (ty := .array .int) (C := RX4) (T := TX4) (N := 13) hx hb hts iRd_init_X4_init_5 tyX4 tyX4_ok nmX4 hown hK hP hD hS 0 rfl rfl 0 (by decide) (hts _ kRd_init_X4_init_4) (fun _ h9 => h9) rfl hin rfl (by decide +kernel) rfl rfl (Nat.le_of_ble_eq_true rfl) dX4_init_9 (fun H locs hP hD hS => ?_)
  have hP : va_P (dC, dI) vwCl [(h_t, .inr (3, [.ref q_n7, .null, .int 0, .int 0, .int 0, .int 0, .int 0, .int 0, .int 0, .int 0, .int 0, .int 0, .int 0])), (q_n7, .inl (cI, 60, .inl (fun _ => 0)))] H := hP
  have hD : va_D A [(h_t, .inr (3, [.ref q_n7, .null, .int 0, .int 0, .int 0, .int 0, .int 0, .int 0, .int 0, .int 0, .int 0, .int 0, .int 0])), (q_n7, .inl (cI, 60, .inl (fun _ => 0)))] := hD
  refine lv_aload_n hx hb dX4_init_12 rfl (lv_at hl 0 rfl) ?_
  refine lv_sipush (v := (744 : Int32)) hx hb dX4_init_13 (by decide) ?_
  refine va_newa hx hb (atype := .int) (hts _ kRd_init_X4_init_3) (ty := .int) rfl hK hP hD hS hA (N' := 744) (a0 := (744, .inl (fun _ => 0))) (fun cA => rfl) (by decide) (by decide) (Nat.le_of_ble_eq_true rfl) (Nat.le_of_ble_eq_true rfl) (Nat.le_of_ble_eq_true rfl) dX4_init_16 (fun q_n16 cA H hK9 hP hD hS => ?_)
  have eA := newA_I hK9
  subst eA
  clear hK9
  have hP : va_P (dC, dI) vwCl [(h_t, .inr (3, [.ref q_n7, .null, .int 0, .int 0, .int 0, .int 0, .int 0, .int 0, .int 0, .int 0, .int 0, .int 0, .int 0])), (q_n7, .inl (cI, 60, .inl (fun _ => 0))), (q_n16, .inl (cI, 744, .inl (fun _ => 0)))] H := hP
  have hD : va_D A [(h_t, .inr (3, [.ref q_n7, .null, .int 0, .int 0, .int 0, .int 0, .int 0, .int 0, .int 0, .int 0, .int 0, .int 0, .int 0])), (q_n7, .inl (cI, 60, .inl (fun _ => 0))), (q_n16, .inl (cI, 744, .inl (fun _ => 0)))] := hD
  refine W.widen (k := 2) (n := 804) (Nat.le_of_ble_eq_true rfl) (Nat.le_of_ble_eq_true rfl) ?_
  refine va_putF (D := (dC, dI)) (ci := 3) (v := .ref q_n16) (ty := .array .int) (C := RX4) (T := TX4) (N := 13) hx hb hts iRd_init_X4_init_5 tyX4 tyX4_ok nmX4 hown hK hP hD hS 0 rfl rfl 1 (by decide) (hts _ kRd_init_X4_init_6) (fun _ h9 => h9) rfl hin rfl (by decide +kernel) rfl rfl (Nat.le_of_ble_eq_true rfl) dX4_init_18 (fun H locs hP hD hS => ?_)
  have hP : va_P (dC, dI) vwCl [(h_t, .inr (3, [.ref q_n7, .ref q_n16, .int 0, .int 0, .int 0, .int 0, .int 0, .int 0, .int 0, .int 0, .int 0, .int 0, .int 0])), (q_n7, .inl (cI, 60, .inl (fun _ => 0))), (q_n16, .inl (cI, 744, .inl (fun _ => 0)))] H := hP
  have hD : va_D A [(h_t, .inr (3, [.ref q_n7, .ref q_n16, .int 0, .int 0, .int 0, .int 0, .int 0, .int 0, .int 0, .int 0, .int 0, .int 0, .int 0])), (q_n7, .inl (cI, 60, .inl (fun _ => 0))), (q_n16, .inl (cI, 744, .inl (fun _ => 0)))] := hD
  refine lv_aload_n hx hb dX4_init_21 rfl (lv_at hl 0 rfl) ?_
  refine lv_iconst (v := (0 : Int32)) hx hb dX4_init_22 (by decide) ?_
  refine va_put (D := (dC, dI)) (ci := 3) (v := .int (0 : Int32)) (ty := .int) (C := RX4) (T := TX4) (N := 13) hx hb hts iRd_init_X4_init_5 tyX4 tyX4_ok nmX4 hown hK hP hD hS 0 rfl rfl 2 (by decide) (hts _ kRd_init_X4_init_7) (fun _ h9 => h9) rfl (by decide +kernel) rfl rfl (Nat.le_of_ble_eq_true rfl) dX4_init_23 (fun H locs hP hD hS => ?_)
  have hP : va_P (dC, dI) vwCl [(h_t, .inr (3, [.ref q_n7, .ref q_n16, .int (0 : Int32), .int 0, .int 0, .int 0, .int 0, .int 0, .int 0, .int 0, .int 0, .int 0, .int 0])), (q_n7, .inl (cI, 60, .inl (fun _ => 0))), (q_n16, .inl (cI, 744, .inl (fun _ => 0)))] H := hP
  have hD : va_D A [(h_t, .inr (3, [.ref q_n7, .ref q_n16, .int (0 : Int32), .int 0, .int 0, .int 0, .int 0, .int 0, .int 0, .int 0, .int 0, .int 0, .int 0])), (q_n7, .inl (cI, 60, .inl (fun _ => 0))), (q_n16, .inl (cI, 744, .inl (fun _ => 0)))] := hD
  refine lv_aload_n hx hb dX4_init_26 rfl (lv_at hl 0 rfl) ?_
  refine lv_iconst (v := (0 : Int32)) hx hb dX4_init_27 (by decide) ?_
  refine va_put (D := (dC, dI)) (ci := 3) (v := .int (0 : Int32)) (ty := .int) (C := RX4) (T := TX4) (N := 13) hx hb hts iRd_init_X4_init_5 tyX4 tyX4_ok nmX4 hown hK hP hD hS 0 rfl rfl 3 (by decide) (hts _ kRd_init_X4_init_8) (fun _ h9 => h9) rfl (by decide +kernel) rfl rfl (Nat.le_of_ble_eq_true rfl) dX4_init_28 (fun H locs hP hD hS => ?_)
  have hP : va_P (dC, dI) vwCl [(h_t, .inr (3, [.ref q_n7, .ref q_n16, .int (0 : Int32), .int (0 : Int32), .int 0, .int 0, .int 0, .int 0, .int 0, .int 0, .int 0, .int 0, .int 0])), (q_n7, .inl (cI, 60, .inl (fun _ => 0))), (q_n16, .inl (cI, 744, .inl (fun _ => 0)))] H := hP
  have hD : va_D A [(h_t, .inr (3, [.ref q_n7, .ref q_n16, .int (0 : Int32), .int (0 : Int32), .int 0, .int 0, .int 0, .int 0, .int 0, .int 0, .int 0, .int 0, .int 0])), (q_n7, .inl (cI, 60, .inl (fun _ => 0))), (q_n16, .inl (cI, 744, .inl (fun _ => 0)))] := hD
  refine lv_aload_n hx hb dX4_init_31 rfl (lv_at hl 0 rfl) ?_
  refine lv_iconst (v := (0 : Int32)) hx hb dX4_init_32 (by decide) ?_
  refine va_put (D := (dC, dI)) (ci := 3) (v := .int (0 : Int32)) (ty := .int) (C := RX4) (T := TX4) (N := 13) hx hb hts iRd_init_X4_init_5 tyX4 tyX4_ok nmX4 hown hK hP hD hS 0 rfl rfl 4 (by decide) (hts _ kRd_init_X4_init_9) (fun _ h9 => h9) rfl (by decide +kernel) rfl rfl (Nat.le_of_ble_eq_true rfl) dX4_init_33 (fun H locs hP hD hS => ?_)
  have hP : va_P (dC, dI) vwCl [(h_t, .inr (3, [.ref q_n7, .ref q_n16, .int (0 : Int32), .int (0 : Int32), .int (0 : Int32), .int 0, .int 0, .int 0, .int 0, .int 0, .int 0, .int 0, .int 0])), (q_n7, .inl (cI, 60, .inl (fun _ => 0))), (q_n16, .inl (cI, 744, .inl (fun _ => 0)))] H := hP
  have hD : va_D A [(h_t, .inr (3, [.ref q_n7, .ref q_n16, .int (0 : Int32), .int (0 : Int32), .int (0 : Int32), .int 0, .int 0, .int 0, .int 0, .int 0, .int 0, .int 0, .int 0])), (q_n7, .inl (cI, 60, .inl (fun _ => 0))), (q_n16, .inl (cI, 744, .inl (fun _ => 0)))] := hD
  refine lv_aload_n hx hb dX4_init_36 rfl (lv_at hl 0 rfl) ?_
  refine lv_iconst (v := (0 : Int32)) hx hb dX4_init_37 (by decide) ?_
  refine va_put (D := (dC, dI)) (ci := 3) (v := .int (0 : Int32)) (ty := .int) (C := RX4) (T := TX4) (N := 13) hx hb hts iRd_init_X4_init_5 tyX4 tyX4_ok nmX4 hown hK hP hD hS 0 rfl rfl 5 (by decide) (hts _ kRd_init_X4_init_10) (fun _ h9 => h9) rfl (by decide +kernel) rfl rfl (Nat.le_of_ble_eq_true rfl) dX4_init_38 (fun H locs hP hD hS => ?_)
  have hP : va_P (dC, dI) vwCl [(h_t, .inr (3, [.ref q_n7, .ref q_n16, .int (0 : Int32), .int (0 : Int32), .int (0 : Int32), .int (0 : Int32), .int 0, .int 0, .int 0, .int 0, .int 0, .int 0, .int 0])), (q_n7, .inl (cI, 60, .inl (fun _ => 0))), (q_n16, .inl (cI, 744, .inl (fun _ => 0)))] H := hP
  have hD : va_D A [(h_t, .inr (3, [.ref q_n7, .ref q_n16, .int (0 : Int32), .int (0 : Int32), .int (0 : Int32), .int (0 : Int32), .int 0, .int 0, .int 0, .int 0, .int 0, .int 0, .int 0])), (q_n7, .inl (cI, 60, .inl (fun _ => 0))), (q_n16, .inl (cI, 744, .inl (fun _ => 0)))] := hD
  refine lv_aload_n hx hb dX4_init_41 rfl (lv_at hl 0 rfl) ?_
  refine lv_iconst (v := (0 : Int32)) hx hb dX4_init_42 (by decide) ?_
  refine va_put (D := (dC, dI)) (ci := 3) (v := .int (0 : Int32)) (ty := .int) (C := RX4) (T := TX4) (N := 13) hx hb hts iRd_init_X4_init_5 tyX4 tyX4_ok nmX4 hown hK hP hD hS 0 rfl rfl 6 (by decide) (hts _ kRd_init_X4_init_11) (fun _ h9 => h9) rfl (by decide +kernel) rfl rfl (Nat.le_of_ble_eq_true rfl) dX4_init_43 (fun H locs hP hD hS => ?_)
  have hP : va_P (dC, dI) vwCl [(h_t, .inr (3, [.ref q_n7, .ref q_n16, .int (0 : Int32), .int (0 : Int32), .int (0 : Int32), .int (0 : Int32), .int (0 : Int32), .int 0, .int 0, .int 0, .int 0, .int 0, .int 0])), (q_n7, .inl (cI, 60, .inl (fun _ => 0))), (q_n16, .inl (cI, 744, .inl (fun _ => 0)))] H := hP
  have hD : va_D A [(h_t, .inr (3, [.ref q_n7, .ref q_n16, .int (0 : Int32), .int (0 : Int32), .int (0 : Int32), .int (0 : Int32), .int (0 : Int32), .int 0, .int 0, .int 0, .int 0, .int 0, .int 0])), (q_n7, .inl (cI, 60, .inl (fun _ => 0))), (q_n16, .inl (cI, 744, .inl (fun _ => 0)))] := hD
  refine lv_aload_n hx hb dX4_init_46 rfl (lv_at hl 0 rfl) ?_
  refine lv_iconst (v := (0 : Int32)) hx hb dX4_init_47 (by decide) ?_
  refine va_put (D := (dC, dI)) (ci := 3) (v := .int (0 : Int32)) (ty := .int) (C := RX4) (T := TX4) (N := 13) hx hb hts iRd_init_X4_init_5 tyX4 tyX4_ok nmX4 hown hK hP hD hS 0 rfl rfl 7 (by decide) (hts _ kRd_init_X4_init_12) (fun _ h9 => h9) rfl (by decide +kernel) rfl rfl (Nat.le_of_ble_eq_true rfl) dX4_init_48 (fun H locs hP hD hS => ?_)
  have hP : va_P (dC, dI) vwCl [(h_t, .inr (3, [.ref q_n7, .ref q_n16, .int (0 : Int32), .int (0 : Int32), .int (0 : Int32), .int (0 : Int32), .int (0 : Int32), .int (0 : Int32), .int 0, .int 0, .int 0, .int 0, .int 0])), (q_n7, .inl (cI, 60, .inl (fun _ => 0))), (q_n16, .inl (cI, 744, .inl (fun _ => 0)))] H := hP
  have hD : va_D A [(h_t, .inr (3, [.ref q_n7, .ref q_n16, .int (0 : Int32), .int (0 : Int32), .int (0 : Int32), .int (0 : Int32), .int (0 : Int32), .int (0 : Int32), .int 0, .int 0, .int 0, .int 0, .int 0])), (q_n7, .inl (cI, 60, .inl (fun _ => 0))), (q_n16, .inl (cI, 744, .inl (fun _ => 0)))] := hD
  refine lv_aload_n hx hb dX4_init_51 rfl (lv_at hl 0 rfl) ?_
  refine lv_iconst (v := (0 : Int32)) hx hb dX4_init_52 (by decide) ?_
  refine va_put (D := (dC, dI)) (ci := 3) (v := .int (0 : Int32)) (ty := .int) (C := RX4) (T := TX4) (N := 13) hx hb hts iRd_init_X4_init_5 tyX4 tyX4_ok nmX4 hown hK hP hD hS 0 rfl rfl 8 (by decide) (hts _ kRd_init_X4_init_13) (fun _ h9 => h9) rfl (by decide +kernel) rfl rfl (Nat.le_of_ble_eq_true rfl) dX4_init_53 (fun H locs hP hD hS => ?_)
  have hP : va_P (dC, dI) vwCl [(h_t, .inr (3, [.ref q_n7, .ref q_n16, .int (0 : Int32), .int (0 : Int32), .int (0 : Int32), .int (0 : Int32), .int (0 : Int32), .int (0 : Int32), .int (0 : Int32), .int 0, .int 0, .int 0, .int 0])), (q_n7, .inl (cI, 60, .inl (fun _ => 0))), (q_n16, .inl (cI, 744, .inl (fun _ => 0)))] H := hP
  have hD : va_D A [(h_t, .inr (3, [.ref q_n7, .ref q_n16, .int (0 : Int32), .int (0 : Int32), .int (0 : Int32), .int (0 : Int32), .int (0 : Int32), .int (0 : Int32), .int (0 : Int32), .int 0, .int 0, .int 0, .int 0])), (q_n7, .inl (cI, 60, .inl (fun _ => 0))), (q_n16, .inl (cI, 744, .inl (fun _ => 0)))] := hD
  refine lv_aload_n hx hb dX4_init_56 rfl (lv_at hl 0 rfl) ?_
  refine lv_iconst (v := (0 : Int32)) hx hb dX4_init_57 (by decide) ?_
  refine va_put (D := (dC, dI)) (ci := 3) (v := .int (0 : Int32)) (ty := .int) (C := RX4) (T := TX4) (N := 13) hx hb hts iRd_init_X4_init_5 tyX4 tyX4_ok nmX4 hown hK hP hD hS 0 rfl rfl 9 (by decide) (hts _ kRd_init_X4_init_14) (fun _ h9 => h9) rfl (by decide +kernel) rfl rfl (Nat.le_of_ble_eq_true rfl) dX4_init_58 (fun H locs hP hD hS => ?_)
  have hP : va_P (dC, dI) vwCl [(h_t, .inr (3, [.ref q_n7, .ref q_n16, .int (0 : Int32), .int (0 : Int32), .int (0 : Int32), .int (0 : Int32), .int (0 : Int32), .int (0 : Int32), .int (0 : Int32), .int (0 : Int32), .int 0, .int 0, .int 0])), (q_n7, .inl (cI, 60, .inl (fun _ => 0))), (q_n16, .inl (cI, 744, .inl (fun _ => 0)))] H := hP
  have hD : va_D A [(h_t, .inr (3, [.ref q_n7, .ref q_n16, .int (0 : Int32), .int (0 : Int32), .int (0 : Int32), .int (0 : Int32), .int (0 : Int32), .int (0 : Int32), .int (0 : Int32), .int (0 : Int32), .int 0, .int 0, .int 0])), (q_n7, .inl (cI, 60, .inl (fun _ => 0))), (q_n16, .inl (cI, 744, .inl (fun _ => 0)))] := hD
  refine lv_aload_n hx hb dX4_init_61 rfl (lv_at hl 0 rfl) ?_
  refine lv_iconst (v := (0 : Int32)) hx hb dX4_init_62 (by decide) ?_
  refine va_put (D := (dC, dI)) (ci := 3) (v := .int (0 : Int32)) (ty := .int) (C := RX4) (T := TX4) (N := 13) hx hb hts iRd_init_X4_init_5 tyX4 tyX4_ok nmX4 hown hK hP hD hS 0 rfl rfl 10 (by decide) (hts _ kRd_init_X4_init_15) (fun _ h9 => h9) rfl (by decide +kernel) rfl rfl (Nat.le_of_ble_eq_true rfl) dX4_init_63 (fun H locs hP hD hS => ?_)
  have hP : va_P (dC, dI) vwCl [(h_t, .inr (3, [.ref q_n7, .ref q_n16, .int (0 : Int32), .int (0 : Int32), .int (0 : Int32), .int (0 : Int32), .int (0 : Int32), .int (0 : Int32), .int (0 : Int32), .int (0 : Int32), .int (0 : Int32), .int 0, .int 0])), (q_n7, .inl (cI, 60, .inl (fun _ => 0))), (q_n16, .inl (cI, 744, .inl (fun _ => 0)))] H := hP
  have hD : va_D A [(h_t, .inr (3, [.ref q_n7, .ref q_n16, .int (0 : Int32), .int (0 : Int32), .int (0 : Int32), .int (0 : Int32), .int (0 : Int32), .int (0 : Int32), .int (0 : Int32), .int (0 : Int32), .int (0 : Int32), .int 0, .int 0])), (q_n7, .inl (cI, 60, .inl (fun _ => 0))), (q_n16, .inl (cI, 744, .inl (fun _ => 0)))] := hD
  refine lv_aload_n hx hb dX4_init_66 rfl (lv_at hl 0 rfl) ?_
  refine lv_iconst (v := (0 : Int32)) hx hb dX4_init_67 (by decide) ?_
  refine va_put (D := (dC, dI)) (ci := 3) (v := .int (0 : Int32)) (ty := .int) (C := RX4) (T := TX4) (N := 13) hx hb hts iRd_init_X4_init_5 tyX4 tyX4_ok nmX4 hown hK hP hD hS 0 rfl rfl 11 (by decide) (hts _ kRd_init_X4_init_16) (fun _ h9 => h9) rfl (by decide +kernel) rfl rfl (Nat.le_of_ble_eq_true rfl) dX4_init_68 (fun H locs hP hD hS => ?_)
  have hP : va_P (dC, dI) vwCl [(h_t, .inr (3, [.ref q_n7, .ref q_n16, .int (0 : Int32), .int (0 : Int32), .int (0 : Int32), .int (0 : Int32), .int (0 : Int32), .int (0 : Int32), .int (0 : Int32), .int (0 : Int32), .int (0 : Int32), .int (0 : Int32), .int 0])), (q_n7, .inl (cI, 60, .inl (fun _ => 0))), (q_n16, .inl (cI, 744, .inl (fun _ => 0)))] H := hP
  have hD : va_D A [(h_t, .inr (3, [.ref q_n7, .ref q_n16, .int (0 : Int32), .int (0 : Int32), .int (0 : Int32), .int (0 : Int32), .int (0 : Int32), .int (0 : Int32), .int (0 : Int32), .int (0 : Int32), .int (0 : Int32), .int (0 : Int32), .int 0])), (q_n7, .inl (cI, 60, .inl (fun _ => 0))), (q_n16, .inl (cI, 744, .inl (fun _ => 0)))] := hD
  refine lv_aload_n hx hb dX4_init_71 rfl (lv_at hl 0 rfl) ?_
  refine lv_iconst (v := (0 : Int32)) hx hb dX4_init_72 (by decide) ?_
  refine va_put (D := (dC, dI)) (ci := 3) (v := .int (0 : Int32)) (ty := .boolean) (C := RX4) (T := TX4) (N := 13) hx hb hts iRd_init_X4_init_5 tyX4 tyX4_ok nmX4 hown hK hP hD hS 0 rfl rfl 12 (by decide) (hts _ kRd_init_X4_init_17) (fun _ h9 => h9) rfl (by decide +kernel) rfl rfl (Nat.le_of_ble_eq_true rfl) dX4_init_73 (fun H locs hP hD hS => ?_)
  have hP : va_P (dC, dI) vwCl [(h_t, .inr (3, [.ref q_n7, .ref q_n16, .int (0 : Int32), .int (0 : Int32), .int (0 : Int32), .int (0 : Int32), .int (0 : Int32), .int (0 : Int32), .int (0 : Int32), .int (0 : Int32), .int (0 : Int32), .int (0 : Int32), .int (0 : Int32)])), (q_n7, .inl (cI, 60, .inl (fun _ => 0))), (q_n16, .inl (cI, 744, .inl (fun _ => 0)))] H := hP
  have hD : va_D A [(h_t, .inr (3, [.ref q_n7, .ref q_n16, .int (0 : Int32), .int (0 : Int32), .int (0 : Int32), .int (0 : Int32), .int (0 : Int32), .int (0 : Int32), .int (0 : Int32), .int (0 : Int32), .int (0 : Int32), .int (0 : Int32), .int (0 : Int32)])), (q_n7, .inl (cI, 60, .inl (fun _ => 0))), (q_n16, .inl (cI, 744, .inl (fun _ => 0)))] := hD
  refine W.widen (k := 2) (n := 804) (Nat.le_of_ble_eq_true rfl) (Nat.le_of_ble_eq_true rfl) ?_
  rw [← hQQ]
  exact W.vret hx hb hr (fun t ht hW => ⟨⟨(q_n7, q_n16), rfl, trivial, by rw [ht]; exact hP, va_K.moved hW.alike hK, hD⟩, hS.F ht⟩) hS.2.2 dX4_init_76

-- Rd_hasFault
theorem kRd_hasFault_X4_hasFault_0 : Cond.fieldLink RX4 31 "RepeatNests$Reader" "faultReason" "I" ∈ wsX4_hasFault := by decide +kernel
theorem iRd_hasFault_X4_hasFault_1 : ∀ w ∈ wsX40, w ∈ wsX4_hasFault := by decide +kernel
set_option maxHeartbeats 4000000 in
set_option maxRecDepth 100000 in
theorem cRd_hasFault (l : Launch) (dC : Nat → ClassId) (dI : Nat → Nat → Nat) (cI cJ cC cS : ClassId) (h_t h_t_signs h_t_letters : Nat) (sz : Nat) (t_length : Int32) (t_at : Int32) (t_size : Int32) (t_faultPlace : Int32) (t_faultReason : Int32) (t_lettersTold : Int32) (t_repeatsTold : Int32) (t_correctionsTold : Int32) (t_mostCorrections : Int32) (t_deepest : Int32) (t_fresh : Int32) (r : Int32) (hres : fRd_hasFault t_faultReason = some r) :
    Met l yX4_hasFault wsX4_hasFault ({ frames := 0, cells := 0, slots := 0, locals := 0 } : Room) (va_Pc [.ref h_t] (fun (U : State) => U.heap.size = sz ∧ va_P (dC, dI) vwCl [(h_t, .inr (3, [.ref h_t_signs, .ref h_t_letters, .int t_length, .int t_at, .int t_size, .int t_faultPlace, .int t_faultReason, .int t_lettersTold, .int t_repeatsTold, .int t_correctionsTold, .int t_mostCorrections, .int t_deepest, .int t_fresh]))] U.heap ∧ va_K (dC, dI) vwCl (tyA cI cJ cC cS) U ∧ nwN U ∧ va_D (fun _ => True) [(h_t, .inr (3, [.ref h_t_signs, .ref h_t_letters, .int t_length, .int t_at, .int t_size, .int t_faultPlace, .int t_faultReason, .int t_lettersTold, .int t_repeatsTold, .int t_correctionsTold, .int t_mostCorrections, .int t_deepest, .int t_fresh]))])) (va_Qi (fun (r9 : Int32) (_ : Unit) => r9 = r) (fun (_ : Unit) (t : State) => va_P (dC, dI) vwCl [(h_t, .inr (3, [.ref h_t_signs, .ref h_t_letters, .int t_length, .int t_at, .int t_size, .int t_faultPlace, .int t_faultReason, .int t_lettersTold, .int t_repeatsTold, .int t_correctionsTold, .int t_mostCorrections, .int t_deepest, .int t_fresh]))] t.heap ∧ va_K (dC, dI) vwCl (tyA cI cJ cC cS) t ∧ va_D (va_A [(h_t, .inr (3, [.ref h_t_signs, .ref h_t_letters, .int t_length, .int t_at, .int t_size, .int t_faultPlace, .int t_faultReason, .int t_lettersTold, .int t_repeatsTold, .int t_correctionsTold, .int t_mostCorrections, .int t_deepest, .int t_fresh]))] sz) [(h_t, .inr (3, [.ref h_t_signs, .ref h_t_letters, .int t_length, .int t_at, .int t_size, .int t_faultPlace, .int t_faultReason, .int t_lettersTold, .int t_repeatsTold, .int t_correctionsTold, .int t_mostCorrections, .int t_deepest, .int t_fresh]))]) (va_A [(h_t, .inr (3, [.ref h_t_signs, .ref h_t_letters, .int t_length, .int t_at, .int t_size, .int t_faultPlace, .int t_faultReason, .int t_lettersTold, .int t_repeatsTold, .int t_correctionsTold, .int t_mostCorrections, .int t_deepest, .int t_fresh]))] sz)) 0 0 (va_A [(h_t, .inr (3, [.ref h_t_signs, .ref h_t_letters, .int t_length, .int t_at, .int t_size, .int t_faultPlace, .int t_faultReason, .int t_lettersTold, .int t_repeatsTold, .int t_correctionsTold, .int t_mostCorrections, .int t_deepest, .int t_fresh]))] sz) := by
  refine Met.ofW (cc := cX4_hasFault) (maxL := 1) (ret := (some .boolean)) (by decide) rfl ?_
  intro p e s m args below meth c s₁ B hml hv
  obtain ⟨hargs, hsz, hP, hK, hN, hD0⟩ := hv
  have hx := B.exec
  have hb := B.bytes
  have hr := B.returns
  have hts := atoms_spec (ws := wsX4_hasFault) B.pre
  have hown : s.vm.findClass RX4 = some m.cls := findClass_of_methodNamed B.named
  have hlocks := B.notSynchronized
  subst hsz
  have hD := hD0.self (sz := s.heap.size)
  generalize hAe : va_A [(h_t, .inr (3, [.ref h_t_signs, .ref h_t_letters, .int t_length, .int t_at, .int t_size, .int t_faultPlace, .int t_faultReason, .int t_lettersTold, .int t_repeatsTold, .int t_correctionsTold, .int t_mostCorrections, .int t_deepest, .int t_fresh]))] s.heap.size = A at hD ⊢
  have hA : ∀ q : Nat, s.heap.size ≤ q → A q := fun q h => by rw [← hAe]; exact Or.inr h
  have hS : va_S A s.heap s.heap [] := va_S.rf
  have hP : va_P (dC, dI) vwCl [(h_t, .inr (3, [.ref h_t_signs, .ref h_t_letters, .int t_length, .int t_at, .int t_size, .int t_faultPlace, .int t_faultReason, .int t_lettersTold, .int t_repeatsTold, .int t_correctionsTold, .int t_mostCorrections, .int t_deepest, .int t_fresh]))] s.heap := hP
  have hl := lv_entry [.ref h_t] (n := 1) (Nat.le_of_ble_eq_true rfl)
  rw [show entryFrame m args 1 = entryFrame m ([.ref h_t] : List Value).toArray 1 from by rw [hargs], lg_entry_eq]
  generalize (lg_sl [.ref h_t] ++ List.replicate (1 - (lg_sl [.ref h_t]).length) Slot.unset).toArray = ls at hl ⊢
  have hl : lv_has ls 1 [(0, .ref h_t)] := hl
  generalize hQQ : MQ below (va_Qi (fun (r9 : Int32) (_ : Unit) => r9 = r) (fun (_ : Unit) (t : State) => va_P (dC, dI) vwCl [(h_t, .inr (3, [.ref h_t_signs, .ref h_t_letters, .int t_length, .int t_at, .int t_size, .int t_faultPlace, .int t_faultReason, .int t_lettersTold, .int t_repeatsTold, .int t_correctionsTold, .int t_mostCorrections, .int t_deepest, .int t_fresh]))] t.heap ∧ va_K (dC, dI) vwCl (tyA cI cJ cC cS) t ∧ va_D A [(h_t, .inr (3, [.ref h_t_signs, .ref h_t_letters, .int t_length, .int t_at, .int t_size, .int t_faultPlace, .int t_faultReason, .int t_lettersTold, .int t_repeatsTold, .int t_correctionsTold, .int t_mostCorrections, .int t_deepest, .int t_fresh]))]) A) args s 0 0 A = QQ
  obtain ⟨H, hH⟩ : ∃ H : Heap, H = s.heap := ⟨_, rfl⟩
  obtain ⟨locs, hlocs⟩ : ∃ locs : List Loc, locs = [] := ⟨_, rfl⟩
  rw [← hH] at hP
  have hS : va_S A s.heap H locs := by rw [hH, hlocs]; exact hS
  suffices hZ : W p l e (headSpec wsX4_hasFault ({ frames := 0, cells := 0, slots := 0, locals := 0 } : Room)).room s m args below meth c H locs 0 0 QQ (F0 m 0 ls []) by rw [hH, hlocs] at hZ; exact hZ
  clear hH hlocs
  rw [fRd_hasFault] at hres
  refine lv_aload_n hx hb dX4_hasFault_0 rfl (lv_at hl 0 rfl) ?_
  refine va_get (D := (dC, dI)) (ci := 3) (v := .int t_faultReason) (C := RX4) (T := TX4) (N := 13) hx hb hts iRd_hasFault_X4_hasFault_1 hown hK hP 0 rfl rfl 6 (by decide) (hts _ kRd_hasFault_X4_hasFault_0) (fun _ h9 => h9) rfl dX4_hasFault_1 ?_
  refine lv_if_eq (tgt := 11) hx hb dX4_hasFault_4 (by decide) (fun c_1 => ?_) (fun c_1 => ?_)
  · have hres := it_of hres c_1
    refine lv_iconst (v := (0 : Int32)) hx hb dX4_hasFault_11 (by decide) ?_
    have e9_0 := Option.some.inj hres
    subst e9_0
    rw [← hQQ]
    exact W.zret (v := (0 : Int32)) hx hb hr rfl (fun t ht hW => ⟨⟨(0 : Int32), (), rfl, rfl, by rw [ht]; exact hP, va_K.moved hW.alike hK, hD⟩, hS.F ht⟩) hS.2.2 dX4_hasFault_12
  · have hres := ie_of hres c_1
    refine lv_iconst (v := (1 : Int32)) hx hb dX4_hasFault_7 (by decide) ?_
    refine lv_goto (tgt := 12) hx hb dX4_hasFault_8 (by decide) ?_
    have e9_0 := Option.some.inj hres
    subst e9_0
    rw [← hQQ]
    exact W.zret (v := (1 : Int32)) hx hb hr rfl (fun t ht hW => ⟨⟨(1 : Int32), (), rfl, rfl, by rw [ht]; exact hP, va_K.moved hW.alike hK, hD⟩, hS.F ht⟩) hS.2.2 dX4_hasFault_12

-- Rd_letter
theorem kRd_letter_X4_letter_0 : Cond.fieldLink RX4 15 "RepeatNests$Reader" "letters" "[I" ∈ wsX4_letter := by decide +kernel
theorem iRd_letter_X4_letter_1 : ∀ w ∈ wsX40, w ∈ wsX4_letter := by decide +kernel
set_option maxHeartbeats 4000000 in
set_option maxRecDepth 100000 in
theorem cRd_letter (l : Launch) (dC : Nat → ClassId) (dI : Nat → Nat → Nat) (cI cJ cC cS : ClassId) (h_t h_t_signs h_t_letters : Nat) (sz : Nat) (t_length : Int32) (t_at : Int32) (t_size : Int32) (t_faultPlace : Int32) (t_faultReason : Int32) (t_lettersTold : Int32) (t_repeatsTold : Int32) (t_correctionsTold : Int32) (t_mostCorrections : Int32) (t_deepest : Int32) (t_fresh : Int32) (t_letters : Nat → Int32) (x1 : Int32) (r : Int32) (hres : fRd_letter t_letters x1 = some r) :
    Met l yX4_letter wsX4_letter ({ frames := 0, cells := 0, slots := 0, locals := 0 } : Room) (va_Pc [.ref h_t, .int x1] (fun (U : State) => U.heap.size = sz ∧ va_P (dC, dI) vwCl [(h_t, .inr (3, [.ref h_t_signs, .ref h_t_letters, .int t_length, .int t_at, .int t_size, .int t_faultPlace, .int t_faultReason, .int t_lettersTold, .int t_repeatsTold, .int t_correctionsTold, .int t_mostCorrections, .int t_deepest, .int t_fresh])), (h_t_letters, .inl (cI, 744, .inl t_letters))] U.heap ∧ va_K (dC, dI) vwCl (tyA cI cJ cC cS) U ∧ nwN U ∧ va_D (fun _ => True) [(h_t, .inr (3, [.ref h_t_signs, .ref h_t_letters, .int t_length, .int t_at, .int t_size, .int t_faultPlace, .int t_faultReason, .int t_lettersTold, .int t_repeatsTold, .int t_correctionsTold, .int t_mostCorrections, .int t_deepest, .int t_fresh])), (h_t_letters, .inl (cI, 744, .inl t_letters))])) (va_Qi (fun (r9 : Int32) (_ : Unit) => r9 = r) (fun (_ : Unit) (t : State) => va_P (dC, dI) vwCl [(h_t, .inr (3, [.ref h_t_signs, .ref h_t_letters, .int t_length, .int t_at, .int t_size, .int t_faultPlace, .int t_faultReason, .int t_lettersTold, .int t_repeatsTold, .int t_correctionsTold, .int t_mostCorrections, .int t_deepest, .int t_fresh])), (h_t_letters, .inl (cI, 744, .inl t_letters))] t.heap ∧ va_K (dC, dI) vwCl (tyA cI cJ cC cS) t ∧ va_D (va_A [(h_t, .inr (3, [.ref h_t_signs, .ref h_t_letters, .int t_length, .int t_at, .int t_size, .int t_faultPlace, .int t_faultReason, .int t_lettersTold, .int t_repeatsTold, .int t_correctionsTold, .int t_mostCorrections, .int t_deepest, .int t_fresh])), (h_t_letters, .inl (cI, 744, .inl t_letters))] sz) [(h_t, .inr (3, [.ref h_t_signs, .ref h_t_letters, .int t_length, .int t_at, .int t_size, .int t_faultPlace, .int t_faultReason, .int t_lettersTold, .int t_repeatsTold, .int t_correctionsTold, .int t_mostCorrections, .int t_deepest, .int t_fresh])), (h_t_letters, .inl (cI, 744, .inl t_letters))]) (va_A [(h_t, .inr (3, [.ref h_t_signs, .ref h_t_letters, .int t_length, .int t_at, .int t_size, .int t_faultPlace, .int t_faultReason, .int t_lettersTold, .int t_repeatsTold, .int t_correctionsTold, .int t_mostCorrections, .int t_deepest, .int t_fresh])), (h_t_letters, .inl (cI, 744, .inl t_letters))] sz)) 0 0 (va_A [(h_t, .inr (3, [.ref h_t_signs, .ref h_t_letters, .int t_length, .int t_at, .int t_size, .int t_faultPlace, .int t_faultReason, .int t_lettersTold, .int t_repeatsTold, .int t_correctionsTold, .int t_mostCorrections, .int t_deepest, .int t_fresh])), (h_t_letters, .inl (cI, 744, .inl t_letters))] sz) := by
  refine Met.ofW (cc := cX4_letter) (maxL := 2) (ret := (some .int)) (by decide) rfl ?_
  intro p e s m args below meth c s₁ B hml hv
  obtain ⟨hargs, hsz, hP, hK, hN, hD0⟩ := hv
  have hx := B.exec
  have hb := B.bytes
  have hr := B.returns
  have hts := atoms_spec (ws := wsX4_letter) B.pre
  have hown : s.vm.findClass RX4 = some m.cls := findClass_of_methodNamed B.named
  have hlocks := B.notSynchronized
  subst hsz
  have hD := hD0.self (sz := s.heap.size)
  generalize hAe : va_A [(h_t, .inr (3, [.ref h_t_signs, .ref h_t_letters, .int t_length, .int t_at, .int t_size, .int t_faultPlace, .int t_faultReason, .int t_lettersTold, .int t_repeatsTold, .int t_correctionsTold, .int t_mostCorrections, .int t_deepest, .int t_fresh])), (h_t_letters, .inl (cI, 744, .inl t_letters))] s.heap.size = A at hD ⊢
  have hA : ∀ q : Nat, s.heap.size ≤ q → A q := fun q h => by rw [← hAe]; exact Or.inr h
  have hS : va_S A s.heap s.heap [] := va_S.rf
  have hP : va_P (dC, dI) vwCl [(h_t, .inr (3, [.ref h_t_signs, .ref h_t_letters, .int t_length, .int t_at, .int t_size, .int t_faultPlace, .int t_faultReason, .int t_lettersTold, .int t_repeatsTold, .int t_correctionsTold, .int t_mostCorrections, .int t_deepest, .int t_fresh])), (h_t_letters, .inl (cI, 744, .inl t_letters))] s.heap := hP
  have hl := lv_entry [.ref h_t, .int x1] (n := 2) (Nat.le_of_ble_eq_true rfl)
  rw [show entryFrame m args 2 = entryFrame m ([.ref h_t, .int x1] : List Value).toArray 2 from by rw [hargs], lg_entry_eq]
  generalize (lg_sl [.ref h_t, .int x1] ++ List.replicate (2 - (lg_sl [.ref h_t, .int x1]).length) Slot.unset).toArray = ls at hl ⊢
  have hl : lv_has ls 2 [(0, .ref h_t), (1, .int x1)] := hl
  generalize hQQ : MQ below (va_Qi (fun (r9 : Int32) (_ : Unit) => r9 = r) (fun (_ : Unit) (t : State) => va_P (dC, dI) vwCl [(h_t, .inr (3, [.ref h_t_signs, .ref h_t_letters, .int t_length, .int t_at, .int t_size, .int t_faultPlace, .int t_faultReason, .int t_lettersTold, .int t_repeatsTold, .int t_correctionsTold, .int t_mostCorrections, .int t_deepest, .int t_fresh])), (h_t_letters, .inl (cI, 744, .inl t_letters))] t.heap ∧ va_K (dC, dI) vwCl (tyA cI cJ cC cS) t ∧ va_D A [(h_t, .inr (3, [.ref h_t_signs, .ref h_t_letters, .int t_length, .int t_at, .int t_size, .int t_faultPlace, .int t_faultReason, .int t_lettersTold, .int t_repeatsTold, .int t_correctionsTold, .int t_mostCorrections, .int t_deepest, .int t_fresh])), (h_t_letters, .inl (cI, 744, .inl t_letters))]) A) args s 0 0 A = QQ
  obtain ⟨H, hH⟩ : ∃ H : Heap, H = s.heap := ⟨_, rfl⟩
  obtain ⟨locs, hlocs⟩ : ∃ locs : List Loc, locs = [] := ⟨_, rfl⟩
  rw [← hH] at hP
  have hS : va_S A s.heap H locs := by rw [hH, hlocs]; exact hS
  suffices hZ : W p l e (headSpec wsX4_letter ({ frames := 0, cells := 0, slots := 0, locals := 0 } : Room)).room s m args below meth c H locs 0 0 QQ (F0 m 0 ls []) by rw [hH, hlocs] at hZ; exact hZ
  clear hH hlocs
  rw [fRd_letter] at hres
  refine lv_iload_n hx hb dX4_letter_0 rfl (lv_at hl 1 rfl) ?_
  refine lv_if_lt (tgt := 22) hx hb dX4_letter_1 (by decide) (fun c_1 => ?_) (fun c_1 => ?_)
  · have hres := it_of hres c_1
    refine lv_iconst (v := (-1 : Int32)) hx hb dX4_letter_22 (by decide) ?_
    have e9_0 := Option.some.inj hres
    subst e9_0
    rw [← hQQ]
    exact W.iret (v := (-1 : Int32)) hx hb hr (fun t ht hW => ⟨⟨(-1 : Int32), (), rfl, rfl, by rw [ht]; exact hP, va_K.moved hW.alike hK, hD⟩, hS.F ht⟩) hS.2.2 dX4_letter_23
  · have hres := ie_of hres c_1
    refine lv_iload_n hx hb dX4_letter_4 rfl (lv_at hl 1 rfl) ?_
    refine lv_aload_n hx hb dX4_letter_5 rfl (lv_at hl 0 rfl) ?_
    refine va_get (D := (dC, dI)) (ci := 3) (v := .ref h_t_letters) (C := RX4) (T := TX4) (N := 13) hx hb hts iRd_letter_X4_letter_1 hown hK hP 0 rfl rfl 1 (by decide) (hts _ kRd_letter_X4_letter_0) (fun _ h9 => h9) rfl dX4_letter_6 ?_
    refine va_alen hx hb hK hP 1 0 rfl (ty := .int) rfl (v := (744 : Int32)) (by show Int32.ofNat 744 = (744 : Int32); decide) dX4_letter_9 ?_
    refine lv_icmp_ge (tgt := 22) hx hb dX4_letter_10 (by decide) (fun c_2 => ?_) (fun c_2 => ?_)
    · have hres := it_of hres c_2
      refine lv_iconst (v := (-1 : Int32)) hx hb dX4_letter_22 (by decide) ?_
      have e9_0 := Option.some.inj hres
      subst e9_0
      rw [← hQQ]
      exact W.iret (v := (-1 : Int32)) hx hb hr (fun t ht hW => ⟨⟨(-1 : Int32), (), rfl, rfl, by rw [ht]; exact hP, va_K.moved hW.alike hK, hD⟩, hS.F ht⟩) hS.2.2 dX4_letter_23
    · have hres := ie_of hres c_2
      refine lv_aload_n hx hb dX4_letter_13 rfl (lv_at hl 0 rfl) ?_
      refine va_get (D := (dC, dI)) (ci := 3) (v := .ref h_t_letters) (C := RX4) (T := TX4) (N := 13) hx hb hts iRd_letter_X4_letter_1 hown hK hP 0 rfl rfl 1 (by decide) (hts _ kRd_letter_X4_letter_0) (fun _ h9 => h9) rfl dX4_letter_14 ?_
      refine lv_iload_n hx hb dX4_letter_17 rfl (lv_at hl 1 rfl) ?_
      obtain ⟨c_3, hres⟩ := ck_of hres
      refine va_iald hx hb hK hP 1 0 rfl rfl c_3 dX4_letter_18 ?_
      refine lv_goto (tgt := 23) hx hb dX4_letter_19 (by decide) ?_
      have e9_0 := Option.some.inj hres
      subst e9_0
      rw [← hQQ]
      exact W.iret (v := (rd t_letters x1)) hx hb hr (fun t ht hW => ⟨⟨(rd t_letters x1), (), rfl, rfl, by rw [ht]; exact hP, va_K.moved hW.alike hK, hD⟩, hS.F ht⟩) hS.2.2 dX4_letter_23

-- Rd_blame
theorem kRd_blame_X4_blame_0 : Cond.fieldLink RX4 31 "RepeatNests$Reader" "faultReason" "I" ∈ wsX4_blame := by decide +kernel
theorem iRd_blame_X4_blame_1 : ∀ w ∈ wsX40, w ∈ wsX4_blame := by decide +kernel
theorem kRd_blame_X4_blame_2 : Cond.fieldLink RX4 28 "RepeatNests$Reader" "faultPlace" "I" ∈ wsX4_blame := by decide +kernel
set_option maxHeartbeats 4000000 in
set_option maxRecDepth 100000 in
theorem cRd_blame (l : Launch) (dC : Nat → ClassId) (dI : Nat → Nat → Nat) (cI cJ cC cS : ClassId) (h_t h_t_signs h_t_letters : Nat) (sz : Nat) (t_length : Int32) (t_at : Int32) (t_size : Int32) (t_faultPlace : Int32) (t_faultReason : Int32) (t_lettersTold : Int32) (t_repeatsTold : Int32) (t_correctionsTold : Int32) (t_mostCorrections : Int32) (t_deepest : Int32) (t_fresh : Int32) (x1 : Int32) (x2 : Int32) (y_t_faultPlace : Int32) (y_t_faultReason : Int32) (hres : fRd_blame t_faultPlace t_faultReason x1 x2 = some (y_t_faultPlace, y_t_faultReason)) :
    Met l yX4_blame wsX4_blame ({ frames := 0, cells := 0, slots := 0, locals := 0 } : Room) (va_Pc [.ref h_t, .int x1, .int x2] (fun (U : State) => U.heap.size = sz ∧ va_P (dC, dI) vwCl [(h_t, .inr (3, [.ref h_t_signs, .ref h_t_letters, .int t_length, .int t_at, .int t_size, .int t_faultPlace, .int t_faultReason, .int t_lettersTold, .int t_repeatsTold, .int t_correctionsTold, .int t_mostCorrections, .int t_deepest, .int t_fresh]))] U.heap ∧ va_K (dC, dI) vwCl (tyA cI cJ cC cS) U ∧ nwN U ∧ va_D (fun _ => True) [(h_t, .inr (3, [.ref h_t_signs, .ref h_t_letters, .int t_length, .int t_at, .int t_size, .int t_faultPlace, .int t_faultReason, .int t_lettersTold, .int t_repeatsTold, .int t_correctionsTold, .int t_mostCorrections, .int t_deepest, .int t_fresh]))])) (va_Qv (fun (_ : Unit) => True) (fun (_ : Unit) (t : State) => va_P (dC, dI) vwCl [(h_t, .inr (3, [.ref h_t_signs, .ref h_t_letters, .int t_length, .int t_at, .int t_size, .int y_t_faultPlace, .int y_t_faultReason, .int t_lettersTold, .int t_repeatsTold, .int t_correctionsTold, .int t_mostCorrections, .int t_deepest, .int t_fresh]))] t.heap ∧ va_K (dC, dI) vwCl (tyA cI cJ cC cS) t ∧ va_D (va_A [(h_t, .inr (3, [.ref h_t_signs, .ref h_t_letters, .int t_length, .int t_at, .int t_size, .int t_faultPlace, .int t_faultReason, .int t_lettersTold, .int t_repeatsTold, .int t_correctionsTold, .int t_mostCorrections, .int t_deepest, .int t_fresh]))] sz) [(h_t, .inr (3, [.ref h_t_signs, .ref h_t_letters, .int t_length, .int t_at, .int t_size, .int y_t_faultPlace, .int y_t_faultReason, .int t_lettersTold, .int t_repeatsTold, .int t_correctionsTold, .int t_mostCorrections, .int t_deepest, .int t_fresh]))]) (va_A [(h_t, .inr (3, [.ref h_t_signs, .ref h_t_letters, .int t_length, .int t_at, .int t_size, .int t_faultPlace, .int t_faultReason, .int t_lettersTold, .int t_repeatsTold, .int t_correctionsTold, .int t_mostCorrections, .int t_deepest, .int t_fresh]))] sz)) 0 0 (va_A [(h_t, .inr (3, [.ref h_t_signs, .ref h_t_letters, .int t_length, .int t_at, .int t_size, .int t_faultPlace, .int t_faultReason, .int t_lettersTold, .int t_repeatsTold, .int t_correctionsTold, .int t_mostCorrections, .int t_deepest, .int t_fresh]))] sz) := by
  refine Met.ofW (cc := cX4_blame) (maxL := 3) (ret := none) (by decide) rfl ?_
  intro p e s m args below meth c s₁ B hml hv
  obtain ⟨hargs, hsz, hP, hK, hN, hD0⟩ := hv
  have hx := B.exec
  have hb := B.bytes
  have hr := B.returns
  have hts := atoms_spec (ws := wsX4_blame) B.pre
  have hown : s.vm.findClass RX4 = some m.cls := findClass_of_methodNamed B.named
  have hlocks := B.notSynchronized
  subst hsz
  have hD := hD0.self (sz := s.heap.size)
  generalize hAe : va_A [(h_t, .inr (3, [.ref h_t_signs, .ref h_t_letters, .int t_length, .int t_at, .int t_size, .int t_faultPlace, .int t_faultReason, .int t_lettersTold, .int t_repeatsTold, .int t_correctionsTold, .int t_mostCorrections, .int t_deepest, .int t_fresh]))] s.heap.size = A at hD ⊢
  have hA : ∀ q : Nat, s.heap.size ≤ q → A q := fun q h => by rw [← hAe]; exact Or.inr h
  have hS : va_S A s.heap s.heap [] := va_S.rf
  have hP : va_P (dC, dI) vwCl [(h_t, .inr (3, [.ref h_t_signs, .ref h_t_letters, .int t_length, .int t_at, .int t_size, .int t_faultPlace, .int t_faultReason, .int t_lettersTold, .int t_repeatsTold, .int t_correctionsTold, .int t_mostCorrections, .int t_deepest, .int t_fresh]))] s.heap := hP
  have hl := lv_entry [.ref h_t, .int x1, .int x2] (n := 3) (Nat.le_of_ble_eq_true rfl)
  rw [show entryFrame m args 3 = entryFrame m ([.ref h_t, .int x1, .int x2] : List Value).toArray 3 from by rw [hargs], lg_entry_eq]
  generalize (lg_sl [.ref h_t, .int x1, .int x2] ++ List.replicate (3 - (lg_sl [.ref h_t, .int x1, .int x2]).length) Slot.unset).toArray = ls at hl ⊢
  have hl : lv_has ls 3 [(0, .ref h_t), (1, .int x1), (2, .int x2)] := hl
  generalize hQQ : MQ below (va_Qv (fun (_ : Unit) => True) (fun (_ : Unit) (t : State) => va_P (dC, dI) vwCl [(h_t, .inr (3, [.ref h_t_signs, .ref h_t_letters, .int t_length, .int t_at, .int t_size, .int y_t_faultPlace, .int y_t_faultReason, .int t_lettersTold, .int t_repeatsTold, .int t_correctionsTold, .int t_mostCorrections, .int t_deepest, .int t_fresh]))] t.heap ∧ va_K (dC, dI) vwCl (tyA cI cJ cC cS) t ∧ va_D A [(h_t, .inr (3, [.ref h_t_signs, .ref h_t_letters, .int t_length, .int t_at, .int t_size, .int y_t_faultPlace, .int y_t_faultReason, .int t_lettersTold, .int t_repeatsTold, .int t_correctionsTold, .int t_mostCorrections, .int t_deepest, .int t_fresh]))]) A) args s 0 0 A = QQ
  obtain ⟨H, hH⟩ : ∃ H : Heap, H = s.heap := ⟨_, rfl⟩
  obtain ⟨locs, hlocs⟩ : ∃ locs : List Loc, locs = [] := ⟨_, rfl⟩
  rw [← hH] at hP
  have hS : va_S A s.heap H locs := by rw [hH, hlocs]; exact hS
  suffices hZ : W p l e (headSpec wsX4_blame ({ frames := 0, cells := 0, slots := 0, locals := 0 } : Room)).room s m args below meth c H locs 0 0 QQ (F0 m 0 ls []) by rw [hH, hlocs] at hZ; exact hZ
  clear hH hlocs
  rw [fRd_blame] at hres
  refine lv_aload_n hx hb dX4_blame_0 rfl (lv_at hl 0 rfl) ?_
  refine va_get (D := (dC, dI)) (ci := 3) (v := .int t_faultReason) (C := RX4) (T := TX4) (N := 13) hx hb hts iRd_blame_X4_blame_1 hown hK hP 0 rfl rfl 6 (by decide) (hts _ kRd_blame_X4_blame_0) (fun _ h9 => h9) rfl dX4_blame_1 ?_
  refine lv_if_ne (tgt := 17) hx hb dX4_blame_4 (by decide) (fun c_1 => ?_) (fun c_1 => ?_)
  · have hres := ie_of hres c_1
    obtain ⟨e9_0, e9_1⟩ := tup2 hres
    subst e9_0
    subst e9_1
    rw [← hQQ]
    exact W.vret hx hb hr (fun t ht hW => ⟨⟨(), rfl, trivial, by rw [ht]; exact hP, va_K.moved hW.alike hK, hD⟩, hS.F ht⟩) hS.2.2 dX4_blame_17
  · have hres := it_of hres c_1
    refine lv_aload_n hx hb dX4_blame_7 rfl (lv_at hl 0 rfl) ?_
    refine lv_iload_n hx hb dX4_blame_8 rfl (lv_at hl 1 rfl) ?_
    refine va_put (D := (dC, dI)) (ci := 3) (v := .int x1) (ty := .int) (C := RX4) (T := TX4) (N := 13) hx hb hts iRd_blame_X4_blame_1 tyX4 tyX4_ok nmX4 hown hK hP hD hS 0 rfl rfl 5 (by decide) (hts _ kRd_blame_X4_blame_2) (fun _ h9 => h9) rfl (by decide +kernel) rfl rfl (Nat.le_of_ble_eq_true rfl) dX4_blame_9 (fun H locs hP hD hS => ?_)
    have hP : va_P (dC, dI) vwCl [(h_t, .inr (3, [.ref h_t_signs, .ref h_t_letters, .int t_length, .int t_at, .int t_size, .int x1, .int t_faultReason, .int t_lettersTold, .int t_repeatsTold, .int t_correctionsTold, .int t_mostCorrections, .int t_deepest, .int t_fresh]))] H := hP
    have hD : va_D A [(h_t, .inr (3, [.ref h_t_signs, .ref h_t_letters, .int t_length, .int t_at, .int t_size, .int x1, .int t_faultReason, .int t_lettersTold, .int t_repeatsTold, .int t_correctionsTold, .int t_mostCorrections, .int t_deepest, .int t_fresh]))] := hD
    refine lv_aload_n hx hb dX4_blame_12 rfl (lv_at hl 0 rfl) ?_
    refine lv_iload_n hx hb dX4_blame_13 rfl (lv_at hl 2 rfl) ?_
    refine va_put (D := (dC, dI)) (ci := 3) (v := .int x2) (ty := .int) (C := RX4) (T := TX4) (N := 13) hx hb hts iRd_blame_X4_blame_1 tyX4 tyX4_ok nmX4 hown hK hP hD hS 0 rfl rfl 6 (by decide) (hts _ kRd_blame_X4_blame_0) (fun _ h9 => h9) rfl (by decide +kernel) rfl rfl (Nat.le_of_ble_eq_true rfl) dX4_blame_14 (fun H locs hP hD hS => ?_)
    have hP : va_P (dC, dI) vwCl [(h_t, .inr (3, [.ref h_t_signs, .ref h_t_letters, .int t_length, .int t_at, .int t_size, .int x1, .int x2, .int t_lettersTold, .int t_repeatsTold, .int t_correctionsTold, .int t_mostCorrections, .int t_deepest, .int t_fresh]))] H := hP
    have hD : va_D A [(h_t, .inr (3, [.ref h_t_signs, .ref h_t_letters, .int t_length, .int t_at, .int t_size, .int x1, .int x2, .int t_lettersTold, .int t_repeatsTold, .int t_correctionsTold, .int t_mostCorrections, .int t_deepest, .int t_fresh]))] := hD
    obtain ⟨e9_0, e9_1⟩ := tup2 hres
    subst e9_0
    subst e9_1
    rw [← hQQ]
    exact W.vret hx hb hr (fun t ht hW => ⟨⟨(), rfl, trivial, by rw [ht]; exact hP, va_K.moved hW.alike hK, hD⟩, hS.F ht⟩) hS.2.2 dX4_blame_17

-- Rd_isLetter
set_option maxHeartbeats 4000000 in
set_option maxRecDepth 100000 in
theorem cRd_isLetter (l : Launch) (dC : Nat → ClassId) (dI : Nat → Nat → Nat) (cI cJ cC cS : ClassId) (sz : Nat) (x0 : Int32) (r : Int32) (hres : fRd_isLetter x0 = some r) :
    Met l yX4_isLetter wsX4_isLetter ({ frames := 0, cells := 0, slots := 0, locals := 0 } : Room) (va_Pc [.int x0] (fun (U : State) => U.heap.size = sz ∧ va_P (dC, dI) vwCl [] U.heap ∧ va_K (dC, dI) vwCl (tyA cI cJ cC cS) U ∧ nwN U ∧ va_D (fun _ => True) [])) (va_Qi (fun (r9 : Int32) (_ : Unit) => r9 = r) (fun (_ : Unit) (t : State) => va_P (dC, dI) vwCl [] t.heap ∧ va_K (dC, dI) vwCl (tyA cI cJ cC cS) t ∧ va_D (va_A [] sz) []) (va_A [] sz)) 0 0 (va_A [] sz) := by
  refine Met.ofW (cc := cX4_isLetter) (maxL := 1) (ret := (some .boolean)) (by decide) rfl ?_
  intro p e s m args below meth c s₁ B hml hv
  obtain ⟨hargs, hsz, hP, hK, hN, hD0⟩ := hv
  have hx := B.exec
  have hb := B.bytes
  have hr := B.returns
  have hts := atoms_spec (ws := wsX4_isLetter) B.pre
  have hown : s.vm.findClass RX4 = some m.cls := findClass_of_methodNamed B.named
  have hlocks := B.notSynchronized
  subst hsz
  have hD := hD0.self (sz := s.heap.size)
  generalize hAe : va_A [] s.heap.size = A at hD ⊢
  have hA : ∀ q : Nat, s.heap.size ≤ q → A q := fun q h => by rw [← hAe]; exact Or.inr h
  have hS : va_S A s.heap s.heap [] := va_S.rf
  have hP : va_P (dC, dI) vwCl [] s.heap := hP
  have hl := lv_entry [.int x0] (n := 1) (Nat.le_of_ble_eq_true rfl)
  rw [show entryFrame m args 1 = entryFrame m ([.int x0] : List Value).toArray 1 from by rw [hargs], lg_entry_eq]
  generalize (lg_sl [.int x0] ++ List.replicate (1 - (lg_sl [.int x0]).length) Slot.unset).toArray = ls at hl ⊢
  have hl : lv_has ls 1 [(0, .int x0)] := hl
  generalize hQQ : MQ below (va_Qi (fun (r9 : Int32) (_ : Unit) => r9 = r) (fun (_ : Unit) (t : State) => va_P (dC, dI) vwCl [] t.heap ∧ va_K (dC, dI) vwCl (tyA cI cJ cC cS) t ∧ va_D A []) A) args s 0 0 A = QQ
  obtain ⟨H, hH⟩ : ∃ H : Heap, H = s.heap := ⟨_, rfl⟩
  obtain ⟨locs, hlocs⟩ : ∃ locs : List Loc, locs = [] := ⟨_, rfl⟩
  rw [← hH] at hP
  have hS : va_S A s.heap H locs := by rw [hH, hlocs]; exact hS
  suffices hZ : W p l e (headSpec wsX4_isLetter ({ frames := 0, cells := 0, slots := 0, locals := 0 } : Room)).room s m args below meth c H locs 0 0 QQ (F0 m 0 ls []) by rw [hH, hlocs] at hZ; exact hZ
  clear hH hlocs
  rw [fRd_isLetter] at hres
  refine lv_iload_n hx hb dX4_isLetter_0 rfl (lv_at hl 0 rfl) ?_
  refine lv_bipush (v := (97 : Int32)) hx hb dX4_isLetter_1 (by decide) ?_
  refine lv_icmp_lt (tgt := 16) hx hb dX4_isLetter_3 (by decide) (fun c_1 => ?_) (fun c_1 => ?_)
  · have hres := it_of hres c_1
    refine lv_iconst (v := (0 : Int32)) hx hb dX4_isLetter_16 (by decide) ?_
    have e9_0 := Option.some.inj hres
    subst e9_0
    rw [← hQQ]
    exact W.zret (v := (0 : Int32)) hx hb hr rfl (fun t ht hW => ⟨⟨(0 : Int32), (), rfl, rfl, by rw [ht]; exact hP, va_K.moved hW.alike hK, hD⟩, hS.F ht⟩) hS.2.2 dX4_isLetter_17
  · have hres := ie_of hres c_1
    refine lv_iload_n hx hb dX4_isLetter_6 rfl (lv_at hl 0 rfl) ?_
    refine lv_bipush (v := (101 : Int32)) hx hb dX4_isLetter_7 (by decide) ?_
    refine lv_icmp_ge (tgt := 16) hx hb dX4_isLetter_9 (by decide) (fun c_2 => ?_) (fun c_2 => ?_)
    · have hres := it_of hres c_2
      refine lv_iconst (v := (0 : Int32)) hx hb dX4_isLetter_16 (by decide) ?_
      have e9_0 := Option.some.inj hres
      subst e9_0
      rw [← hQQ]
      exact W.zret (v := (0 : Int32)) hx hb hr rfl (fun t ht hW => ⟨⟨(0 : Int32), (), rfl, rfl, by rw [ht]; exact hP, va_K.moved hW.alike hK, hD⟩, hS.F ht⟩) hS.2.2 dX4_isLetter_17
    · have hres := ie_of hres c_2
      refine lv_iconst (v := (1 : Int32)) hx hb dX4_isLetter_12 (by decide) ?_
      refine lv_goto (tgt := 17) hx hb dX4_isLetter_13 (by decide) ?_
      have e9_0 := Option.some.inj hres
      subst e9_0
      rw [← hQQ]
      exact W.zret (v := (1 : Int32)) hx hb hr rfl (fun t ht hW => ⟨⟨(1 : Int32), (), rfl, rfl, by rw [ht]; exact hP, va_K.moved hW.alike hK, hD⟩, hS.F ht⟩) hS.2.2 dX4_isLetter_17

-- Rd_putLetter
theorem kRd_putLetter_X4_putLetter_0 : Cond.fieldLink RX4 15 "RepeatNests$Reader" "letters" "[I" ∈ wsX4_putLetter := by decide +kernel
theorem iRd_putLetter_X4_putLetter_1 : ∀ w ∈ wsX40, w ∈ wsX4_putLetter := by decide +kernel
set_option maxHeartbeats 4000000 in
set_option maxRecDepth 100000 in
theorem cRd_putLetter (l : Launch) (dC : Nat → ClassId) (dI : Nat → Nat → Nat) (cI cJ cC cS : ClassId) (h_t h_t_signs h_t_letters : Nat) (sz : Nat) (t_length : Int32) (t_at : Int32) (t_size : Int32) (t_faultPlace : Int32) (t_faultReason : Int32) (t_lettersTold : Int32) (t_repeatsTold : Int32) (t_correctionsTold : Int32) (t_mostCorrections : Int32) (t_deepest : Int32) (t_fresh : Int32) (t_letters : Nat → Int32) (x1 : Int32) (x2 : Int32) (y_t_letters : Nat → Int32) (hres : fRd_putLetter t_letters x1 x2 = some y_t_letters) :
    Met l yX4_putLetter wsX4_putLetter ({ frames := 0, cells := 0, slots := 0, locals := 0 } : Room) (va_Pc [.ref h_t, .int x1, .int x2] (fun (U : State) => U.heap.size = sz ∧ va_P (dC, dI) vwCl [(h_t, .inr (3, [.ref h_t_signs, .ref h_t_letters, .int t_length, .int t_at, .int t_size, .int t_faultPlace, .int t_faultReason, .int t_lettersTold, .int t_repeatsTold, .int t_correctionsTold, .int t_mostCorrections, .int t_deepest, .int t_fresh])), (h_t_letters, .inl (cI, 744, .inl t_letters))] U.heap ∧ va_K (dC, dI) vwCl (tyA cI cJ cC cS) U ∧ nwN U ∧ va_D (fun _ => True) [(h_t, .inr (3, [.ref h_t_signs, .ref h_t_letters, .int t_length, .int t_at, .int t_size, .int t_faultPlace, .int t_faultReason, .int t_lettersTold, .int t_repeatsTold, .int t_correctionsTold, .int t_mostCorrections, .int t_deepest, .int t_fresh])), (h_t_letters, .inl (cI, 744, .inl t_letters))])) (va_Qv (fun (_ : Unit) => True) (fun (_ : Unit) (t : State) => va_P (dC, dI) vwCl [(h_t, .inr (3, [.ref h_t_signs, .ref h_t_letters, .int t_length, .int t_at, .int t_size, .int t_faultPlace, .int t_faultReason, .int t_lettersTold, .int t_repeatsTold, .int t_correctionsTold, .int t_mostCorrections, .int t_deepest, .int t_fresh])), (h_t_letters, .inl (cI, 744, .inl y_t_letters))] t.heap ∧ va_K (dC, dI) vwCl (tyA cI cJ cC cS) t ∧ va_D (va_A [(h_t, .inr (3, [.ref h_t_signs, .ref h_t_letters, .int t_length, .int t_at, .int t_size, .int t_faultPlace, .int t_faultReason, .int t_lettersTold, .int t_repeatsTold, .int t_correctionsTold, .int t_mostCorrections, .int t_deepest, .int t_fresh])), (h_t_letters, .inl (cI, 744, .inl t_letters))] sz) [(h_t, .inr (3, [.ref h_t_signs, .ref h_t_letters, .int t_length, .int t_at, .int t_size, .int t_faultPlace, .int t_faultReason, .int t_lettersTold, .int t_repeatsTold, .int t_correctionsTold, .int t_mostCorrections, .int t_deepest, .int t_fresh])), (h_t_letters, .inl (cI, 744, .inl y_t_letters))]) (va_A [(h_t, .inr (3, [.ref h_t_signs, .ref h_t_letters, .int t_length, .int t_at, .int t_size, .int t_faultPlace, .int t_faultReason, .int t_lettersTold, .int t_repeatsTold, .int t_correctionsTold, .int t_mostCorrections, .int t_deepest, .int t_fresh])), (h_t_letters, .inl (cI, 744, .inl t_letters))] sz)) 0 0 (va_A [(h_t, .inr (3, [.ref h_t_signs, .ref h_t_letters, .int t_length, .int t_at, .int t_size, .int t_faultPlace, .int t_faultReason, .int t_lettersTold, .int t_repeatsTold, .int t_correctionsTold, .int t_mostCorrections, .int t_deepest, .int t_fresh])), (h_t_letters, .inl (cI, 744, .inl t_letters))] sz) := by
  refine Met.ofW (cc := cX4_putLetter) (maxL := 3) (ret := none) (by decide) rfl ?_
  intro p e s m args below meth c s₁ B hml hv
  obtain ⟨hargs, hsz, hP, hK, hN, hD0⟩ := hv
  have hx := B.exec
  have hb := B.bytes
  have hr := B.returns
  have hts := atoms_spec (ws := wsX4_putLetter) B.pre
  have hown : s.vm.findClass RX4 = some m.cls := findClass_of_methodNamed B.named
  have hlocks := B.notSynchronized
  subst hsz
  have hD := hD0.self (sz := s.heap.size)
  generalize hAe : va_A [(h_t, .inr (3, [.ref h_t_signs, .ref h_t_letters, .int t_length, .int t_at, .int t_size, .int t_faultPlace, .int t_faultReason, .int t_lettersTold, .int t_repeatsTold, .int t_correctionsTold, .int t_mostCorrections, .int t_deepest, .int t_fresh])), (h_t_letters, .inl (cI, 744, .inl t_letters))] s.heap.size = A at hD ⊢
  have hA : ∀ q : Nat, s.heap.size ≤ q → A q := fun q h => by rw [← hAe]; exact Or.inr h
  have hS : va_S A s.heap s.heap [] := va_S.rf
  have hP : va_P (dC, dI) vwCl [(h_t, .inr (3, [.ref h_t_signs, .ref h_t_letters, .int t_length, .int t_at, .int t_size, .int t_faultPlace, .int t_faultReason, .int t_lettersTold, .int t_repeatsTold, .int t_correctionsTold, .int t_mostCorrections, .int t_deepest, .int t_fresh])), (h_t_letters, .inl (cI, 744, .inl t_letters))] s.heap := hP
  have hl := lv_entry [.ref h_t, .int x1, .int x2] (n := 3) (Nat.le_of_ble_eq_true rfl)
  rw [show entryFrame m args 3 = entryFrame m ([.ref h_t, .int x1, .int x2] : List Value).toArray 3 from by rw [hargs], lg_entry_eq]
  generalize (lg_sl [.ref h_t, .int x1, .int x2] ++ List.replicate (3 - (lg_sl [.ref h_t, .int x1, .int x2]).length) Slot.unset).toArray = ls at hl ⊢
  have hl : lv_has ls 3 [(0, .ref h_t), (1, .int x1), (2, .int x2)] := hl
  generalize hQQ : MQ below (va_Qv (fun (_ : Unit) => True) (fun (_ : Unit) (t : State) => va_P (dC, dI) vwCl [(h_t, .inr (3, [.ref h_t_signs, .ref h_t_letters, .int t_length, .int t_at, .int t_size, .int t_faultPlace, .int t_faultReason, .int t_lettersTold, .int t_repeatsTold, .int t_correctionsTold, .int t_mostCorrections, .int t_deepest, .int t_fresh])), (h_t_letters, .inl (cI, 744, .inl y_t_letters))] t.heap ∧ va_K (dC, dI) vwCl (tyA cI cJ cC cS) t ∧ va_D A [(h_t, .inr (3, [.ref h_t_signs, .ref h_t_letters, .int t_length, .int t_at, .int t_size, .int t_faultPlace, .int t_faultReason, .int t_lettersTold, .int t_repeatsTold, .int t_correctionsTold, .int t_mostCorrections, .int t_deepest, .int t_fresh])), (h_t_letters, .inl (cI, 744, .inl y_t_letters))]) A) args s 0 0 A = QQ
  obtain ⟨H, hH⟩ : ∃ H : Heap, H = s.heap := ⟨_, rfl⟩
  obtain ⟨locs, hlocs⟩ : ∃ locs : List Loc, locs = [] := ⟨_, rfl⟩
  rw [← hH] at hP
  have hS : va_S A s.heap H locs := by rw [hH, hlocs]; exact hS
  suffices hZ : W p l e (headSpec wsX4_putLetter ({ frames := 0, cells := 0, slots := 0, locals := 0 } : Room)).room s m args below meth c H locs 0 0 QQ (F0 m 0 ls []) by rw [hH, hlocs] at hZ; exact hZ
  clear hH hlocs
  rw [fRd_putLetter] at hres
  refine lv_iload_n hx hb dX4_putLetter_0 rfl (lv_at hl 1 rfl) ?_
  refine lv_if_lt (tgt := 20) hx hb dX4_putLetter_1 (by decide) (fun c_1 => ?_) (fun c_1 => ?_)
  · have hres := it_of hres c_1
    have e9_0 := Option.some.inj hres
    subst e9_0
    rw [← hQQ]
    exact W.vret hx hb hr (fun t ht hW => ⟨⟨(), rfl, trivial, by rw [ht]; exact hP, va_K.moved hW.alike hK, hD⟩, hS.F ht⟩) hS.2.2 dX4_putLetter_20
  · have hres := ie_of hres c_1
    refine lv_iload_n hx hb dX4_putLetter_4 rfl (lv_at hl 1 rfl) ?_
    refine lv_aload_n hx hb dX4_putLetter_5 rfl (lv_at hl 0 rfl) ?_
    refine va_get (D := (dC, dI)) (ci := 3) (v := .ref h_t_letters) (C := RX4) (T := TX4) (N := 13) hx hb hts iRd_putLetter_X4_putLetter_1 hown hK hP 0 rfl rfl 1 (by decide) (hts _ kRd_putLetter_X4_putLetter_0) (fun _ h9 => h9) rfl dX4_putLetter_6 ?_
    refine va_alen hx hb hK hP 1 0 rfl (ty := .int) rfl (v := (744 : Int32)) (by show Int32.ofNat 744 = (744 : Int32); decide) dX4_putLetter_9 ?_
    refine lv_icmp_ge (tgt := 20) hx hb dX4_putLetter_10 (by decide) (fun c_2 => ?_) (fun c_2 => ?_)
    · have hres := it_of hres c_2
      have e9_0 := Option.some.inj hres
      subst e9_0
      rw [← hQQ]
      exact W.vret hx hb hr (fun t ht hW => ⟨⟨(), rfl, trivial, by rw [ht]; exact hP, va_K.moved hW.alike hK, hD⟩, hS.F ht⟩) hS.2.2 dX4_putLetter_20
    · have hres := ie_of hres c_2
      refine lv_aload_n hx hb dX4_putLetter_13 rfl (lv_at hl 0 rfl) ?_
      refine va_get (D := (dC, dI)) (ci := 3) (v := .ref h_t_letters) (C := RX4) (T := TX4) (N := 13) hx hb hts iRd_putLetter_X4_putLetter_1 hown hK hP 0 rfl rfl 1 (by decide) (hts _ kRd_putLetter_X4_putLetter_0) (fun _ h9 => h9) rfl dX4_putLetter_14 ?_
      refine lv_iload_n hx hb dX4_putLetter_17 rfl (lv_at hl 1 rfl) ?_
      refine lv_iload_n hx hb dX4_putLetter_18 rfl (lv_at hl 2 rfl) ?_
      obtain ⟨c_3, hres⟩ := ck_of hres
      refine va_iast hx hb hK hP hD hS 1 0 rfl rfl c_3 dX4_putLetter_19 (fun H locs hP hD hS => ?_)
      have hP : va_P (dC, dI) vwCl [(h_t, .inr (3, [.ref h_t_signs, .ref h_t_letters, .int t_length, .int t_at, .int t_size, .int t_faultPlace, .int t_faultReason, .int t_lettersTold, .int t_repeatsTold, .int t_correctionsTold, .int t_mostCorrections, .int t_deepest, .int t_fresh])), (h_t_letters, .inl (cI, 744, .inl (wr t_letters x1 x2)))] H := hP
      have hD : va_D A [(h_t, .inr (3, [.ref h_t_signs, .ref h_t_letters, .int t_length, .int t_at, .int t_size, .int t_faultPlace, .int t_faultReason, .int t_lettersTold, .int t_repeatsTold, .int t_correctionsTold, .int t_mostCorrections, .int t_deepest, .int t_fresh])), (h_t_letters, .inl (cI, 744, .inl (wr t_letters x1 x2)))] := hD
      have e9_0 := Option.some.inj hres
      subst e9_0
      rw [← hQQ]
      exact W.vret hx hb hr (fun t ht hW => ⟨⟨(), rfl, trivial, by rw [ht]; exact hP, va_K.moved hW.alike hK, hD⟩, hS.F ht⟩) hS.2.2 dX4_putLetter_20

-- Rd_sign
theorem kRd_sign_X4_sign_0 : Cond.fieldLink RX4 22 "RepeatNests$Reader" "at" "I" ∈ wsX4_sign := by decide +kernel
theorem iRd_sign_X4_sign_1 : ∀ w ∈ wsX40, w ∈ wsX4_sign := by decide +kernel
theorem kRd_sign_X4_sign_2 : Cond.fieldLink RX4 18 "RepeatNests$Reader" "length" "I" ∈ wsX4_sign := by decide +kernel
theorem kRd_sign_X4_sign_3 : Cond.fieldLink RX4 9 "RepeatNests$Reader" "signs" "[I" ∈ wsX4_sign := by decide +kernel
set_option maxHeartbeats 4000000 in
set_option maxRecDepth 100000 in
theorem cRd_sign (l : Launch) (dC : Nat → ClassId) (dI : Nat → Nat → Nat) (cI cJ cC cS : ClassId) (h_t h_t_signs h_t_letters : Nat) (sz : Nat) (t_length : Int32) (t_at : Int32) (t_size : Int32) (t_faultPlace : Int32) (t_faultReason : Int32) (t_lettersTold : Int32) (t_repeatsTold : Int32) (t_correctionsTold : Int32) (t_mostCorrections : Int32) (t_deepest : Int32) (t_fresh : Int32) (t_signs : Nat → Int32) (r : Int32) (hres : fRd_sign t_length t_at t_signs = some r) :
    Met l yX4_sign wsX4_sign ({ frames := 0, cells := 0, slots := 0, locals := 0 } : Room) (va_Pc [.ref h_t] (fun (U : State) => U.heap.size = sz ∧ va_P (dC, dI) vwCl [(h_t, .inr (3, [.ref h_t_signs, .ref h_t_letters, .int t_length, .int t_at, .int t_size, .int t_faultPlace, .int t_faultReason, .int t_lettersTold, .int t_repeatsTold, .int t_correctionsTold, .int t_mostCorrections, .int t_deepest, .int t_fresh])), (h_t_signs, .inl (cI, 60, .inl t_signs))] U.heap ∧ va_K (dC, dI) vwCl (tyA cI cJ cC cS) U ∧ nwN U ∧ va_D (fun _ => True) [(h_t, .inr (3, [.ref h_t_signs, .ref h_t_letters, .int t_length, .int t_at, .int t_size, .int t_faultPlace, .int t_faultReason, .int t_lettersTold, .int t_repeatsTold, .int t_correctionsTold, .int t_mostCorrections, .int t_deepest, .int t_fresh])), (h_t_signs, .inl (cI, 60, .inl t_signs))])) (va_Qi (fun (r9 : Int32) (_ : Unit) => r9 = r) (fun (_ : Unit) (t : State) => va_P (dC, dI) vwCl [(h_t, .inr (3, [.ref h_t_signs, .ref h_t_letters, .int t_length, .int t_at, .int t_size, .int t_faultPlace, .int t_faultReason, .int t_lettersTold, .int t_repeatsTold, .int t_correctionsTold, .int t_mostCorrections, .int t_deepest, .int t_fresh])), (h_t_signs, .inl (cI, 60, .inl t_signs))] t.heap ∧ va_K (dC, dI) vwCl (tyA cI cJ cC cS) t ∧ va_D (va_A [(h_t, .inr (3, [.ref h_t_signs, .ref h_t_letters, .int t_length, .int t_at, .int t_size, .int t_faultPlace, .int t_faultReason, .int t_lettersTold, .int t_repeatsTold, .int t_correctionsTold, .int t_mostCorrections, .int t_deepest, .int t_fresh])), (h_t_signs, .inl (cI, 60, .inl t_signs))] sz) [(h_t, .inr (3, [.ref h_t_signs, .ref h_t_letters, .int t_length, .int t_at, .int t_size, .int t_faultPlace, .int t_faultReason, .int t_lettersTold, .int t_repeatsTold, .int t_correctionsTold, .int t_mostCorrections, .int t_deepest, .int t_fresh])), (h_t_signs, .inl (cI, 60, .inl t_signs))]) (va_A [(h_t, .inr (3, [.ref h_t_signs, .ref h_t_letters, .int t_length, .int t_at, .int t_size, .int t_faultPlace, .int t_faultReason, .int t_lettersTold, .int t_repeatsTold, .int t_correctionsTold, .int t_mostCorrections, .int t_deepest, .int t_fresh])), (h_t_signs, .inl (cI, 60, .inl t_signs))] sz)) 0 0 (va_A [(h_t, .inr (3, [.ref h_t_signs, .ref h_t_letters, .int t_length, .int t_at, .int t_size, .int t_faultPlace, .int t_faultReason, .int t_lettersTold, .int t_repeatsTold, .int t_correctionsTold, .int t_mostCorrections, .int t_deepest, .int t_fresh])), (h_t_signs, .inl (cI, 60, .inl t_signs))] sz) := by
  refine Met.ofW (cc := cX4_sign) (maxL := 1) (ret := (some .int)) (by decide) rfl ?_
  intro p e s m args below meth c s₁ B hml hv
  obtain ⟨hargs, hsz, hP, hK, hN, hD0⟩ := hv
  have hx := B.exec
  have hb := B.bytes
  have hr := B.returns
  have hts := atoms_spec (ws := wsX4_sign) B.pre
  have hown : s.vm.findClass RX4 = some m.cls := findClass_of_methodNamed B.named
  have hlocks := B.notSynchronized
  subst hsz
  have hD := hD0.self (sz := s.heap.size)
  generalize hAe : va_A [(h_t, .inr (3, [.ref h_t_signs, .ref h_t_letters, .int t_length, .int t_at, .int t_size, .int t_faultPlace, .int t_faultReason, .int t_lettersTold, .int t_repeatsTold, .int t_correctionsTold, .int t_mostCorrections, .int t_deepest, .int t_fresh])), (h_t_signs, .inl (cI, 60, .inl t_signs))] s.heap.size = A at hD ⊢
  have hA : ∀ q : Nat, s.heap.size ≤ q → A q := fun q h => by rw [← hAe]; exact Or.inr h
  have hS : va_S A s.heap s.heap [] := va_S.rf
  have hP : va_P (dC, dI) vwCl [(h_t, .inr (3, [.ref h_t_signs, .ref h_t_letters, .int t_length, .int t_at, .int t_size, .int t_faultPlace, .int t_faultReason, .int t_lettersTold, .int t_repeatsTold, .int t_correctionsTold, .int t_mostCorrections, .int t_deepest, .int t_fresh])), (h_t_signs, .inl (cI, 60, .inl t_signs))] s.heap := hP
  have hl := lv_entry [.ref h_t] (n := 1) (Nat.le_of_ble_eq_true rfl)
  rw [show entryFrame m args 1 = entryFrame m ([.ref h_t] : List Value).toArray 1 from by rw [hargs], lg_entry_eq]
  generalize (lg_sl [.ref h_t] ++ List.replicate (1 - (lg_sl [.ref h_t]).length) Slot.unset).toArray = ls at hl ⊢
  have hl : lv_has ls 1 [(0, .ref h_t)] := hl
  generalize hQQ : MQ below (va_Qi (fun (r9 : Int32) (_ : Unit) => r9 = r) (fun (_ : Unit) (t : State) => va_P (dC, dI) vwCl [(h_t, .inr (3, [.ref h_t_signs, .ref h_t_letters, .int t_length, .int t_at, .int t_size, .int t_faultPlace, .int t_faultReason, .int t_lettersTold, .int t_repeatsTold, .int t_correctionsTold, .int t_mostCorrections, .int t_deepest, .int t_fresh])), (h_t_signs, .inl (cI, 60, .inl t_signs))] t.heap ∧ va_K (dC, dI) vwCl (tyA cI cJ cC cS) t ∧ va_D A [(h_t, .inr (3, [.ref h_t_signs, .ref h_t_letters, .int t_length, .int t_at, .int t_size, .int t_faultPlace, .int t_faultReason, .int t_lettersTold, .int t_repeatsTold, .int t_correctionsTold, .int t_mostCorrections, .int t_deepest, .int t_fresh])), (h_t_signs, .inl (cI, 60, .inl t_signs))]) A) args s 0 0 A = QQ
  obtain ⟨H, hH⟩ : ∃ H : Heap, H = s.heap := ⟨_, rfl⟩
  obtain ⟨locs, hlocs⟩ : ∃ locs : List Loc, locs = [] := ⟨_, rfl⟩
  rw [← hH] at hP
  have hS : va_S A s.heap H locs := by rw [hH, hlocs]; exact hS
  suffices hZ : W p l e (headSpec wsX4_sign ({ frames := 0, cells := 0, slots := 0, locals := 0 } : Room)).room s m args below meth c H locs 0 0 QQ (F0 m 0 ls []) by rw [hH, hlocs] at hZ; exact hZ
  clear hH hlocs
  rw [fRd_sign] at hres
  refine lv_aload_n hx hb dX4_sign_0 rfl (lv_at hl 0 rfl) ?_
  refine va_get (D := (dC, dI)) (ci := 3) (v := .int t_at) (C := RX4) (T := TX4) (N := 13) hx hb hts iRd_sign_X4_sign_1 hown hK hP 0 rfl rfl 3 (by decide) (hts _ kRd_sign_X4_sign_0) (fun _ h9 => h9) rfl dX4_sign_1 ?_
  refine lv_if_lt (tgt := 39) hx hb dX4_sign_4 (by decide) (fun c_1 => ?_) (fun c_1 => ?_)
  · have hres := it_of hres c_1
    refine lv_iconst (v := (-1 : Int32)) hx hb dX4_sign_39 (by decide) ?_
    have e9_0 := Option.some.inj hres
    subst e9_0
    rw [← hQQ]
    exact W.iret (v := (-1 : Int32)) hx hb hr (fun t ht hW => ⟨⟨(-1 : Int32), (), rfl, rfl, by rw [ht]; exact hP, va_K.moved hW.alike hK, hD⟩, hS.F ht⟩) hS.2.2 dX4_sign_40
  · have hres := ie_of hres c_1
    refine lv_aload_n hx hb dX4_sign_7 rfl (lv_at hl 0 rfl) ?_
    refine va_get (D := (dC, dI)) (ci := 3) (v := .int t_at) (C := RX4) (T := TX4) (N := 13) hx hb hts iRd_sign_X4_sign_1 hown hK hP 0 rfl rfl 3 (by decide) (hts _ kRd_sign_X4_sign_0) (fun _ h9 => h9) rfl dX4_sign_8 ?_
    refine lv_aload_n hx hb dX4_sign_11 rfl (lv_at hl 0 rfl) ?_
    refine va_get (D := (dC, dI)) (ci := 3) (v := .int t_length) (C := RX4) (T := TX4) (N := 13) hx hb hts iRd_sign_X4_sign_1 hown hK hP 0 rfl rfl 2 (by decide) (hts _ kRd_sign_X4_sign_2) (fun _ h9 => h9) rfl dX4_sign_12 ?_
    refine lv_icmp_ge (tgt := 39) hx hb dX4_sign_15 (by decide) (fun c_2 => ?_) (fun c_2 => ?_)
    · have hres := it_of hres c_2
      refine lv_iconst (v := (-1 : Int32)) hx hb dX4_sign_39 (by decide) ?_
      have e9_0 := Option.some.inj hres
      subst e9_0
      rw [← hQQ]
      exact W.iret (v := (-1 : Int32)) hx hb hr (fun t ht hW => ⟨⟨(-1 : Int32), (), rfl, rfl, by rw [ht]; exact hP, va_K.moved hW.alike hK, hD⟩, hS.F ht⟩) hS.2.2 dX4_sign_40
    · have hres := ie_of hres c_2
      refine lv_aload_n hx hb dX4_sign_18 rfl (lv_at hl 0 rfl) ?_
      refine va_get (D := (dC, dI)) (ci := 3) (v := .int t_at) (C := RX4) (T := TX4) (N := 13) hx hb hts iRd_sign_X4_sign_1 hown hK hP 0 rfl rfl 3 (by decide) (hts _ kRd_sign_X4_sign_0) (fun _ h9 => h9) rfl dX4_sign_19 ?_
      refine lv_bipush (v := (60 : Int32)) hx hb dX4_sign_22 (by decide) ?_
      refine lv_icmp_ge (tgt := 39) hx hb dX4_sign_24 (by decide) (fun c_3 => ?_) (fun c_3 => ?_)
      · have hres := it_of hres c_3
        refine lv_iconst (v := (-1 : Int32)) hx hb dX4_sign_39 (by decide) ?_
        have e9_0 := Option.some.inj hres
        subst e9_0
        rw [← hQQ]
        exact W.iret (v := (-1 : Int32)) hx hb hr (fun t ht hW => ⟨⟨(-1 : Int32), (), rfl, rfl, by rw [ht]; exact hP, va_K.moved hW.alike hK, hD⟩, hS.F ht⟩) hS.2.2 dX4_sign_40
      · have hres := ie_of hres c_3
        refine lv_aload_n hx hb dX4_sign_27 rfl (lv_at hl 0 rfl) ?_
        refine va_get (D := (dC, dI)) (ci := 3) (v := .ref h_t_signs) (C := RX4) (T := TX4) (N := 13) hx hb hts iRd_sign_X4_sign_1 hown hK hP 0 rfl rfl 0 (by decide) (hts _ kRd_sign_X4_sign_3) (fun _ h9 => h9) rfl dX4_sign_28 ?_
        refine lv_aload_n hx hb dX4_sign_31 rfl (lv_at hl 0 rfl) ?_
        refine va_get (D := (dC, dI)) (ci := 3) (v := .int t_at) (C := RX4) (T := TX4) (N := 13) hx hb hts iRd_sign_X4_sign_1 hown hK hP 0 rfl rfl 3 (by decide) (hts _ kRd_sign_X4_sign_0) (fun _ h9 => h9) rfl dX4_sign_32 ?_
        obtain ⟨c_4, hres⟩ := ck_of hres
        refine va_iald hx hb hK hP 1 0 rfl rfl c_4 dX4_sign_35 ?_
        refine lv_goto (tgt := 40) hx hb dX4_sign_36 (by decide) ?_
        have e9_0 := Option.some.inj hres
        subst e9_0
        rw [← hQQ]
        exact W.iret (v := (rd t_signs t_at)) hx hb hr (fun t ht hW => ⟨⟨(rd t_signs t_at), (), rfl, rfl, by rw [ht]; exact hP, va_K.moved hW.alike hK, hD⟩, hS.F ht⟩) hS.2.2 dX4_sign_40

-- Rd_readLetter
theorem kRd_readLetter_X4_readLetter_0 : Cond.fieldLink RX4 25 "RepeatNests$Reader" "size" "I" ∈ wsX4_readLetter := by decide +kernel
theorem iRd_readLetter_X4_readLetter_1 : ∀ w ∈ wsX40, w ∈ wsX4_readLetter := by decide +kernel
theorem kRd_readLetter_X4_readLetter_2 : Cond.fieldLink RX4 34 "RepeatNests$Reader" "lettersTold" "I" ∈ wsX4_readLetter := by decide +kernel
theorem kRd_readLetter_X4_readLetter_3 : Cond.fieldLink RX4 22 "RepeatNests$Reader" "at" "I" ∈ wsX4_readLetter := by decide +kernel
set_option maxHeartbeats 4000000 in
set_option maxRecDepth 100000 in
theorem cRd_readLetter (l : Launch) (dC : Nat → ClassId) (dI : Nat → Nat → Nat) (cI cJ cC cS : ClassId) (h_t h_t_signs h_t_letters : Nat) (sz : Nat) (t_length : Int32) (t_at : Int32) (t_size : Int32) (t_faultPlace : Int32) (t_faultReason : Int32) (t_lettersTold : Int32) (t_repeatsTold : Int32) (t_correctionsTold : Int32) (t_mostCorrections : Int32) (t_deepest : Int32) (t_fresh : Int32) (t_letters : Nat → Int32) (t_signs : Nat → Int32) (x1 : Int32) (y_t_at : Int32) (y_t_size : Int32) (y_t_faultPlace : Int32) (y_t_faultReason : Int32) (y_t_lettersTold : Int32) (y_t_letters : Nat → Int32) (hres : fRd_readLetter t_length t_signs t_at t_size t_faultPlace t_faultReason t_lettersTold t_letters x1 = some (y_t_at, y_t_size, y_t_faultPlace, y_t_faultReason, y_t_lettersTold, y_t_letters)) :
    Met l yX4_readLetter wsX4_readLetter ({ frames := 1, cells := 0, slots := 0, locals := 22 } : Room) (va_Pc [.ref h_t, .int x1] (fun (U : State) => U.heap.size = sz ∧ va_P (dC, dI) vwCl [(h_t, .inr (3, [.ref h_t_signs, .ref h_t_letters, .int t_length, .int t_at, .int t_size, .int t_faultPlace, .int t_faultReason, .int t_lettersTold, .int t_repeatsTold, .int t_correctionsTold, .int t_mostCorrections, .int t_deepest, .int t_fresh])), (h_t_letters, .inl (cI, 744, .inl t_letters)), (h_t_signs, .inl (cI, 60, .inl t_signs))] U.heap ∧ va_K (dC, dI) vwCl (tyA cI cJ cC cS) U ∧ nwN U ∧ va_D (fun _ => True) [(h_t, .inr (3, [.ref h_t_signs, .ref h_t_letters, .int t_length, .int t_at, .int t_size, .int t_faultPlace, .int t_faultReason, .int t_lettersTold, .int t_repeatsTold, .int t_correctionsTold, .int t_mostCorrections, .int t_deepest, .int t_fresh])), (h_t_letters, .inl (cI, 744, .inl t_letters)), (h_t_signs, .inl (cI, 60, .inl t_signs))])) (va_Qv (fun (_ : Unit) => True) (fun (_ : Unit) (t : State) => va_P (dC, dI) vwCl [(h_t, .inr (3, [.ref h_t_signs, .ref h_t_letters, .int t_length, .int y_t_at, .int y_t_size, .int y_t_faultPlace, .int y_t_faultReason, .int y_t_lettersTold, .int t_repeatsTold, .int t_correctionsTold, .int t_mostCorrections, .int t_deepest, .int t_fresh])), (h_t_letters, .inl (cI, 744, .inl y_t_letters)), (h_t_signs, .inl (cI, 60, .inl t_signs))] t.heap ∧ va_K (dC, dI) vwCl (tyA cI cJ cC cS) t ∧ va_D (va_A [(h_t, .inr (3, [.ref h_t_signs, .ref h_t_letters, .int t_length, .int t_at, .int t_size, .int t_faultPlace, .int t_faultReason, .int t_lettersTold, .int t_repeatsTold, .int t_correctionsTold, .int t_mostCorrections, .int t_deepest, .int t_fresh])), (h_t_letters, .inl (cI, 744, .inl t_letters)), (h_t_signs, .inl (cI, 60, .inl t_signs))] sz) [(h_t, .inr (3, [.ref h_t_signs, .ref h_t_letters, .int t_length, .int y_t_at, .int y_t_size, .int y_t_faultPlace, .int y_t_faultReason, .int y_t_lettersTold, .int t_repeatsTold, .int t_correctionsTold, .int t_mostCorrections, .int t_deepest, .int t_fresh])), (h_t_letters, .inl (cI, 744, .inl y_t_letters)), (h_t_signs, .inl (cI, 60, .inl t_signs))]) (va_A [(h_t, .inr (3, [.ref h_t_signs, .ref h_t_letters, .int t_length, .int t_at, .int t_size, .int t_faultPlace, .int t_faultReason, .int t_lettersTold, .int t_repeatsTold, .int t_correctionsTold, .int t_mostCorrections, .int t_deepest, .int t_fresh])), (h_t_letters, .inl (cI, 744, .inl t_letters)), (h_t_signs, .inl (cI, 60, .inl t_signs))] sz)) 0 0 (va_A [(h_t, .inr (3, [.ref h_t_signs, .ref h_t_letters, .int t_length, .int t_at, .int t_size, .int t_faultPlace, .int t_faultReason, .int t_lettersTold, .int t_repeatsTold, .int t_correctionsTold, .int t_mostCorrections, .int t_deepest, .int t_fresh])), (h_t_letters, .inl (cI, 744, .inl t_letters)), (h_t_signs, .inl (cI, 60, .inl t_signs))] sz) := by
  refine Met.ofW (cc := cX4_readLetter) (maxL := 2) (ret := none) (by decide) rfl ?_
  intro p e s m args below meth c s₁ B hml hv
  obtain ⟨hargs, hsz, hP, hK, hN, hD0⟩ := hv
  have hx := B.exec
  have hb := B.bytes
  have hr := B.returns
  have hts := atoms_spec (ws := wsX4_readLetter) B.pre
  have hown : s.vm.findClass RX4 = some m.cls := findClass_of_methodNamed B.named
  have hlocks := B.notSynchronized
  subst hsz
  have hD := hD0.self (sz := s.heap.size)
  generalize hAe : va_A [(h_t, .inr (3, [.ref h_t_signs, .ref h_t_letters, .int t_length, .int t_at, .int t_size, .int t_faultPlace, .int t_faultReason, .int t_lettersTold, .int t_repeatsTold, .int t_correctionsTold, .int t_mostCorrections, .int t_deepest, .int t_fresh])), (h_t_letters, .inl (cI, 744, .inl t_letters)), (h_t_signs, .inl (cI, 60, .inl t_signs))] s.heap.size = A at hD ⊢
  have hA : ∀ q : Nat, s.heap.size ≤ q → A q := fun q h => by rw [← hAe]; exact Or.inr h
  have hS : va_S A s.heap s.heap [] := va_S.rf
  have hP : va_P (dC, dI) vwCl [(h_t, .inr (3, [.ref h_t_signs, .ref h_t_letters, .int t_length, .int t_at, .int t_size, .int t_faultPlace, .int t_faultReason, .int t_lettersTold, .int t_repeatsTold, .int t_correctionsTold, .int t_mostCorrections, .int t_deepest, .int t_fresh])), (h_t_letters, .inl (cI, 744, .inl t_letters)), (h_t_signs, .inl (cI, 60, .inl t_signs))] s.heap := hP
  have hl := lv_entry [.ref h_t, .int x1] (n := 2) (Nat.le_of_ble_eq_true rfl)
  rw [show entryFrame m args 2 = entryFrame m ([.ref h_t, .int x1] : List Value).toArray 2 from by rw [hargs], lg_entry_eq]
  generalize (lg_sl [.ref h_t, .int x1] ++ List.replicate (2 - (lg_sl [.ref h_t, .int x1]).length) Slot.unset).toArray = ls at hl ⊢
  have hl : lv_has ls 2 [(0, .ref h_t), (1, .int x1)] := hl
  generalize hQQ : MQ below (va_Qv (fun (_ : Unit) => True) (fun (_ : Unit) (t : State) => va_P (dC, dI) vwCl [(h_t, .inr (3, [.ref h_t_signs, .ref h_t_letters, .int t_length, .int y_t_at, .int y_t_size, .int y_t_faultPlace, .int y_t_faultReason, .int y_t_lettersTold, .int t_repeatsTold, .int t_correctionsTold, .int t_mostCorrections, .int t_deepest, .int t_fresh])), (h_t_letters, .inl (cI, 744, .inl y_t_letters)), (h_t_signs, .inl (cI, 60, .inl t_signs))] t.heap ∧ va_K (dC, dI) vwCl (tyA cI cJ cC cS) t ∧ va_D A [(h_t, .inr (3, [.ref h_t_signs, .ref h_t_letters, .int t_length, .int y_t_at, .int y_t_size, .int y_t_faultPlace, .int y_t_faultReason, .int y_t_lettersTold, .int t_repeatsTold, .int t_correctionsTold, .int t_mostCorrections, .int t_deepest, .int t_fresh])), (h_t_letters, .inl (cI, 744, .inl y_t_letters)), (h_t_signs, .inl (cI, 60, .inl t_signs))]) A) args s 0 0 A = QQ
  obtain ⟨H, hH⟩ : ∃ H : Heap, H = s.heap := ⟨_, rfl⟩
  obtain ⟨locs, hlocs⟩ : ∃ locs : List Loc, locs = [] := ⟨_, rfl⟩
  rw [← hH] at hP
  have hS : va_S A s.heap H locs := by rw [hH, hlocs]; exact hS
  suffices hZ : W p l e (headSpec wsX4_readLetter ({ frames := 1, cells := 0, slots := 0, locals := 22 } : Room)).room s m args below meth c H locs 0 0 QQ (F0 m 0 ls []) by rw [hH, hlocs] at hZ; exact hZ
  clear hH hlocs
  rw [fRd_readLetter] at hres
  refine lv_aload_n hx hb dX4_readLetter_0 rfl (lv_at hl 0 rfl) ?_
  refine va_get (D := (dC, dI)) (ci := 3) (v := .int t_size) (C := RX4) (T := TX4) (N := 13) hx hb hts iRd_readLetter_X4_readLetter_1 hown hK hP 0 rfl rfl 4 (by decide) (hts _ kRd_readLetter_X4_readLetter_0) (fun _ h9 => h9) rfl dX4_readLetter_1 ?_
  refine lv_iload_n hx hb dX4_readLetter_4 rfl (lv_at hl 1 rfl) ?_
  refine lv_isub hx hb dX4_readLetter_5 ?_
  refine lv_bipush (v := (24 : Int32)) hx hb dX4_readLetter_6 (by decide) ?_
  refine lv_icmp_lt (tgt := 21) hx hb dX4_readLetter_8 (by decide) (fun c_1 => ?_) (fun c_1 => ?_)
  · have hres := it_of hres c_1
    refine lv_aload_n hx hb dX4_readLetter_21 rfl (lv_at hl 0 rfl) ?_
    refine lv_aload_n hx hb dX4_readLetter_22 rfl (lv_at hl 0 rfl) ?_
    refine va_get (D := (dC, dI)) (ci := 3) (v := .int t_size) (C := RX4) (T := TX4) (N := 13) hx hb hts iRd_readLetter_X4_readLetter_1 hown hK hP 0 rfl rfl 4 (by decide) (hts _ kRd_readLetter_X4_readLetter_0) (fun _ h9 => h9) rfl dX4_readLetter_23 ?_
    refine lv_aload_n hx hb dX4_readLetter_26 rfl (lv_at hl 0 rfl) ?_
    obtain ⟨o2, ho2, hres⟩ := bd_of hres
    have hPc := hP.sub (ws' := [(h_t, .inr (3, [.ref h_t_signs, .ref h_t_letters, .int t_length, .int t_at, .int t_size, .int t_faultPlace, .int t_faultReason, .int t_lettersTold, .int t_repeatsTold, .int t_correctionsTold, .int t_mostCorrections, .int t_deepest, .int t_fresh])), (h_t_signs, .inl (cI, 60, .inl t_signs))]) [0, 2] rfl
    have hDc := hD.sub (ws' := [(h_t, .inr (3, [.ref h_t_signs, .ref h_t_letters, .int t_length, .int t_at, .int t_size, .int t_faultPlace, .int t_faultReason, .int t_lettersTold, .int t_repeatsTold, .int t_correctionsTold, .int t_mostCorrections, .int t_deepest, .int t_fresh])), (h_t_signs, .inl (cI, 60, .inl t_signs))]) [0, 2] (by decide) rfl
    have hFc := va_free (wc := [(h_t, .inr (3, [.ref h_t_signs, .ref h_t_letters, .int t_length, .int t_at, .int t_size, .int t_faultPlace, .int t_faultReason, .int t_lettersTold, .int t_repeatsTold, .int t_correctionsTold, .int t_mostCorrections, .int t_deepest, .int t_fresh])), (h_t_signs, .inl (cI, 60, .inl t_signs))]) hD hS hA [0, 2] rfl
    refine va_calli (va_runV (As := []) (rest := [.int t_size, .ref h_t]) ⟨hx, hb, hml, hown, hts⟩ (cRd_sign l dC dI cI cJ cC cS h_t h_t_signs h_t_letters H.size t_length t_at t_size t_faultPlace t_faultReason t_lettersTold t_repeatsTold t_correctionsTold t_mostCorrections t_deepest t_fresh t_signs o2 ho2) (cwV 0 hts gX4_readLetter_X4_sign rfl rfl rfl (by decide +kernel) ⟨Nat.le_of_ble_eq_true rfl, Nat.le_of_ble_eq_true rfl⟩) ⟨fun a U g mk q => by obtain ⟨q0, q1, qP, qK, qN, qD⟩ := q; exact ⟨q0, q1, qP, va_K.moved (u := U) (U := U.calling g mk a) (Vm.Alike.refl U.vm) qK, nwS (u := U) (U := U.calling g mk a) rfl qN, qD⟩, va_recv hK hPc (ci := 3) (q0 := 0) rfl rfl, fun U hU hW => ⟨rfl, by rw [hU], by rw [hU]; exact hPc, va_K.moved hW.alike hK, nwW hW hN, hDc.weaken (fun _ _ _ _ => trivial)⟩⟩ rfl rfl hl.1 rfl (lv_room (Nat.le_of_ble_eq_true rfl)) dX4_readLetter_27 ⟨Nat.zero_le _, Nat.zero_le _⟩) hS (fun q _ h => hFc q h) hFc (fun r9 u9 t H1 locs ht hvm hw hB hz1 hk1 hS => ?_)
    have hw := hw.symm
    subst hw
    obtain ⟨hP1, hK1, hD1⟩ := hB
    rw [ht] at hP1
    obtain ⟨hP, hD⟩ := va_join (wr := [(h_t_letters, .inl (cI, 744, .inl t_letters))]) (w1 := [(h_t, .inr (3, [.ref h_t_signs, .ref h_t_letters, .int t_length, .int t_at, .int t_size, .int t_faultPlace, .int t_faultReason, .int t_lettersTold, .int t_repeatsTold, .int t_correctionsTold, .int t_mostCorrections, .int t_deepest, .int t_fresh])), (h_t_signs, .inl (cI, 60, .inl t_signs))]) hP hD [0, 2] [1] rfl rfl (by decide) (by decide) hk1 hFc hP1 hD1
    generalize H1 = H at hP hS ⊢
    have hP : va_P (dC, dI) vwCl [(h_t_letters, .inl (cI, 744, .inl t_letters)), (h_t, .inr (3, [.ref h_t_signs, .ref h_t_letters, .int t_length, .int t_at, .int t_size, .int t_faultPlace, .int t_faultReason, .int t_lettersTold, .int t_repeatsTold, .int t_correctionsTold, .int t_mostCorrections, .int t_deepest, .int t_fresh])), (h_t_signs, .inl (cI, 60, .inl t_signs))] H := hP
    have hD : va_D A [(h_t_letters, .inl (cI, 744, .inl t_letters)), (h_t, .inr (3, [.ref h_t_signs, .ref h_t_letters, .int t_length, .int t_at, .int t_size, .int t_faultPlace, .int t_faultReason, .int t_lettersTold, .int t_repeatsTold, .int t_correctionsTold, .int t_mostCorrections, .int t_deepest, .int t_fresh])), (h_t_signs, .inl (cI, 60, .inl t_signs))] := hD
    refine lv_bipush (v := (97 : Int32)) hx hb dX4_readLetter_30 (by decide) ?_
    refine lv_isub hx hb dX4_readLetter_32 ?_
    obtain ⟨o3, ho3, hres⟩ := bd_of hres
    have hPc := hP.sub (ws' := [(h_t, .inr (3, [.ref h_t_signs, .ref h_t_letters, .int t_length, .int t_at, .int t_size, .int t_faultPlace, .int t_faultReason, .int t_lettersTold, .int t_repeatsTold, .int t_correctionsTold, .int t_mostCorrections, .int t_deepest, .int t_fresh])), (h_t_letters, .inl (cI, 744, .inl t_letters))]) [1, 0] rfl
    have hDc := hD.sub (ws' := [(h_t, .inr (3, [.ref h_t_signs, .ref h_t_letters, .int t_length, .int t_at, .int t_size, .int t_faultPlace, .int t_faultReason, .int t_lettersTold, .int t_repeatsTold, .int t_correctionsTold, .int t_mostCorrections, .int t_deepest, .int t_fresh])), (h_t_letters, .inl (cI, 744, .inl t_letters))]) [1, 0] (by decide) rfl
    have hFc := va_free (wc := [(h_t, .inr (3, [.ref h_t_signs, .ref h_t_letters, .int t_length, .int t_at, .int t_size, .int t_faultPlace, .int t_faultReason, .int t_lettersTold, .int t_repeatsTold, .int t_correctionsTold, .int t_mostCorrections, .int t_deepest, .int t_fresh])), (h_t_letters, .inl (cI, 744, .inl t_letters))]) hD hS hA [1, 0] rfl
    refine va_callv (va_runV (As := [.int t_size, .int (o2 - (97 : Int32))]) (rest := []) ⟨hx, hb, hml, hown, hts⟩ (cRd_putLetter l dC dI cI cJ cC cS h_t h_t_signs h_t_letters H.size t_length t_at t_size t_faultPlace t_faultReason t_lettersTold t_repeatsTold t_correctionsTold t_mostCorrections t_deepest t_fresh t_letters t_size (o2 - (97 : Int32)) o3 ho3) (cwV 2 hts gX4_readLetter_X4_putLetter rfl rfl rfl (by decide +kernel) ⟨Nat.le_of_ble_eq_true rfl, Nat.le_of_ble_eq_true rfl⟩) ⟨fun a U g mk q => by obtain ⟨q0, q1, qP, qK, qN, qD⟩ := q; exact ⟨q0, q1, qP, va_K.moved (u := U) (U := U.calling g mk a) (Vm.Alike.refl U.vm) qK, nwS (u := U) (U := U.calling g mk a) rfl qN, qD⟩, va_recv hK hPc (ci := 3) (q0 := 0) rfl rfl, fun U hU hW => ⟨rfl, by rw [hU], by rw [hU]; exact hPc, va_K.moved hW.alike hK, nwW hW hN, hDc.weaken (fun _ _ _ _ => trivial)⟩⟩ rfl rfl hl.1 rfl (lv_room (Nat.le_of_ble_eq_true rfl)) dX4_readLetter_33 ⟨Nat.zero_le _, Nat.zero_le _⟩) hS (fun q _ h => hFc q h) hFc (fun u9 t H1 locs ht hvm hw hB hz1 hk1 hS => ?_)
    obtain ⟨hP1, hK1, hD1⟩ := hB
    rw [ht] at hP1
    obtain ⟨hP, hD⟩ := va_join (wr := [(h_t_signs, .inl (cI, 60, .inl t_signs))]) (w1 := [(h_t, .inr (3, [.ref h_t_signs, .ref h_t_letters, .int t_length, .int t_at, .int t_size, .int t_faultPlace, .int t_faultReason, .int t_lettersTold, .int t_repeatsTold, .int t_correctionsTold, .int t_mostCorrections, .int t_deepest, .int t_fresh])), (h_t_letters, .inl (cI, 744, .inl o3))]) hP hD [1, 0] [2] rfl rfl (by decide) (by decide) hk1 hFc hP1 hD1
    generalize H1 = H at hP hS ⊢
    have hP : va_P (dC, dI) vwCl [(h_t_signs, .inl (cI, 60, .inl t_signs)), (h_t, .inr (3, [.ref h_t_signs, .ref h_t_letters, .int t_length, .int t_at, .int t_size, .int t_faultPlace, .int t_faultReason, .int t_lettersTold, .int t_repeatsTold, .int t_correctionsTold, .int t_mostCorrections, .int t_deepest, .int t_fresh])), (h_t_letters, .inl (cI, 744, .inl o3))] H := hP
    have hD : va_D A [(h_t_signs, .inl (cI, 60, .inl t_signs)), (h_t, .inr (3, [.ref h_t_signs, .ref h_t_letters, .int t_length, .int t_at, .int t_size, .int t_faultPlace, .int t_faultReason, .int t_lettersTold, .int t_repeatsTold, .int t_correctionsTold, .int t_mostCorrections, .int t_deepest, .int t_fresh])), (h_t_letters, .inl (cI, 744, .inl o3))] := hD
    refine lv_aload_n hx hb dX4_readLetter_36 rfl (lv_at hl 0 rfl) ?_
    refine lv_dup hx hb dX4_readLetter_37 rfl ?_
    refine va_get (D := (dC, dI)) (ci := 3) (v := .int t_size) (C := RX4) (T := TX4) (N := 13) hx hb hts iRd_readLetter_X4_readLetter_1 hown hK hP 1 rfl rfl 4 (by decide) (hts _ kRd_readLetter_X4_readLetter_0) (fun _ h9 => h9) rfl dX4_readLetter_38 ?_
    refine lv_iconst (v := (1 : Int32)) hx hb dX4_readLetter_41 (by decide) ?_
    refine lv_iadd hx hb dX4_readLetter_42 ?_
    refine va_put (D := (dC, dI)) (ci := 3) (v := .int (t_size + (1 : Int32))) (ty := .int) (C := RX4) (T := TX4) (N := 13) hx hb hts iRd_readLetter_X4_readLetter_1 tyX4 tyX4_ok nmX4 hown hK hP hD hS 1 rfl rfl 4 (by decide) (hts _ kRd_readLetter_X4_readLetter_0) (fun _ h9 => h9) rfl (by decide +kernel) rfl rfl (Nat.le_of_ble_eq_true rfl) dX4_readLetter_43 (fun H locs hP hD hS => ?_)
    have hP : va_P (dC, dI) vwCl [(h_t_signs, .inl (cI, 60, .inl t_signs)), (h_t, .inr (3, [.ref h_t_signs, .ref h_t_letters, .int t_length, .int t_at, .int (t_size + (1 : Int32)), .int t_faultPlace, .int t_faultReason, .int t_lettersTold, .int t_repeatsTold, .int t_correctionsTold, .int t_mostCorrections, .int t_deepest, .int t_fresh])), (h_t_letters, .inl (cI, 744, .inl o3))] H := hP
    have hD : va_D A [(h_t_signs, .inl (cI, 60, .inl t_signs)), (h_t, .inr (3, [.ref h_t_signs, .ref h_t_letters, .int t_length, .int t_at, .int (t_size + (1 : Int32)), .int t_faultPlace, .int t_faultReason, .int t_lettersTold, .int t_repeatsTold, .int t_correctionsTold, .int t_mostCorrections, .int t_deepest, .int t_fresh])), (h_t_letters, .inl (cI, 744, .inl o3))] := hD
    refine lv_aload_n hx hb dX4_readLetter_46 rfl (lv_at hl 0 rfl) ?_
    refine lv_dup hx hb dX4_readLetter_47 rfl ?_
    refine va_get (D := (dC, dI)) (ci := 3) (v := .int t_lettersTold) (C := RX4) (T := TX4) (N := 13) hx hb hts iRd_readLetter_X4_readLetter_1 hown hK hP 1 rfl rfl 7 (by decide) (hts _ kRd_readLetter_X4_readLetter_2) (fun _ h9 => h9) rfl dX4_readLetter_48 ?_
    refine lv_iconst (v := (1 : Int32)) hx hb dX4_readLetter_51 (by decide) ?_
    refine lv_iadd hx hb dX4_readLetter_52 ?_
    refine va_put (D := (dC, dI)) (ci := 3) (v := .int (t_lettersTold + (1 : Int32))) (ty := .int) (C := RX4) (T := TX4) (N := 13) hx hb hts iRd_readLetter_X4_readLetter_1 tyX4 tyX4_ok nmX4 hown hK hP hD hS 1 rfl rfl 7 (by decide) (hts _ kRd_readLetter_X4_readLetter_2) (fun _ h9 => h9) rfl (by decide +kernel) rfl rfl (Nat.le_of_ble_eq_true rfl) dX4_readLetter_53 (fun H locs hP hD hS => ?_)
    have hP : va_P (dC, dI) vwCl [(h_t_signs, .inl (cI, 60, .inl t_signs)), (h_t, .inr (3, [.ref h_t_signs, .ref h_t_letters, .int t_length, .int t_at, .int (t_size + (1 : Int32)), .int t_faultPlace, .int t_faultReason, .int (t_lettersTold + (1 : Int32)), .int t_repeatsTold, .int t_correctionsTold, .int t_mostCorrections, .int t_deepest, .int t_fresh])), (h_t_letters, .inl (cI, 744, .inl o3))] H := hP
    have hD : va_D A [(h_t_signs, .inl (cI, 60, .inl t_signs)), (h_t, .inr (3, [.ref h_t_signs, .ref h_t_letters, .int t_length, .int t_at, .int (t_size + (1 : Int32)), .int t_faultPlace, .int t_faultReason, .int (t_lettersTold + (1 : Int32)), .int t_repeatsTold, .int t_correctionsTold, .int t_mostCorrections, .int t_deepest, .int t_fresh])), (h_t_letters, .inl (cI, 744, .inl o3))] := hD
    refine lv_aload_n hx hb dX4_readLetter_56 rfl (lv_at hl 0 rfl) ?_
    refine lv_dup hx hb dX4_readLetter_57 rfl ?_
    refine va_get (D := (dC, dI)) (ci := 3) (v := .int t_at) (C := RX4) (T := TX4) (N := 13) hx hb hts iRd_readLetter_X4_readLetter_1 hown hK hP 1 rfl rfl 3 (by decide) (hts _ kRd_readLetter_X4_readLetter_3) (fun _ h9 => h9) rfl dX4_readLetter_58 ?_
    refine lv_iconst (v := (1 : Int32)) hx hb dX4_readLetter_61 (by decide) ?_
    refine lv_iadd hx hb dX4_readLetter_62 ?_
    refine va_put (D := (dC, dI)) (ci := 3) (v := .int (t_at + (1 : Int32))) (ty := .int) (C := RX4) (T := TX4) (N := 13) hx hb hts iRd_readLetter_X4_readLetter_1 tyX4 tyX4_ok nmX4 hown hK hP hD hS 1 rfl rfl 3 (by decide) (hts _ kRd_readLetter_X4_readLetter_3) (fun _ h9 => h9) rfl (by decide +kernel) rfl rfl (Nat.le_of_ble_eq_true rfl) dX4_readLetter_63 (fun H locs hP hD hS => ?_)
    have hP : va_P (dC, dI) vwCl [(h_t_signs, .inl (cI, 60, .inl t_signs)), (h_t, .inr (3, [.ref h_t_signs, .ref h_t_letters, .int t_length, .int (t_at + (1 : Int32)), .int (t_size + (1 : Int32)), .int t_faultPlace, .int t_faultReason, .int (t_lettersTold + (1 : Int32)), .int t_repeatsTold, .int t_correctionsTold, .int t_mostCorrections, .int t_deepest, .int t_fresh])), (h_t_letters, .inl (cI, 744, .inl o3))] H := hP
    have hD : va_D A [(h_t_signs, .inl (cI, 60, .inl t_signs)), (h_t, .inr (3, [.ref h_t_signs, .ref h_t_letters, .int t_length, .int (t_at + (1 : Int32)), .int (t_size + (1 : Int32)), .int t_faultPlace, .int t_faultReason, .int (t_lettersTold + (1 : Int32)), .int t_repeatsTold, .int t_correctionsTold, .int t_mostCorrections, .int t_deepest, .int t_fresh])), (h_t_letters, .inl (cI, 744, .inl o3))] := hD
    obtain ⟨e9_0, e9_1, e9_2, e9_3, e9_4, e9_5⟩ := tup6 hres
    subst e9_0
    subst e9_1
    subst e9_2
    subst e9_3
    subst e9_4
    subst e9_5
    rw [← hQQ]
    exact W.vret hx hb hr (fun t ht hW => ⟨⟨(), rfl, trivial, by rw [ht]; exact hP.sub [1, 2, 0] rfl, va_K.moved hW.alike hK, hD.sub [1, 2, 0] (by decide) rfl⟩, hS.F ht⟩) hS.2.2 dX4_readLetter_66
  · have hres := ie_of hres c_1
    refine lv_aload_n hx hb dX4_readLetter_11 rfl (lv_at hl 0 rfl) ?_
    refine lv_aload_n hx hb dX4_readLetter_12 rfl (lv_at hl 0 rfl) ?_
    refine va_get (D := (dC, dI)) (ci := 3) (v := .int t_at) (C := RX4) (T := TX4) (N := 13) hx hb hts iRd_readLetter_X4_readLetter_1 hown hK hP 0 rfl rfl 3 (by decide) (hts _ kRd_readLetter_X4_readLetter_3) (fun _ h9 => h9) rfl dX4_readLetter_13 ?_
    refine lv_iconst (v := (4 : Int32)) hx hb dX4_readLetter_16 (by decide) ?_
    obtain ⟨o4, ho4, hres⟩ := bd_of hres
    have hPc := hP.sub (ws' := [(h_t, .inr (3, [.ref h_t_signs, .ref h_t_letters, .int t_length, .int t_at, .int t_size, .int t_faultPlace, .int t_faultReason, .int t_lettersTold, .int t_repeatsTold, .int t_correctionsTold, .int t_mostCorrections, .int t_deepest, .int t_fresh]))]) [0] rfl
    have hDc := hD.sub (ws' := [(h_t, .inr (3, [.ref h_t_signs, .ref h_t_letters, .int t_length, .int t_at, .int t_size, .int t_faultPlace, .int t_faultReason, .int t_lettersTold, .int t_repeatsTold, .int t_correctionsTold, .int t_mostCorrections, .int t_deepest, .int t_fresh]))]) [0] (by decide) rfl
    have hFc := va_free (wc := [(h_t, .inr (3, [.ref h_t_signs, .ref h_t_letters, .int t_length, .int t_at, .int t_size, .int t_faultPlace, .int t_faultReason, .int t_lettersTold, .int t_repeatsTold, .int t_correctionsTold, .int t_mostCorrections, .int t_deepest, .int t_fresh]))]) hD hS hA [0] rfl
    refine va_callv (va_runV (As := [.int t_at, .int (4 : Int32)]) (rest := []) ⟨hx, hb, hml, hown, hts⟩ (cRd_blame l dC dI cI cJ cC cS h_t h_t_signs h_t_letters H.size t_length t_at t_size t_faultPlace t_faultReason t_lettersTold t_repeatsTold t_correctionsTold t_mostCorrections t_deepest t_fresh t_at (4 : Int32) o4.1 o4.2 ho4) (cwV 2 hts gX4_readLetter_X4_blame rfl rfl rfl (by decide +kernel) ⟨Nat.le_of_ble_eq_true rfl, Nat.le_of_ble_eq_true rfl⟩) ⟨fun a U g mk q => by obtain ⟨q0, q1, qP, qK, qN, qD⟩ := q; exact ⟨q0, q1, qP, va_K.moved (u := U) (U := U.calling g mk a) (Vm.Alike.refl U.vm) qK, nwS (u := U) (U := U.calling g mk a) rfl qN, qD⟩, va_recv hK hPc (ci := 3) (q0 := 0) rfl rfl, fun U hU hW => ⟨rfl, by rw [hU], by rw [hU]; exact hPc, va_K.moved hW.alike hK, nwW hW hN, hDc.weaken (fun _ _ _ _ => trivial)⟩⟩ rfl rfl hl.1 rfl (lv_room (Nat.le_of_ble_eq_true rfl)) dX4_readLetter_17 ⟨Nat.zero_le _, Nat.zero_le _⟩) hS (fun q _ h => hFc q h) hFc (fun u9 t H1 locs ht hvm hw hB hz1 hk1 hS => ?_)
    obtain ⟨hP1, hK1, hD1⟩ := hB
    rw [ht] at hP1
    obtain ⟨hP, hD⟩ := va_join (wr := [(h_t_letters, .inl (cI, 744, .inl t_letters)), (h_t_signs, .inl (cI, 60, .inl t_signs))]) (w1 := [(h_t, .inr (3, [.ref h_t_signs, .ref h_t_letters, .int t_length, .int t_at, .int t_size, .int o4.1, .int o4.2, .int t_lettersTold, .int t_repeatsTold, .int t_correctionsTold, .int t_mostCorrections, .int t_deepest, .int t_fresh]))]) hP hD [0] [1, 2] rfl rfl (by decide) (by decide) hk1 hFc hP1 hD1
    generalize H1 = H at hP hS ⊢
    have hP : va_P (dC, dI) vwCl [(h_t_letters, .inl (cI, 744, .inl t_letters)), (h_t_signs, .inl (cI, 60, .inl t_signs)), (h_t, .inr (3, [.ref h_t_signs, .ref h_t_letters, .int t_length, .int t_at, .int t_size, .int o4.1, .int o4.2, .int t_lettersTold, .int t_repeatsTold, .int t_correctionsTold, .int t_mostCorrections, .int t_deepest, .int t_fresh]))] H := hP
    have hD : va_D A [(h_t_letters, .inl (cI, 744, .inl t_letters)), (h_t_signs, .inl (cI, 60, .inl t_signs)), (h_t, .inr (3, [.ref h_t_signs, .ref h_t_letters, .int t_length, .int t_at, .int t_size, .int o4.1, .int o4.2, .int t_lettersTold, .int t_repeatsTold, .int t_correctionsTold, .int t_mostCorrections, .int t_deepest, .int t_fresh]))] := hD
    obtain ⟨e9_0, e9_1, e9_2, e9_3, e9_4, e9_5⟩ := tup6 hres
    subst e9_0
    subst e9_1
    subst e9_2
    subst e9_3
    subst e9_4
    subst e9_5
    rw [← hQQ]
    exact W.vret hx hb hr (fun t ht hW => ⟨⟨(), rfl, trivial, by rw [ht]; exact hP.sub [2, 0, 1] rfl, va_K.moved hW.alike hK, hD.sub [2, 0, 1] (by decide) rfl⟩, hS.F ht⟩) hS.2.2 dX4_readLetter_20

-- Rd_isDigit
set_option maxHeartbeats 4000000 in
set_option maxRecDepth 100000 in
theorem cRd_isDigit (l : Launch) (dC : Nat → ClassId) (dI : Nat → Nat → Nat) (cI cJ cC cS : ClassId) (sz : Nat) (x0 : Int32) (r : Int32) (hres : fRd_isDigit x0 = some r) :
    Met l yX4_isDigit wsX4_isDigit ({ frames := 0, cells := 0, slots := 0, locals := 0 } : Room) (va_Pc [.int x0] (fun (U : State) => U.heap.size = sz ∧ va_P (dC, dI) vwCl [] U.heap ∧ va_K (dC, dI) vwCl (tyA cI cJ cC cS) U ∧ nwN U ∧ va_D (fun _ => True) [])) (va_Qi (fun (r9 : Int32) (_ : Unit) => r9 = r) (fun (_ : Unit) (t : State) => va_P (dC, dI) vwCl [] t.heap ∧ va_K (dC, dI) vwCl (tyA cI cJ cC cS) t ∧ va_D (va_A [] sz) []) (va_A [] sz)) 0 0 (va_A [] sz) := by
  refine Met.ofW (cc := cX4_isDigit) (maxL := 1) (ret := (some .boolean)) (by decide) rfl ?_
  intro p e s m args below meth c s₁ B hml hv
  obtain ⟨hargs, hsz, hP, hK, hN, hD0⟩ := hv
  have hx := B.exec
  have hb := B.bytes
  have hr := B.returns
  have hts := atoms_spec (ws := wsX4_isDigit) B.pre
  have hown : s.vm.findClass RX4 = some m.cls := findClass_of_methodNamed B.named
  have hlocks := B.notSynchronized
  subst hsz
  have hD := hD0.self (sz := s.heap.size)
  generalize hAe : va_A [] s.heap.size = A at hD ⊢
  have hA : ∀ q : Nat, s.heap.size ≤ q → A q := fun q h => by rw [← hAe]; exact Or.inr h
  have hS : va_S A s.heap s.heap [] := va_S.rf
  have hP : va_P (dC, dI) vwCl [] s.heap := hP
  have hl := lv_entry [.int x0] (n := 1) (Nat.le_of_ble_eq_true rfl)
  rw [show entryFrame m args 1 = entryFrame m ([.int x0] : List Value).toArray 1 from by rw [hargs], lg_entry_eq]
  generalize (lg_sl [.int x0] ++ List.replicate (1 - (lg_sl [.int x0]).length) Slot.unset).toArray = ls at hl ⊢
  have hl : lv_has ls 1 [(0, .int x0)] := hl
  generalize hQQ : MQ below (va_Qi (fun (r9 : Int32) (_ : Unit) => r9 = r) (fun (_ : Unit) (t : State) => va_P (dC, dI) vwCl [] t.heap ∧ va_K (dC, dI) vwCl (tyA cI cJ cC cS) t ∧ va_D A []) A) args s 0 0 A = QQ
  obtain ⟨H, hH⟩ : ∃ H : Heap, H = s.heap := ⟨_, rfl⟩
  obtain ⟨locs, hlocs⟩ : ∃ locs : List Loc, locs = [] := ⟨_, rfl⟩
  rw [← hH] at hP
  have hS : va_S A s.heap H locs := by rw [hH, hlocs]; exact hS
  suffices hZ : W p l e (headSpec wsX4_isDigit ({ frames := 0, cells := 0, slots := 0, locals := 0 } : Room)).room s m args below meth c H locs 0 0 QQ (F0 m 0 ls []) by rw [hH, hlocs] at hZ; exact hZ
  clear hH hlocs
  rw [fRd_isDigit] at hres
  refine lv_iload_n hx hb dX4_isDigit_0 rfl (lv_at hl 0 rfl) ?_
  refine lv_bipush (v := (48 : Int32)) hx hb dX4_isDigit_1 (by decide) ?_
  refine lv_icmp_lt (tgt := 16) hx hb dX4_isDigit_3 (by decide) (fun c_1 => ?_) (fun c_1 => ?_)
  · have hres := it_of hres c_1
    refine lv_iconst (v := (0 : Int32)) hx hb dX4_isDigit_16 (by decide) ?_
    have e9_0 := Option.some.inj hres
    subst e9_0
    rw [← hQQ]
    exact W.zret (v := (0 : Int32)) hx hb hr rfl (fun t ht hW => ⟨⟨(0 : Int32), (), rfl, rfl, by rw [ht]; exact hP, va_K.moved hW.alike hK, hD⟩, hS.F ht⟩) hS.2.2 dX4_isDigit_17
  · have hres := ie_of hres c_1
    refine lv_iload_n hx hb dX4_isDigit_6 rfl (lv_at hl 0 rfl) ?_
    refine lv_bipush (v := (57 : Int32)) hx hb dX4_isDigit_7 (by decide) ?_
    refine lv_icmp_gt (tgt := 16) hx hb dX4_isDigit_9 (by decide) (fun c_2 => ?_) (fun c_2 => ?_)
    · have hres := it_of hres c_2
      refine lv_iconst (v := (0 : Int32)) hx hb dX4_isDigit_16 (by decide) ?_
      have e9_0 := Option.some.inj hres
      subst e9_0
      rw [← hQQ]
      exact W.zret (v := (0 : Int32)) hx hb hr rfl (fun t ht hW => ⟨⟨(0 : Int32), (), rfl, rfl, by rw [ht]; exact hP, va_K.moved hW.alike hK, hD⟩, hS.F ht⟩) hS.2.2 dX4_isDigit_17
    · have hres := ie_of hres c_2
      refine lv_iconst (v := (1 : Int32)) hx hb dX4_isDigit_12 (by decide) ?_
      refine lv_goto (tgt := 17) hx hb dX4_isDigit_13 (by decide) ?_
      have e9_0 := Option.some.inj hres
      subst e9_0
      rw [← hQQ]
      exact W.zret (v := (1 : Int32)) hx hb hr rfl (fun t ht hW => ⟨⟨(1 : Int32), (), rfl, rfl, by rw [ht]; exact hP, va_K.moved hW.alike hK, hD⟩, hS.F ht⟩) hS.2.2 dX4_isDigit_17

-- Rd_readNumber
theorem kRd_readNumber_X4_readNumber_0 : Cond.fieldLink RX4 22 "RepeatNests$Reader" "at" "I" ∈ wsX4_readNumber := by decide +kernel
theorem iRd_readNumber_X4_readNumber_1 : ∀ w ∈ wsX40, w ∈ wsX4_readNumber := by decide +kernel
set_option maxHeartbeats 4000000 in
set_option maxRecDepth 100000 in
theorem cRd_readNumber (l : Launch) (dC : Nat → ClassId) (dI : Nat → Nat → Nat) (cI cJ cC cS : ClassId) (h_t h_t_signs h_t_letters : Nat) (sz : Nat) (t_length : Int32) (t_at : Int32) (t_size : Int32) (t_faultPlace : Int32) (t_faultReason : Int32) (t_lettersTold : Int32) (t_repeatsTold : Int32) (t_correctionsTold : Int32) (t_mostCorrections : Int32) (t_deepest : Int32) (t_fresh : Int32) (t_signs : Nat → Int32) (r : Int32) (y_t_at : Int32) (hres : fRd_readNumber t_length t_signs t_at = some (r, y_t_at)) :
    Met l yX4_readNumber wsX4_readNumber ({ frames := 1, cells := 0, slots := 0, locals := 20 } : Room) (va_Pc [.ref h_t] (fun (U : State) => U.heap.size = sz ∧ va_P (dC, dI) vwCl [(h_t, .inr (3, [.ref h_t_signs, .ref h_t_letters, .int t_length, .int t_at, .int t_size, .int t_faultPlace, .int t_faultReason, .int t_lettersTold, .int t_repeatsTold, .int t_correctionsTold, .int t_mostCorrections, .int t_deepest, .int t_fresh])), (h_t_signs, .inl (cI, 60, .inl t_signs))] U.heap ∧ va_K (dC, dI) vwCl (tyA cI cJ cC cS) U ∧ nwN U ∧ va_D (fun _ => True) [(h_t, .inr (3, [.ref h_t_signs, .ref h_t_letters, .int t_length, .int t_at, .int t_size, .int t_faultPlace, .int t_faultReason, .int t_lettersTold, .int t_repeatsTold, .int t_correctionsTold, .int t_mostCorrections, .int t_deepest, .int t_fresh])), (h_t_signs, .inl (cI, 60, .inl t_signs))])) (va_Qi (fun (r9 : Int32) (_ : Unit) => r9 = r) (fun (_ : Unit) (t : State) => va_P (dC, dI) vwCl [(h_t, .inr (3, [.ref h_t_signs, .ref h_t_letters, .int t_length, .int y_t_at, .int t_size, .int t_faultPlace, .int t_faultReason, .int t_lettersTold, .int t_repeatsTold, .int t_correctionsTold, .int t_mostCorrections, .int t_deepest, .int t_fresh])), (h_t_signs, .inl (cI, 60, .inl t_signs))] t.heap ∧ va_K (dC, dI) vwCl (tyA cI cJ cC cS) t ∧ va_D (va_A [(h_t, .inr (3, [.ref h_t_signs, .ref h_t_letters, .int t_length, .int t_at, .int t_size, .int t_faultPlace, .int t_faultReason, .int t_lettersTold, .int t_repeatsTold, .int t_correctionsTold, .int t_mostCorrections, .int t_deepest, .int t_fresh])), (h_t_signs, .inl (cI, 60, .inl t_signs))] sz) [(h_t, .inr (3, [.ref h_t_signs, .ref h_t_letters, .int t_length, .int y_t_at, .int t_size, .int t_faultPlace, .int t_faultReason, .int t_lettersTold, .int t_repeatsTold, .int t_correctionsTold, .int t_mostCorrections, .int t_deepest, .int t_fresh])), (h_t_signs, .inl (cI, 60, .inl t_signs))]) (va_A [(h_t, .inr (3, [.ref h_t_signs, .ref h_t_letters, .int t_length, .int t_at, .int t_size, .int t_faultPlace, .int t_faultReason, .int t_lettersTold, .int t_repeatsTold, .int t_correctionsTold, .int t_mostCorrections, .int t_deepest, .int t_fresh])), (h_t_signs, .inl (cI, 60, .inl t_signs))] sz)) 0 0 (va_A [(h_t, .inr (3, [.ref h_t_signs, .ref h_t_letters, .int t_length, .int t_at, .int t_size, .int t_faultPlace, .int t_faultReason, .int t_lettersTold, .int t_repeatsTold, .int t_correctionsTold, .int t_mostCorrections, .int t_deepest, .int t_fresh])), (h_t_signs, .inl (cI, 60, .inl t_signs))] sz) := by
  refine Met.ofW (cc := cX4_readNumber) (maxL := 2) (ret := (some .int)) (by decide) rfl ?_
  intro p e s m args below meth c s₁ B hml hv
  obtain ⟨hargs, hsz, hP, hK, hN, hD0⟩ := hv
  have hx := B.exec
  have hb := B.bytes
  have hr := B.returns
  have hts := atoms_spec (ws := wsX4_readNumber) B.pre
  have hown : s.vm.findClass RX4 = some m.cls := findClass_of_methodNamed B.named
  have hlocks := B.notSynchronized
  subst hsz
  have hD := hD0.self (sz := s.heap.size)
  generalize hAe : va_A [(h_t, .inr (3, [.ref h_t_signs, .ref h_t_letters, .int t_length, .int t_at, .int t_size, .int t_faultPlace, .int t_faultReason, .int t_lettersTold, .int t_repeatsTold, .int t_correctionsTold, .int t_mostCorrections, .int t_deepest, .int t_fresh])), (h_t_signs, .inl (cI, 60, .inl t_signs))] s.heap.size = A at hD ⊢
  have hA : ∀ q : Nat, s.heap.size ≤ q → A q := fun q h => by rw [← hAe]; exact Or.inr h
  have hS : va_S A s.heap s.heap [] := va_S.rf
  have hP : va_P (dC, dI) vwCl [(h_t, .inr (3, [.ref h_t_signs, .ref h_t_letters, .int t_length, .int t_at, .int t_size, .int t_faultPlace, .int t_faultReason, .int t_lettersTold, .int t_repeatsTold, .int t_correctionsTold, .int t_mostCorrections, .int t_deepest, .int t_fresh])), (h_t_signs, .inl (cI, 60, .inl t_signs))] s.heap := hP
  have hl := lv_entry [.ref h_t] (n := 2) (Nat.le_of_ble_eq_true rfl)
  rw [show entryFrame m args 2 = entryFrame m ([.ref h_t] : List Value).toArray 2 from by rw [hargs], lg_entry_eq]
  generalize (lg_sl [.ref h_t] ++ List.replicate (2 - (lg_sl [.ref h_t]).length) Slot.unset).toArray = ls at hl ⊢
  have hl : lv_has ls 2 [(0, .ref h_t)] := hl
  generalize hQQ : MQ below (va_Qi (fun (r9 : Int32) (_ : Unit) => r9 = r) (fun (_ : Unit) (t : State) => va_P (dC, dI) vwCl [(h_t, .inr (3, [.ref h_t_signs, .ref h_t_letters, .int t_length, .int y_t_at, .int t_size, .int t_faultPlace, .int t_faultReason, .int t_lettersTold, .int t_repeatsTold, .int t_correctionsTold, .int t_mostCorrections, .int t_deepest, .int t_fresh])), (h_t_signs, .inl (cI, 60, .inl t_signs))] t.heap ∧ va_K (dC, dI) vwCl (tyA cI cJ cC cS) t ∧ va_D A [(h_t, .inr (3, [.ref h_t_signs, .ref h_t_letters, .int t_length, .int y_t_at, .int t_size, .int t_faultPlace, .int t_faultReason, .int t_lettersTold, .int t_repeatsTold, .int t_correctionsTold, .int t_mostCorrections, .int t_deepest, .int t_fresh])), (h_t_signs, .inl (cI, 60, .inl t_signs))]) A) args s 0 0 A = QQ
  obtain ⟨H, hH⟩ : ∃ H : Heap, H = s.heap := ⟨_, rfl⟩
  obtain ⟨locs, hlocs⟩ : ∃ locs : List Loc, locs = [] := ⟨_, rfl⟩
  rw [← hH] at hP
  have hS : va_S A s.heap H locs := by rw [hH, hlocs]; exact hS
  suffices hZ : W p l e (headSpec wsX4_readNumber ({ frames := 1, cells := 0, slots := 0, locals := 20 } : Room)).room s m args below meth c H locs 0 0 QQ (F0 m 0 ls []) by rw [hH, hlocs] at hZ; exact hZ
  clear hH hlocs
  rw [fRd_readNumber] at hres
  refine lv_aload_n hx hb dX4_readNumber_0 rfl (lv_at hl 0 rfl) ?_
  obtain ⟨o1, ho1, hres⟩ := bd_of hres
  have hPc := hP.sub (ws' := [(h_t, .inr (3, [.ref h_t_signs, .ref h_t_letters, .int t_length, .int t_at, .int t_size, .int t_faultPlace, .int t_faultReason, .int t_lettersTold, .int t_repeatsTold, .int t_correctionsTold, .int t_mostCorrections, .int t_deepest, .int t_fresh])), (h_t_signs, .inl (cI, 60, .inl t_signs))]) [0, 1] rfl
  have hDc := hD.sub (ws' := [(h_t, .inr (3, [.ref h_t_signs, .ref h_t_letters, .int t_length, .int t_at, .int t_size, .int t_faultPlace, .int t_faultReason, .int t_lettersTold, .int t_repeatsTold, .int t_correctionsTold, .int t_mostCorrections, .int t_deepest, .int t_fresh])), (h_t_signs, .inl (cI, 60, .inl t_signs))]) [0, 1] (by decide) rfl
  have hFc := va_free (wc := [(h_t, .inr (3, [.ref h_t_signs, .ref h_t_letters, .int t_length, .int t_at, .int t_size, .int t_faultPlace, .int t_faultReason, .int t_lettersTold, .int t_repeatsTold, .int t_correctionsTold, .int t_mostCorrections, .int t_deepest, .int t_fresh])), (h_t_signs, .inl (cI, 60, .inl t_signs))]) hD hS hA [0, 1] rfl
  refine va_calli (va_runV (As := []) (rest := []) ⟨hx, hb, hml, hown, hts⟩ (cRd_sign l dC dI cI cJ cC cS h_t h_t_signs h_t_letters H.size t_length t_at t_size t_faultPlace t_faultReason t_lettersTold t_repeatsTold t_correctionsTold t_mostCorrections t_deepest t_fresh t_signs o1 ho1) (cwV 0 hts gX4_readNumber_X4_sign rfl rfl rfl (by decide +kernel) ⟨Nat.le_of_ble_eq_true rfl, Nat.le_of_ble_eq_true rfl⟩) ⟨fun a U g mk q => by obtain ⟨q0, q1, qP, qK, qN, qD⟩ := q; exact ⟨q0, q1, qP, va_K.moved (u := U) (U := U.calling g mk a) (Vm.Alike.refl U.vm) qK, nwS (u := U) (U := U.calling g mk a) rfl qN, qD⟩, va_recv hK hPc (ci := 3) (q0 := 0) rfl rfl, fun U hU hW => ⟨rfl, by rw [hU], by rw [hU]; exact hPc, va_K.moved hW.alike hK, nwW hW hN, hDc.weaken (fun _ _ _ _ => trivial)⟩⟩ rfl rfl hl.1 rfl (lv_room (Nat.le_of_ble_eq_true rfl)) dX4_readNumber_1 ⟨Nat.zero_le _, Nat.zero_le _⟩) hS (fun q _ h => hFc q h) hFc (fun r9 u9 t H1 locs ht hvm hw hB hz1 hk1 hS => ?_)
  have hw := hw.symm
  subst hw
  obtain ⟨hP1, hK1, hD1⟩ := hB
  rw [ht] at hP1
  obtain ⟨hP, hD⟩ := va_join (wr := []) (w1 := [(h_t, .inr (3, [.ref h_t_signs, .ref h_t_letters, .int t_length, .int t_at, .int t_size, .int t_faultPlace, .int t_faultReason, .int t_lettersTold, .int t_repeatsTold, .int t_correctionsTold, .int t_mostCorrections, .int t_deepest, .int t_fresh])), (h_t_signs, .inl (cI, 60, .inl t_signs))]) hP hD [0, 1] [] rfl rfl (by decide) (by decide) hk1 hFc hP1 hD1
  generalize H1 = H at hP hS ⊢
  have hP : va_P (dC, dI) vwCl [(h_t, .inr (3, [.ref h_t_signs, .ref h_t_letters, .int t_length, .int t_at, .int t_size, .int t_faultPlace, .int t_faultReason, .int t_lettersTold, .int t_repeatsTold, .int t_correctionsTold, .int t_mostCorrections, .int t_deepest, .int t_fresh])), (h_t_signs, .inl (cI, 60, .inl t_signs))] H := hP
  have hD : va_D A [(h_t, .inr (3, [.ref h_t_signs, .ref h_t_letters, .int t_length, .int t_at, .int t_size, .int t_faultPlace, .int t_faultReason, .int t_lettersTold, .int t_repeatsTold, .int t_correctionsTold, .int t_mostCorrections, .int t_deepest, .int t_fresh])), (h_t_signs, .inl (cI, 60, .inl t_signs))] := hD
  refine lv_bipush (v := (48 : Int32)) hx hb dX4_readNumber_4 (by decide) ?_
  refine lv_isub hx hb dX4_readNumber_6 ?_
  refine lv_istore_n (lv' := [(1, .int (o1 - (48 : Int32))), (0, .ref h_t)]) hx hb dX4_readNumber_7 rfl hl (by decide) rfl (fun ls hl => ?_)
  refine lv_aload_n hx hb dX4_readNumber_8 rfl (lv_at hl 1 rfl) ?_
  refine lv_dup hx hb dX4_readNumber_9 rfl ?_
  refine va_get (D := (dC, dI)) (ci := 3) (v := .int t_at) (C := RX4) (T := TX4) (N := 13) hx hb hts iRd_readNumber_X4_readNumber_1 hown hK hP 0 rfl rfl 3 (by decide) (hts _ kRd_readNumber_X4_readNumber_0) (fun _ h9 => h9) rfl dX4_readNumber_10 ?_
  refine lv_iconst (v := (1 : Int32)) hx hb dX4_readNumber_13 (by decide) ?_
  refine lv_iadd hx hb dX4_readNumber_14 ?_
  refine va_put (D := (dC, dI)) (ci := 3) (v := .int (t_at + (1 : Int32))) (ty := .int) (C := RX4) (T := TX4) (N := 13) hx hb hts iRd_readNumber_X4_readNumber_1 tyX4 tyX4_ok nmX4 hown hK hP hD hS 0 rfl rfl 3 (by decide) (hts _ kRd_readNumber_X4_readNumber_0) (fun _ h9 => h9) rfl (by decide +kernel) rfl rfl (Nat.le_of_ble_eq_true rfl) dX4_readNumber_15 (fun H locs hP hD hS => ?_)
  have hP : va_P (dC, dI) vwCl [(h_t, .inr (3, [.ref h_t_signs, .ref h_t_letters, .int t_length, .int (t_at + (1 : Int32)), .int t_size, .int t_faultPlace, .int t_faultReason, .int t_lettersTold, .int t_repeatsTold, .int t_correctionsTold, .int t_mostCorrections, .int t_deepest, .int t_fresh])), (h_t_signs, .inl (cI, 60, .inl t_signs))] H := hP
  have hD : va_D A [(h_t, .inr (3, [.ref h_t_signs, .ref h_t_letters, .int t_length, .int (t_at + (1 : Int32)), .int t_size, .int t_faultPlace, .int t_faultReason, .int t_lettersTold, .int t_repeatsTold, .int t_correctionsTold, .int t_mostCorrections, .int t_deepest, .int t_fresh])), (h_t_signs, .inl (cI, 60, .inl t_signs))] := hD
  refine lv_iload_n hx hb dX4_readNumber_18 rfl (lv_at hl 0 rfl) ?_
  refine lv_if_eq (tgt := 55) hx hb dX4_readNumber_19 (by decide) (fun c_2 => ?_) (fun c_2 => ?_)
  · have hres := it_of hres c_2
    refine lv_iload_n hx hb dX4_readNumber_55 rfl (lv_at hl 0 rfl) ?_
    obtain ⟨e9_0, e9_1⟩ := tup2 hres
    subst e9_0
    subst e9_1
    rw [← hQQ]
    exact W.iret (v := (o1 - (48 : Int32))) hx hb hr (fun t ht hW => ⟨⟨(o1 - (48 : Int32)), (), rfl, rfl, by rw [ht]; exact hP, va_K.moved hW.alike hK, hD⟩, hS.F ht⟩) hS.2.2 dX4_readNumber_56
  · have hres := ie_of hres c_2
    refine lv_aload_n hx hb dX4_readNumber_22 rfl (lv_at hl 1 rfl) ?_
    obtain ⟨o3, ho3, hres⟩ := bd_of hres
    have hPc := hP.sub (ws' := [(h_t, .inr (3, [.ref h_t_signs, .ref h_t_letters, .int t_length, .int (t_at + (1 : Int32)), .int t_size, .int t_faultPlace, .int t_faultReason, .int t_lettersTold, .int t_repeatsTold, .int t_correctionsTold, .int t_mostCorrections, .int t_deepest, .int t_fresh])), (h_t_signs, .inl (cI, 60, .inl t_signs))]) [0, 1] rfl
    have hDc := hD.sub (ws' := [(h_t, .inr (3, [.ref h_t_signs, .ref h_t_letters, .int t_length, .int (t_at + (1 : Int32)), .int t_size, .int t_faultPlace, .int t_faultReason, .int t_lettersTold, .int t_repeatsTold, .int t_correctionsTold, .int t_mostCorrections, .int t_deepest, .int t_fresh])), (h_t_signs, .inl (cI, 60, .inl t_signs))]) [0, 1] (by decide) rfl
    have hFc := va_free (wc := [(h_t, .inr (3, [.ref h_t_signs, .ref h_t_letters, .int t_length, .int (t_at + (1 : Int32)), .int t_size, .int t_faultPlace, .int t_faultReason, .int t_lettersTold, .int t_repeatsTold, .int t_correctionsTold, .int t_mostCorrections, .int t_deepest, .int t_fresh])), (h_t_signs, .inl (cI, 60, .inl t_signs))]) hD hS hA [0, 1] rfl
    refine va_calli (va_runV (As := []) (rest := []) ⟨hx, hb, hml, hown, hts⟩ (cRd_sign l dC dI cI cJ cC cS h_t h_t_signs h_t_letters H.size t_length (t_at + (1 : Int32)) t_size t_faultPlace t_faultReason t_lettersTold t_repeatsTold t_correctionsTold t_mostCorrections t_deepest t_fresh t_signs o3 ho3) (cwV 0 hts gX4_readNumber_X4_sign rfl rfl rfl (by decide +kernel) ⟨Nat.le_of_ble_eq_true rfl, Nat.le_of_ble_eq_true rfl⟩) ⟨fun a U g mk q => by obtain ⟨q0, q1, qP, qK, qN, qD⟩ := q; exact ⟨q0, q1, qP, va_K.moved (u := U) (U := U.calling g mk a) (Vm.Alike.refl U.vm) qK, nwS (u := U) (U := U.calling g mk a) rfl qN, qD⟩, va_recv hK hPc (ci := 3) (q0 := 0) rfl rfl, fun U hU hW => ⟨rfl, by rw [hU], by rw [hU]; exact hPc, va_K.moved hW.alike hK, nwW hW hN, hDc.weaken (fun _ _ _ _ => trivial)⟩⟩ rfl rfl hl.1 rfl (lv_room (Nat.le_of_ble_eq_true rfl)) dX4_readNumber_23 ⟨Nat.zero_le _, Nat.zero_le _⟩) hS (fun q _ h => hFc q h) hFc (fun r9 u9 t H1 locs ht hvm hw hB hz1 hk1 hS => ?_)
    have hw := hw.symm
    subst hw
    obtain ⟨hP1, hK1, hD1⟩ := hB
    rw [ht] at hP1
    obtain ⟨hP, hD⟩ := va_join (wr := []) (w1 := [(h_t, .inr (3, [.ref h_t_signs, .ref h_t_letters, .int t_length, .int (t_at + (1 : Int32)), .int t_size, .int t_faultPlace, .int t_faultReason, .int t_lettersTold, .int t_repeatsTold, .int t_correctionsTold, .int t_mostCorrections, .int t_deepest, .int t_fresh])), (h_t_signs, .inl (cI, 60, .inl t_signs))]) hP hD [0, 1] [] rfl rfl (by decide) (by decide) hk1 hFc hP1 hD1
    generalize H1 = H at hP hS ⊢
    have hP : va_P (dC, dI) vwCl [(h_t, .inr (3, [.ref h_t_signs, .ref h_t_letters, .int t_length, .int (t_at + (1 : Int32)), .int t_size, .int t_faultPlace, .int t_faultReason, .int t_lettersTold, .int t_repeatsTold, .int t_correctionsTold, .int t_mostCorrections, .int t_deepest, .int t_fresh])), (h_t_signs, .inl (cI, 60, .inl t_signs))] H := hP
    have hD : va_D A [(h_t, .inr (3, [.ref h_t_signs, .ref h_t_letters, .int t_length, .int (t_at + (1 : Int32)), .int t_size, .int t_faultPlace, .int t_faultReason, .int t_lettersTold, .int t_repeatsTold, .int t_correctionsTold, .int t_mostCorrections, .int t_deepest, .int t_fresh])), (h_t_signs, .inl (cI, 60, .inl t_signs))] := hD
    obtain ⟨o4, ho4, hres⟩ := bd_of hres
    have hPc := hP.sub (ws' := []) [] rfl
    have hDc := hD.sub (ws' := []) [] (by decide) rfl
    have hFc := va_free (wc := []) hD hS hA [] rfl
    refine va_calli (va_runS (As := [.int o3]) (rest := []) ⟨hx, hb, hml, hown, hts⟩ (cRd_isDigit l dC dI cI cJ cC cS H.size o3 o4 ho4) (va_cwS 1 hts gX4_readNumber_X4_isDigit rfl rfl rfl (by decide +kernel) ⟨Nat.le_of_ble_eq_true rfl, Nat.le_of_ble_eq_true rfl⟩) ⟨fun a U g mk q => by obtain ⟨q0, q1, qP, qK, qN, qD⟩ := q; exact ⟨q0, q1, qP, va_K.moved (u := U) (U := U.calling g mk a) (Vm.Alike.refl U.vm) qK, nwS (u := U) (U := U.calling g mk a) rfl qN, qD⟩, fun U hU hW => ⟨rfl, by rw [hU], by rw [hU]; exact hPc, va_K.moved hW.alike hK, nwW hW hN, hDc.weaken (fun _ _ _ _ => trivial)⟩⟩ rfl rfl hl.1 rfl (lv_room (Nat.le_of_ble_eq_true rfl)) dX4_readNumber_26 ⟨Nat.zero_le _, Nat.zero_le _⟩) hS (fun q _ h => hFc q h) hFc (fun r9 u9 t H1 locs ht hvm hw hB hz1 hk1 hS => ?_)
    have hw := hw.symm
    subst hw
    obtain ⟨hP1, hK1, hD1⟩ := hB
    rw [ht] at hP1
    obtain ⟨hP, hD⟩ := va_join (wr := [(h_t, .inr (3, [.ref h_t_signs, .ref h_t_letters, .int t_length, .int (t_at + (1 : Int32)), .int t_size, .int t_faultPlace, .int t_faultReason, .int t_lettersTold, .int t_repeatsTold, .int t_correctionsTold, .int t_mostCorrections, .int t_deepest, .int t_fresh])), (h_t_signs, .inl (cI, 60, .inl t_signs))]) (w1 := []) hP hD [] [0, 1] rfl rfl (by decide) (by decide) hk1 hFc hP1 hD1
    generalize H1 = H at hP hS ⊢
    have hP : va_P (dC, dI) vwCl [(h_t, .inr (3, [.ref h_t_signs, .ref h_t_letters, .int t_length, .int (t_at + (1 : Int32)), .int t_size, .int t_faultPlace, .int t_faultReason, .int t_lettersTold, .int t_repeatsTold, .int t_correctionsTold, .int t_mostCorrections, .int t_deepest, .int t_fresh])), (h_t_signs, .inl (cI, 60, .inl t_signs))] H := hP
    have hD : va_D A [(h_t, .inr (3, [.ref h_t_signs, .ref h_t_letters, .int t_length, .int (t_at + (1 : Int32)), .int t_size, .int t_faultPlace, .int t_faultReason, .int t_lettersTold, .int t_repeatsTold, .int t_correctionsTold, .int t_mostCorrections, .int t_deepest, .int t_fresh])), (h_t_signs, .inl (cI, 60, .inl t_signs))] := hD
    refine lv_if_eq (tgt := 55) hx hb dX4_readNumber_29 (by decide) (fun c_5 => ?_) (fun c_5 => ?_)
    · have hres := it_of hres c_5
      refine lv_iload_n hx hb dX4_readNumber_55 rfl (lv_at hl 0 rfl) ?_
      obtain ⟨e9_0, e9_1⟩ := tup2 hres
      subst e9_0
      subst e9_1
      rw [← hQQ]
      exact W.iret (v := (o1 - (48 : Int32))) hx hb hr (fun t ht hW => ⟨⟨(o1 - (48 : Int32)), (), rfl, rfl, by rw [ht]; exact hP, va_K.moved hW.alike hK, hD⟩, hS.F ht⟩) hS.2.2 dX4_readNumber_56
    · have hres := ie_of hres c_5
      refine lv_bipush (v := (10 : Int32)) hx hb dX4_readNumber_32 (by decide) ?_
      refine lv_iload_n hx hb dX4_readNumber_34 rfl (lv_at hl 0 rfl) ?_
      refine lv_imul hx hb dX4_readNumber_35 ?_
      refine lv_aload_n hx hb dX4_readNumber_36 rfl (lv_at hl 1 rfl) ?_
      obtain ⟨o6, ho6, hres⟩ := bd_of hres
      have hPc := hP.sub (ws' := [(h_t, .inr (3, [.ref h_t_signs, .ref h_t_letters, .int t_length, .int (t_at + (1 : Int32)), .int t_size, .int t_faultPlace, .int t_faultReason, .int t_lettersTold, .int t_repeatsTold, .int t_correctionsTold, .int t_mostCorrections, .int t_deepest, .int t_fresh])), (h_t_signs, .inl (cI, 60, .inl t_signs))]) [0, 1] rfl
      have hDc := hD.sub (ws' := [(h_t, .inr (3, [.ref h_t_signs, .ref h_t_letters, .int t_length, .int (t_at + (1 : Int32)), .int t_size, .int t_faultPlace, .int t_faultReason, .int t_lettersTold, .int t_repeatsTold, .int t_correctionsTold, .int t_mostCorrections, .int t_deepest, .int t_fresh])), (h_t_signs, .inl (cI, 60, .inl t_signs))]) [0, 1] (by decide) rfl
      have hFc := va_free (wc := [(h_t, .inr (3, [.ref h_t_signs, .ref h_t_letters, .int t_length, .int (t_at + (1 : Int32)), .int t_size, .int t_faultPlace, .int t_faultReason, .int t_lettersTold, .int t_repeatsTold, .int t_correctionsTold, .int t_mostCorrections, .int t_deepest, .int t_fresh])), (h_t_signs, .inl (cI, 60, .inl t_signs))]) hD hS hA [0, 1] rfl
      refine va_calli (va_runV (As := []) (rest := [.int ((10 : Int32) * (o1 - (48 : Int32)))]) ⟨hx, hb, hml, hown, hts⟩ (cRd_sign l dC dI cI cJ cC cS h_t h_t_signs h_t_letters H.size t_length (t_at + (1 : Int32)) t_size t_faultPlace t_faultReason t_lettersTold t_repeatsTold t_correctionsTold t_mostCorrections t_deepest t_fresh t_signs o6 ho6) (cwV 0 hts gX4_readNumber_X4_sign rfl rfl rfl (by decide +kernel) ⟨Nat.le_of_ble_eq_true rfl, Nat.le_of_ble_eq_true rfl⟩) ⟨fun a U g mk q => by obtain ⟨q0, q1, qP, qK, qN, qD⟩ := q; exact ⟨q0, q1, qP, va_K.moved (u := U) (U := U.calling g mk a) (Vm.Alike.refl U.vm) qK, nwS (u := U) (U := U.calling g mk a) rfl qN, qD⟩, va_recv hK hPc (ci := 3) (q0 := 0) rfl rfl, fun U hU hW => ⟨rfl, by rw [hU], by rw [hU]; exact hPc, va_K.moved hW.alike hK, nwW hW hN, hDc.weaken (fun _ _ _ _ => trivial)⟩⟩ rfl rfl hl.1 rfl (lv_room (Nat.le_of_ble_eq_true rfl)) dX4_readNumber_37 ⟨Nat.zero_le _, Nat.zero_le _⟩) hS (fun q _ h => hFc q h) hFc (fun r9 u9 t H1 locs ht hvm hw hB hz1 hk1 hS => ?_)
      have hw := hw.symm
      subst hw
      obtain ⟨hP1, hK1, hD1⟩ := hB
      rw [ht] at hP1
      obtain ⟨hP, hD⟩ := va_join (wr := []) (w1 := [(h_t, .inr (3, [.ref h_t_signs, .ref h_t_letters, .int t_length, .int (t_at + (1 : Int32)), .int t_size, .int t_faultPlace, .int t_faultReason, .int t_lettersTold, .int t_repeatsTold, .int t_correctionsTold, .int t_mostCorrections, .int t_deepest, .int t_fresh])), (h_t_signs, .inl (cI, 60, .inl t_signs))]) hP hD [0, 1] [] rfl rfl (by decide) (by decide) hk1 hFc hP1 hD1
      generalize H1 = H at hP hS ⊢
      have hP : va_P (dC, dI) vwCl [(h_t, .inr (3, [.ref h_t_signs, .ref h_t_letters, .int t_length, .int (t_at + (1 : Int32)), .int t_size, .int t_faultPlace, .int t_faultReason, .int t_lettersTold, .int t_repeatsTold, .int t_correctionsTold, .int t_mostCorrections, .int t_deepest, .int t_fresh])), (h_t_signs, .inl (cI, 60, .inl t_signs))] H := hP
      have hD : va_D A [(h_t, .inr (3, [.ref h_t_signs, .ref h_t_letters, .int t_length, .int (t_at + (1 : Int32)), .int t_size, .int t_faultPlace, .int t_faultReason, .int t_lettersTold, .int t_repeatsTold, .int t_correctionsTold, .int t_mostCorrections, .int t_deepest, .int t_fresh])), (h_t_signs, .inl (cI, 60, .inl t_signs))] := hD
      refine lv_iadd hx hb dX4_readNumber_40 ?_
      refine lv_bipush (v := (48 : Int32)) hx hb dX4_readNumber_41 (by decide) ?_
      refine lv_isub hx hb dX4_readNumber_43 ?_
      refine lv_istore_n (lv' := [(1, .int ((((10 : Int32) * (o1 - (48 : Int32))) + o6) - (48 : Int32))), (0, .ref h_t)]) hx hb dX4_readNumber_44 rfl hl (by decide) rfl (fun ls hl => ?_)
      refine lv_aload_n hx hb dX4_readNumber_45 rfl (lv_at hl 1 rfl) ?_
      refine lv_dup hx hb dX4_readNumber_46 rfl ?_
      refine va_get (D := (dC, dI)) (ci := 3) (v := .int (t_at + (1 : Int32))) (C := RX4) (T := TX4) (N := 13) hx hb hts iRd_readNumber_X4_readNumber_1 hown hK hP 0 rfl rfl 3 (by decide) (hts _ kRd_readNumber_X4_readNumber_0) (fun _ h9 => h9) rfl dX4_readNumber_47 ?_
      refine lv_iconst (v := (1 : Int32)) hx hb dX4_readNumber_50 (by decide) ?_
      refine lv_iadd hx hb dX4_readNumber_51 ?_
      refine va_put (D := (dC, dI)) (ci := 3) (v := .int ((t_at + (1 : Int32)) + (1 : Int32))) (ty := .int) (C := RX4) (T := TX4) (N := 13) hx hb hts iRd_readNumber_X4_readNumber_1 tyX4 tyX4_ok nmX4 hown hK hP hD hS 0 rfl rfl 3 (by decide) (hts _ kRd_readNumber_X4_readNumber_0) (fun _ h9 => h9) rfl (by decide +kernel) rfl rfl (Nat.le_of_ble_eq_true rfl) dX4_readNumber_52 (fun H locs hP hD hS => ?_)
      have hP : va_P (dC, dI) vwCl [(h_t, .inr (3, [.ref h_t_signs, .ref h_t_letters, .int t_length, .int ((t_at + (1 : Int32)) + (1 : Int32)), .int t_size, .int t_faultPlace, .int t_faultReason, .int t_lettersTold, .int t_repeatsTold, .int t_correctionsTold, .int t_mostCorrections, .int t_deepest, .int t_fresh])), (h_t_signs, .inl (cI, 60, .inl t_signs))] H := hP
      have hD : va_D A [(h_t, .inr (3, [.ref h_t_signs, .ref h_t_letters, .int t_length, .int ((t_at + (1 : Int32)) + (1 : Int32)), .int t_size, .int t_faultPlace, .int t_faultReason, .int t_lettersTold, .int t_repeatsTold, .int t_correctionsTold, .int t_mostCorrections, .int t_deepest, .int t_fresh])), (h_t_signs, .inl (cI, 60, .inl t_signs))] := hD
      refine lv_iload_n hx hb dX4_readNumber_55 rfl (lv_at hl 0 rfl) ?_
      obtain ⟨e9_0, e9_1⟩ := tup2 hres
      subst e9_0
      subst e9_1
      rw [← hQQ]
      exact W.iret (v := ((((10 : Int32) * (o1 - (48 : Int32))) + o6) - (48 : Int32))) hx hb hr (fun t ht hW => ⟨⟨((((10 : Int32) * (o1 - (48 : Int32))) + o6) - (48 : Int32)), (), rfl, rfl, by rw [ht]; exact hP, va_K.moved hW.alike hK, hD⟩, hS.F ht⟩) hS.2.2 dX4_readNumber_56

-- Rd_reads
theorem kRd_reads_X4_reads_0 : Cond.fieldLink RX4 22 "RepeatNests$Reader" "at" "I" ∈ wsX4_reads := by decide +kernel
theorem iRd_reads_X4_reads_1 : ∀ w ∈ wsX40, w ∈ wsX4_reads := by decide +kernel
set_option maxHeartbeats 4000000 in
set_option maxRecDepth 100000 in
theorem cRd_reads (l : Launch) (dC : Nat → ClassId) (dI : Nat → Nat → Nat) (cI cJ cC cS : ClassId) (h_t h_t_signs h_t_letters : Nat) (sz : Nat) (t_length : Int32) (t_at : Int32) (t_size : Int32) (t_faultPlace : Int32) (t_faultReason : Int32) (t_lettersTold : Int32) (t_repeatsTold : Int32) (t_correctionsTold : Int32) (t_mostCorrections : Int32) (t_deepest : Int32) (t_fresh : Int32) (t_signs : Nat → Int32) (x1 : Int32) (r : Int32) (y_t_at : Int32) (y_t_faultPlace : Int32) (y_t_faultReason : Int32) (hres : fRd_reads t_length t_signs t_at t_faultPlace t_faultReason x1 = some (r, y_t_at, y_t_faultPlace, y_t_faultReason)) :
    Met l yX4_reads wsX4_reads ({ frames := 1, cells := 0, slots := 0, locals := 22 } : Room) (va_Pc [.ref h_t, .int x1] (fun (U : State) => U.heap.size = sz ∧ va_P (dC, dI) vwCl [(h_t, .inr (3, [.ref h_t_signs, .ref h_t_letters, .int t_length, .int t_at, .int t_size, .int t_faultPlace, .int t_faultReason, .int t_lettersTold, .int t_repeatsTold, .int t_correctionsTold, .int t_mostCorrections, .int t_deepest, .int t_fresh])), (h_t_signs, .inl (cI, 60, .inl t_signs))] U.heap ∧ va_K (dC, dI) vwCl (tyA cI cJ cC cS) U ∧ nwN U ∧ va_D (fun _ => True) [(h_t, .inr (3, [.ref h_t_signs, .ref h_t_letters, .int t_length, .int t_at, .int t_size, .int t_faultPlace, .int t_faultReason, .int t_lettersTold, .int t_repeatsTold, .int t_correctionsTold, .int t_mostCorrections, .int t_deepest, .int t_fresh])), (h_t_signs, .inl (cI, 60, .inl t_signs))])) (va_Qi (fun (r9 : Int32) (_ : Unit) => r9 = r) (fun (_ : Unit) (t : State) => va_P (dC, dI) vwCl [(h_t, .inr (3, [.ref h_t_signs, .ref h_t_letters, .int t_length, .int y_t_at, .int t_size, .int y_t_faultPlace, .int y_t_faultReason, .int t_lettersTold, .int t_repeatsTold, .int t_correctionsTold, .int t_mostCorrections, .int t_deepest, .int t_fresh])), (h_t_signs, .inl (cI, 60, .inl t_signs))] t.heap ∧ va_K (dC, dI) vwCl (tyA cI cJ cC cS) t ∧ va_D (va_A [(h_t, .inr (3, [.ref h_t_signs, .ref h_t_letters, .int t_length, .int t_at, .int t_size, .int t_faultPlace, .int t_faultReason, .int t_lettersTold, .int t_repeatsTold, .int t_correctionsTold, .int t_mostCorrections, .int t_deepest, .int t_fresh])), (h_t_signs, .inl (cI, 60, .inl t_signs))] sz) [(h_t, .inr (3, [.ref h_t_signs, .ref h_t_letters, .int t_length, .int y_t_at, .int t_size, .int y_t_faultPlace, .int y_t_faultReason, .int t_lettersTold, .int t_repeatsTold, .int t_correctionsTold, .int t_mostCorrections, .int t_deepest, .int t_fresh])), (h_t_signs, .inl (cI, 60, .inl t_signs))]) (va_A [(h_t, .inr (3, [.ref h_t_signs, .ref h_t_letters, .int t_length, .int t_at, .int t_size, .int t_faultPlace, .int t_faultReason, .int t_lettersTold, .int t_repeatsTold, .int t_correctionsTold, .int t_mostCorrections, .int t_deepest, .int t_fresh])), (h_t_signs, .inl (cI, 60, .inl t_signs))] sz)) 0 0 (va_A [(h_t, .inr (3, [.ref h_t_signs, .ref h_t_letters, .int t_length, .int t_at, .int t_size, .int t_faultPlace, .int t_faultReason, .int t_lettersTold, .int t_repeatsTold, .int t_correctionsTold, .int t_mostCorrections, .int t_deepest, .int t_fresh])), (h_t_signs, .inl (cI, 60, .inl t_signs))] sz) := by
  refine Met.ofW (cc := cX4_reads) (maxL := 2) (ret := (some .boolean)) (by decide) rfl ?_
  intro p e s m args below meth c s₁ B hml hv
  obtain ⟨hargs, hsz, hP, hK, hN, hD0⟩ := hv
  have hx := B.exec
  have hb := B.bytes
  have hr := B.returns
  have hts := atoms_spec (ws := wsX4_reads) B.pre
  have hown : s.vm.findClass RX4 = some m.cls := findClass_of_methodNamed B.named
  have hlocks := B.notSynchronized
  subst hsz
  have hD := hD0.self (sz := s.heap.size)
  generalize hAe : va_A [(h_t, .inr (3, [.ref h_t_signs, .ref h_t_letters, .int t_length, .int t_at, .int t_size, .int t_faultPlace, .int t_faultReason, .int t_lettersTold, .int t_repeatsTold, .int t_correctionsTold, .int t_mostCorrections, .int t_deepest, .int t_fresh])), (h_t_signs, .inl (cI, 60, .inl t_signs))] s.heap.size = A at hD ⊢
  have hA : ∀ q : Nat, s.heap.size ≤ q → A q := fun q h => by rw [← hAe]; exact Or.inr h
  have hS : va_S A s.heap s.heap [] := va_S.rf
  have hP : va_P (dC, dI) vwCl [(h_t, .inr (3, [.ref h_t_signs, .ref h_t_letters, .int t_length, .int t_at, .int t_size, .int t_faultPlace, .int t_faultReason, .int t_lettersTold, .int t_repeatsTold, .int t_correctionsTold, .int t_mostCorrections, .int t_deepest, .int t_fresh])), (h_t_signs, .inl (cI, 60, .inl t_signs))] s.heap := hP
  have hl := lv_entry [.ref h_t, .int x1] (n := 2) (Nat.le_of_ble_eq_true rfl)
  rw [show entryFrame m args 2 = entryFrame m ([.ref h_t, .int x1] : List Value).toArray 2 from by rw [hargs], lg_entry_eq]
  generalize (lg_sl [.ref h_t, .int x1] ++ List.replicate (2 - (lg_sl [.ref h_t, .int x1]).length) Slot.unset).toArray = ls at hl ⊢
  have hl : lv_has ls 2 [(0, .ref h_t), (1, .int x1)] := hl
  generalize hQQ : MQ below (va_Qi (fun (r9 : Int32) (_ : Unit) => r9 = r) (fun (_ : Unit) (t : State) => va_P (dC, dI) vwCl [(h_t, .inr (3, [.ref h_t_signs, .ref h_t_letters, .int t_length, .int y_t_at, .int t_size, .int y_t_faultPlace, .int y_t_faultReason, .int t_lettersTold, .int t_repeatsTold, .int t_correctionsTold, .int t_mostCorrections, .int t_deepest, .int t_fresh])), (h_t_signs, .inl (cI, 60, .inl t_signs))] t.heap ∧ va_K (dC, dI) vwCl (tyA cI cJ cC cS) t ∧ va_D A [(h_t, .inr (3, [.ref h_t_signs, .ref h_t_letters, .int t_length, .int y_t_at, .int t_size, .int y_t_faultPlace, .int y_t_faultReason, .int t_lettersTold, .int t_repeatsTold, .int t_correctionsTold, .int t_mostCorrections, .int t_deepest, .int t_fresh])), (h_t_signs, .inl (cI, 60, .inl t_signs))]) A) args s 0 0 A = QQ
  obtain ⟨H, hH⟩ : ∃ H : Heap, H = s.heap := ⟨_, rfl⟩
  obtain ⟨locs, hlocs⟩ : ∃ locs : List Loc, locs = [] := ⟨_, rfl⟩
  rw [← hH] at hP
  have hS : va_S A s.heap H locs := by rw [hH, hlocs]; exact hS
  suffices hZ : W p l e (headSpec wsX4_reads ({ frames := 1, cells := 0, slots := 0, locals := 22 } : Room)).room s m args below meth c H locs 0 0 QQ (F0 m 0 ls []) by rw [hH, hlocs] at hZ; exact hZ
  clear hH hlocs
  rw [fRd_reads] at hres
  refine lv_aload_n hx hb dX4_reads_0 rfl (lv_at hl 0 rfl) ?_
  obtain ⟨o1, ho1, hres⟩ := bd_of hres
  have hPc := hP.sub (ws' := [(h_t, .inr (3, [.ref h_t_signs, .ref h_t_letters, .int t_length, .int t_at, .int t_size, .int t_faultPlace, .int t_faultReason, .int t_lettersTold, .int t_repeatsTold, .int t_correctionsTold, .int t_mostCorrections, .int t_deepest, .int t_fresh])), (h_t_signs, .inl (cI, 60, .inl t_signs))]) [0, 1] rfl
  have hDc := hD.sub (ws' := [(h_t, .inr (3, [.ref h_t_signs, .ref h_t_letters, .int t_length, .int t_at, .int t_size, .int t_faultPlace, .int t_faultReason, .int t_lettersTold, .int t_repeatsTold, .int t_correctionsTold, .int t_mostCorrections, .int t_deepest, .int t_fresh])), (h_t_signs, .inl (cI, 60, .inl t_signs))]) [0, 1] (by decide) rfl
  have hFc := va_free (wc := [(h_t, .inr (3, [.ref h_t_signs, .ref h_t_letters, .int t_length, .int t_at, .int t_size, .int t_faultPlace, .int t_faultReason, .int t_lettersTold, .int t_repeatsTold, .int t_correctionsTold, .int t_mostCorrections, .int t_deepest, .int t_fresh])), (h_t_signs, .inl (cI, 60, .inl t_signs))]) hD hS hA [0, 1] rfl
  refine va_calli (va_runV (As := []) (rest := []) ⟨hx, hb, hml, hown, hts⟩ (cRd_sign l dC dI cI cJ cC cS h_t h_t_signs h_t_letters H.size t_length t_at t_size t_faultPlace t_faultReason t_lettersTold t_repeatsTold t_correctionsTold t_mostCorrections t_deepest t_fresh t_signs o1 ho1) (cwV 0 hts gX4_reads_X4_sign rfl rfl rfl (by decide +kernel) ⟨Nat.le_of_ble_eq_true rfl, Nat.le_of_ble_eq_true rfl⟩) ⟨fun a U g mk q => by obtain ⟨q0, q1, qP, qK, qN, qD⟩ := q; exact ⟨q0, q1, qP, va_K.moved (u := U) (U := U.calling g mk a) (Vm.Alike.refl U.vm) qK, nwS (u := U) (U := U.calling g mk a) rfl qN, qD⟩, va_recv hK hPc (ci := 3) (q0 := 0) rfl rfl, fun U hU hW => ⟨rfl, by rw [hU], by rw [hU]; exact hPc, va_K.moved hW.alike hK, nwW hW hN, hDc.weaken (fun _ _ _ _ => trivial)⟩⟩ rfl rfl hl.1 rfl (lv_room (Nat.le_of_ble_eq_true rfl)) dX4_reads_1 ⟨Nat.zero_le _, Nat.zero_le _⟩) hS (fun q _ h => hFc q h) hFc (fun r9 u9 t H1 locs ht hvm hw hB hz1 hk1 hS => ?_)
  have hw := hw.symm
  subst hw
  obtain ⟨hP1, hK1, hD1⟩ := hB
  rw [ht] at hP1
  obtain ⟨hP, hD⟩ := va_join (wr := []) (w1 := [(h_t, .inr (3, [.ref h_t_signs, .ref h_t_letters, .int t_length, .int t_at, .int t_size, .int t_faultPlace, .int t_faultReason, .int t_lettersTold, .int t_repeatsTold, .int t_correctionsTold, .int t_mostCorrections, .int t_deepest, .int t_fresh])), (h_t_signs, .inl (cI, 60, .inl t_signs))]) hP hD [0, 1] [] rfl rfl (by decide) (by decide) hk1 hFc hP1 hD1
  generalize H1 = H at hP hS ⊢
  have hP : va_P (dC, dI) vwCl [(h_t, .inr (3, [.ref h_t_signs, .ref h_t_letters, .int t_length, .int t_at, .int t_size, .int t_faultPlace, .int t_faultReason, .int t_lettersTold, .int t_repeatsTold, .int t_correctionsTold, .int t_mostCorrections, .int t_deepest, .int t_fresh])), (h_t_signs, .inl (cI, 60, .inl t_signs))] H := hP
  have hD : va_D A [(h_t, .inr (3, [.ref h_t_signs, .ref h_t_letters, .int t_length, .int t_at, .int t_size, .int t_faultPlace, .int t_faultReason, .int t_lettersTold, .int t_repeatsTold, .int t_correctionsTold, .int t_mostCorrections, .int t_deepest, .int t_fresh])), (h_t_signs, .inl (cI, 60, .inl t_signs))] := hD
  refine lv_iload_n hx hb dX4_reads_4 rfl (lv_at hl 1 rfl) ?_
  refine lv_icmp_eq (tgt := 19) hx hb dX4_reads_5 (by decide) (fun c_2 => ?_) (fun c_2 => ?_)
  · have hres := it_of hres c_2
    refine lv_aload_n hx hb dX4_reads_19 rfl (lv_at hl 0 rfl) ?_
    refine lv_dup hx hb dX4_reads_20 rfl ?_
    refine va_get (D := (dC, dI)) (ci := 3) (v := .int t_at) (C := RX4) (T := TX4) (N := 13) hx hb hts iRd_reads_X4_reads_1 hown hK hP 0 rfl rfl 3 (by decide) (hts _ kRd_reads_X4_reads_0) (fun _ h9 => h9) rfl dX4_reads_21 ?_
    refine lv_iconst (v := (1 : Int32)) hx hb dX4_reads_24 (by decide) ?_
    refine lv_iadd hx hb dX4_reads_25 ?_
    refine va_put (D := (dC, dI)) (ci := 3) (v := .int (t_at + (1 : Int32))) (ty := .int) (C := RX4) (T := TX4) (N := 13) hx hb hts iRd_reads_X4_reads_1 tyX4 tyX4_ok nmX4 hown hK hP hD hS 0 rfl rfl 3 (by decide) (hts _ kRd_reads_X4_reads_0) (fun _ h9 => h9) rfl (by decide +kernel) rfl rfl (Nat.le_of_ble_eq_true rfl) dX4_reads_26 (fun H locs hP hD hS => ?_)
    have hP : va_P (dC, dI) vwCl [(h_t, .inr (3, [.ref h_t_signs, .ref h_t_letters, .int t_length, .int (t_at + (1 : Int32)), .int t_size, .int t_faultPlace, .int t_faultReason, .int t_lettersTold, .int t_repeatsTold, .int t_correctionsTold, .int t_mostCorrections, .int t_deepest, .int t_fresh])), (h_t_signs, .inl (cI, 60, .inl t_signs))] H := hP
    have hD : va_D A [(h_t, .inr (3, [.ref h_t_signs, .ref h_t_letters, .int t_length, .int (t_at + (1 : Int32)), .int t_size, .int t_faultPlace, .int t_faultReason, .int t_lettersTold, .int t_repeatsTold, .int t_correctionsTold, .int t_mostCorrections, .int t_deepest, .int t_fresh])), (h_t_signs, .inl (cI, 60, .inl t_signs))] := hD
    refine lv_iconst (v := (1 : Int32)) hx hb dX4_reads_29 (by decide) ?_
    obtain ⟨e9_0, e9_1, e9_2, e9_3⟩ := tup4 hres
    subst e9_0
    subst e9_1
    subst e9_2
    subst e9_3
    rw [← hQQ]
    exact W.zret (v := (1 : Int32)) hx hb hr rfl (fun t ht hW => ⟨⟨(1 : Int32), (), rfl, rfl, by rw [ht]; exact hP, va_K.moved hW.alike hK, hD⟩, hS.F ht⟩) hS.2.2 dX4_reads_30
  · have hres := ie_of hres c_2
    refine lv_aload_n hx hb dX4_reads_8 rfl (lv_at hl 0 rfl) ?_
    refine lv_aload_n hx hb dX4_reads_9 rfl (lv_at hl 0 rfl) ?_
    refine va_get (D := (dC, dI)) (ci := 3) (v := .int t_at) (C := RX4) (T := TX4) (N := 13) hx hb hts iRd_reads_X4_reads_1 hown hK hP 0 rfl rfl 3 (by decide) (hts _ kRd_reads_X4_reads_0) (fun _ h9 => h9) rfl dX4_reads_10 ?_
    refine lv_iconst (v := (1 : Int32)) hx hb dX4_reads_13 (by decide) ?_
    obtain ⟨o3, ho3, hres⟩ := bd_of hres
    have hPc := hP.sub (ws' := [(h_t, .inr (3, [.ref h_t_signs, .ref h_t_letters, .int t_length, .int t_at, .int t_size, .int t_faultPlace, .int t_faultReason, .int t_lettersTold, .int t_repeatsTold, .int t_correctionsTold, .int t_mostCorrections, .int t_deepest, .int t_fresh]))]) [0] rfl
    have hDc := hD.sub (ws' := [(h_t, .inr (3, [.ref h_t_signs, .ref h_t_letters, .int t_length, .int t_at, .int t_size, .int t_faultPlace, .int t_faultReason, .int t_lettersTold, .int t_repeatsTold, .int t_correctionsTold, .int t_mostCorrections, .int t_deepest, .int t_fresh]))]) [0] (by decide) rfl
    have hFc := va_free (wc := [(h_t, .inr (3, [.ref h_t_signs, .ref h_t_letters, .int t_length, .int t_at, .int t_size, .int t_faultPlace, .int t_faultReason, .int t_lettersTold, .int t_repeatsTold, .int t_correctionsTold, .int t_mostCorrections, .int t_deepest, .int t_fresh]))]) hD hS hA [0] rfl
    refine va_callv (va_runV (As := [.int t_at, .int (1 : Int32)]) (rest := []) ⟨hx, hb, hml, hown, hts⟩ (cRd_blame l dC dI cI cJ cC cS h_t h_t_signs h_t_letters H.size t_length t_at t_size t_faultPlace t_faultReason t_lettersTold t_repeatsTold t_correctionsTold t_mostCorrections t_deepest t_fresh t_at (1 : Int32) o3.1 o3.2 ho3) (cwV 2 hts gX4_reads_X4_blame rfl rfl rfl (by decide +kernel) ⟨Nat.le_of_ble_eq_true rfl, Nat.le_of_ble_eq_true rfl⟩) ⟨fun a U g mk q => by obtain ⟨q0, q1, qP, qK, qN, qD⟩ := q; exact ⟨q0, q1, qP, va_K.moved (u := U) (U := U.calling g mk a) (Vm.Alike.refl U.vm) qK, nwS (u := U) (U := U.calling g mk a) rfl qN, qD⟩, va_recv hK hPc (ci := 3) (q0 := 0) rfl rfl, fun U hU hW => ⟨rfl, by rw [hU], by rw [hU]; exact hPc, va_K.moved hW.alike hK, nwW hW hN, hDc.weaken (fun _ _ _ _ => trivial)⟩⟩ rfl rfl hl.1 rfl (lv_room (Nat.le_of_ble_eq_true rfl)) dX4_reads_14 ⟨Nat.zero_le _, Nat.zero_le _⟩) hS (fun q _ h => hFc q h) hFc (fun u9 t H1 locs ht hvm hw hB hz1 hk1 hS => ?_)
    obtain ⟨hP1, hK1, hD1⟩ := hB
    rw [ht] at hP1
    obtain ⟨hP, hD⟩ := va_join (wr := [(h_t_signs, .inl (cI, 60, .inl t_signs))]) (w1 := [(h_t, .inr (3, [.ref h_t_signs, .ref h_t_letters, .int t_length, .int t_at, .int t_size, .int o3.1, .int o3.2, .int t_lettersTold, .int t_repeatsTold, .int t_correctionsTold, .int t_mostCorrections, .int t_deepest, .int t_fresh]))]) hP hD [0] [1] rfl rfl (by decide) (by decide) hk1 hFc hP1 hD1
    generalize H1 = H at hP hS ⊢
    have hP : va_P (dC, dI) vwCl [(h_t_signs, .inl (cI, 60, .inl t_signs)), (h_t, .inr (3, [.ref h_t_signs, .ref h_t_letters, .int t_length, .int t_at, .int t_size, .int o3.1, .int o3.2, .int t_lettersTold, .int t_repeatsTold, .int t_correctionsTold, .int t_mostCorrections, .int t_deepest, .int t_fresh]))] H := hP
    have hD : va_D A [(h_t_signs, .inl (cI, 60, .inl t_signs)), (h_t, .inr (3, [.ref h_t_signs, .ref h_t_letters, .int t_length, .int t_at, .int t_size, .int o3.1, .int o3.2, .int t_lettersTold, .int t_repeatsTold, .int t_correctionsTold, .int t_mostCorrections, .int t_deepest, .int t_fresh]))] := hD
    refine lv_iconst (v := (0 : Int32)) hx hb dX4_reads_17 (by decide) ?_
    obtain ⟨e9_0, e9_1, e9_2, e9_3⟩ := tup4 hres
    subst e9_0
    subst e9_1
    subst e9_2
    subst e9_3
    rw [← hQQ]
    exact W.zret (v := (0 : Int32)) hx hb hr rfl (fun t ht hW => ⟨⟨(0 : Int32), (), rfl, rfl, by rw [ht]; exact hP.sub [1, 0] rfl, va_K.moved hW.alike hK, hD.sub [1, 0] (by decide) rfl⟩, hS.F ht⟩) hS.2.2 dX4_reads_18

-- Rd_readCorrection
theorem kRd_readCorrection_X4_readCorrection_0 : Cond.fieldLink RX4 22 "RepeatNests$Reader" "at" "I" ∈ wsX4_readCorrection := by decide +kernel
theorem iRd_readCorrection_X4_readCorrection_1 : ∀ w ∈ wsX40, w ∈ wsX4_readCorrection := by decide +kernel
theorem kRd_readCorrection_X4_readCorrection_2 : Cond.fieldLink RX4 25 "RepeatNests$Reader" "size" "I" ∈ wsX4_readCorrection := by decide +kernel
set_option maxHeartbeats 4000000 in
set_option maxRecDepth 100000 in
theorem cRd_readCorrection (l : Launch) (dC : Nat → ClassId) (dI : Nat → Nat → Nat) (cI cJ cC cS : ClassId) (h_t h_t_signs h_t_letters : Nat) (sz : Nat) (t_length : Int32) (t_at : Int32) (t_size : Int32) (t_faultPlace : Int32) (t_faultReason : Int32) (t_lettersTold : Int32) (t_repeatsTold : Int32) (t_correctionsTold : Int32) (t_mostCorrections : Int32) (t_deepest : Int32) (t_fresh : Int32) (t_letters : Nat → Int32) (t_signs : Nat → Int32) (x1 : Int32) (x2 : Int32) (r : Int32) (y_t_at : Int32) (y_t_faultPlace : Int32) (y_t_faultReason : Int32) (y_t_letters : Nat → Int32) (hres : fRd_readCorrection t_length t_size t_signs t_at t_faultPlace t_faultReason t_letters x1 x2 = some (r, y_t_at, y_t_faultPlace, y_t_faultReason, y_t_letters)) :
    Met l yX4_readCorrection wsX4_readCorrection ({ frames := 2, cells := 0, slots := 0, locals := 43 } : Room) (va_Pc [.ref h_t, .int x1, .int x2] (fun (U : State) => U.heap.size = sz ∧ va_P (dC, dI) vwCl [(h_t, .inr (3, [.ref h_t_signs, .ref h_t_letters, .int t_length, .int t_at, .int t_size, .int t_faultPlace, .int t_faultReason, .int t_lettersTold, .int t_repeatsTold, .int t_correctionsTold, .int t_mostCorrections, .int t_deepest, .int t_fresh])), (h_t_letters, .inl (cI, 744, .inl t_letters)), (h_t_signs, .inl (cI, 60, .inl t_signs))] U.heap ∧ va_K (dC, dI) vwCl (tyA cI cJ cC cS) U ∧ nwN U ∧ va_D (fun _ => True) [(h_t, .inr (3, [.ref h_t_signs, .ref h_t_letters, .int t_length, .int t_at, .int t_size, .int t_faultPlace, .int t_faultReason, .int t_lettersTold, .int t_repeatsTold, .int t_correctionsTold, .int t_mostCorrections, .int t_deepest, .int t_fresh])), (h_t_letters, .inl (cI, 744, .inl t_letters)), (h_t_signs, .inl (cI, 60, .inl t_signs))])) (va_Qi (fun (r9 : Int32) (_ : Unit) => r9 = r) (fun (_ : Unit) (t : State) => va_P (dC, dI) vwCl [(h_t, .inr (3, [.ref h_t_signs, .ref h_t_letters, .int t_length, .int y_t_at, .int t_size, .int y_t_faultPlace, .int y_t_faultReason, .int t_lettersTold, .int t_repeatsTold, .int t_correctionsTold, .int t_mostCorrections, .int t_deepest, .int t_fresh])), (h_t_letters, .inl (cI, 744, .inl y_t_letters)), (h_t_signs, .inl (cI, 60, .inl t_signs))] t.heap ∧ va_K (dC, dI) vwCl (tyA cI cJ cC cS) t ∧ va_D (va_A [(h_t, .inr (3, [.ref h_t_signs, .ref h_t_letters, .int t_length, .int t_at, .int t_size, .int t_faultPlace, .int t_faultReason, .int t_lettersTold, .int t_repeatsTold, .int t_correctionsTold, .int t_mostCorrections, .int t_deepest, .int t_fresh])), (h_t_letters, .inl (cI, 744, .inl t_letters)), (h_t_signs, .inl (cI, 60, .inl t_signs))] sz) [(h_t, .inr (3, [.ref h_t_signs, .ref h_t_letters, .int t_length, .int y_t_at, .int t_size, .int y_t_faultPlace, .int y_t_faultReason, .int t_lettersTold, .int t_repeatsTold, .int t_correctionsTold, .int t_mostCorrections, .int t_deepest, .int t_fresh])), (h_t_letters, .inl (cI, 744, .inl y_t_letters)), (h_t_signs, .inl (cI, 60, .inl t_signs))]) (va_A [(h_t, .inr (3, [.ref h_t_signs, .ref h_t_letters, .int t_length, .int t_at, .int t_size, .int t_faultPlace, .int t_faultReason, .int t_lettersTold, .int t_repeatsTold, .int t_correctionsTold, .int t_mostCorrections, .int t_deepest, .int t_fresh])), (h_t_letters, .inl (cI, 744, .inl t_letters)), (h_t_signs, .inl (cI, 60, .inl t_signs))] sz)) 0 0 (va_A [(h_t, .inr (3, [.ref h_t_signs, .ref h_t_letters, .int t_length, .int t_at, .int t_size, .int t_faultPlace, .int t_faultReason, .int t_lettersTold, .int t_repeatsTold, .int t_correctionsTold, .int t_mostCorrections, .int t_deepest, .int t_fresh])), (h_t_letters, .inl (cI, 744, .inl t_letters)), (h_t_signs, .inl (cI, 60, .inl t_signs))] sz) := by
  refine Met.ofW (cc := cX4_readCorrection) (maxL := 6) (ret := (some .int)) (by decide) rfl ?_
  intro p e s m args below meth c s₁ B hml hv
  obtain ⟨hargs, hsz, hP, hK, hN, hD0⟩ := hv
  have hx := B.exec
  have hb := B.bytes
  have hr := B.returns
  have hts := atoms_spec (ws := wsX4_readCorrection) B.pre
  have hown : s.vm.findClass RX4 = some m.cls := findClass_of_methodNamed B.named
  have hlocks := B.notSynchronized
  subst hsz
  have hD := hD0.self (sz := s.heap.size)
  generalize hAe : va_A [(h_t, .inr (3, [.ref h_t_signs, .ref h_t_letters, .int t_length, .int t_at, .int t_size, .int t_faultPlace, .int t_faultReason, .int t_lettersTold, .int t_repeatsTold, .int t_correctionsTold, .int t_mostCorrections, .int t_deepest, .int t_fresh])), (h_t_letters, .inl (cI, 744, .inl t_letters)), (h_t_signs, .inl (cI, 60, .inl t_signs))] s.heap.size = A at hD ⊢
  have hA : ∀ q : Nat, s.heap.size ≤ q → A q := fun q h => by rw [← hAe]; exact Or.inr h
  have hS : va_S A s.heap s.heap [] := va_S.rf
  have hP : va_P (dC, dI) vwCl [(h_t, .inr (3, [.ref h_t_signs, .ref h_t_letters, .int t_length, .int t_at, .int t_size, .int t_faultPlace, .int t_faultReason, .int t_lettersTold, .int t_repeatsTold, .int t_correctionsTold, .int t_mostCorrections, .int t_deepest, .int t_fresh])), (h_t_letters, .inl (cI, 744, .inl t_letters)), (h_t_signs, .inl (cI, 60, .inl t_signs))] s.heap := hP
  have hl := lv_entry [.ref h_t, .int x1, .int x2] (n := 6) (Nat.le_of_ble_eq_true rfl)
  rw [show entryFrame m args 6 = entryFrame m ([.ref h_t, .int x1, .int x2] : List Value).toArray 6 from by rw [hargs], lg_entry_eq]
  generalize (lg_sl [.ref h_t, .int x1, .int x2] ++ List.replicate (6 - (lg_sl [.ref h_t, .int x1, .int x2]).length) Slot.unset).toArray = ls at hl ⊢
  have hl : lv_has ls 6 [(0, .ref h_t), (1, .int x1), (2, .int x2)] := hl
  generalize hQQ : MQ below (va_Qi (fun (r9 : Int32) (_ : Unit) => r9 = r) (fun (_ : Unit) (t : State) => va_P (dC, dI) vwCl [(h_t, .inr (3, [.ref h_t_signs, .ref h_t_letters, .int t_length, .int y_t_at, .int t_size, .int y_t_faultPlace, .int y_t_faultReason, .int t_lettersTold, .int t_repeatsTold, .int t_correctionsTold, .int t_mostCorrections, .int t_deepest, .int t_fresh])), (h_t_letters, .inl (cI, 744, .inl y_t_letters)), (h_t_signs, .inl (cI, 60, .inl t_signs))] t.heap ∧ va_K (dC, dI) vwCl (tyA cI cJ cC cS) t ∧ va_D A [(h_t, .inr (3, [.ref h_t_signs, .ref h_t_letters, .int t_length, .int y_t_at, .int t_size, .int y_t_faultPlace, .int y_t_faultReason, .int t_lettersTold, .int t_repeatsTold, .int t_correctionsTold, .int t_mostCorrections, .int t_deepest, .int t_fresh])), (h_t_letters, .inl (cI, 744, .inl y_t_letters)), (h_t_signs, .inl (cI, 60, .inl t_signs))]) A) args s 0 0 A = QQ
  obtain ⟨H, hH⟩ : ∃ H : Heap, H = s.heap := ⟨_, rfl⟩
  obtain ⟨locs, hlocs⟩ : ∃ locs : List Loc, locs = [] := ⟨_, rfl⟩
  rw [← hH] at hP
  have hS : va_S A s.heap H locs := by rw [hH, hlocs]; exact hS
  suffices hZ : W p l e (headSpec wsX4_readCorrection ({ frames := 2, cells := 0, slots := 0, locals := 43 } : Room)).room s m args below meth c H locs 0 0 QQ (F0 m 0 ls []) by rw [hH, hlocs] at hZ; exact hZ
  clear hH hlocs
  have hK132 : ∀ (x3 : Int32) (t_at : Int32) (t_faultPlace : Int32) (t_faultReason : Int32) (t_letters : Nat → Int32) (H : Heap) (locs : List Loc) (ls : Array Slot), fRd_readCorrection_132 x2 x3 t_at t_faultPlace t_faultReason t_letters = some (r, y_t_at, y_t_faultPlace, y_t_faultReason, y_t_letters) → va_P (dC, dI) vwCl [(h_t, .inr (3, [.ref h_t_signs, .ref h_t_letters, .int t_length, .int t_at, .int t_size, .int t_faultPlace, .int t_faultReason, .int t_lettersTold, .int t_repeatsTold, .int t_correctionsTold, .int t_mostCorrections, .int t_deepest, .int t_fresh])), (h_t_letters, .inl (cI, 744, .inl t_letters)), (h_t_signs, .inl (cI, 60, .inl t_signs))] H → va_D A [(h_t, .inr (3, [.ref h_t_signs, .ref h_t_letters, .int t_length, .int t_at, .int t_size, .int t_faultPlace, .int t_faultReason, .int t_lettersTold, .int t_repeatsTold, .int t_correctionsTold, .int t_mostCorrections, .int t_deepest, .int t_fresh])), (h_t_letters, .inl (cI, 744, .inl t_letters)), (h_t_signs, .inl (cI, 60, .inl t_signs))] → va_S A s.heap H locs → lv_has ls 6 [(0, .ref h_t), (2, .int x2), (3, .int x3)] → W p l e (headSpec wsX4_readCorrection ({ frames := 2, cells := 0, slots := 0, locals := 43 } : Room)).room s m args below meth c H locs 0 0 QQ (F0 m 132 ls []) := by
    intro x3 t_at t_faultPlace t_faultReason t_letters H locs ls hres hP hD hS hl
    rw [fRd_readCorrection_132] at hres
    refine lv_aload_n hx hb dX4_readCorrection_132 rfl (lv_at hl 0 rfl) ?_
    refine lv_iload_n hx hb dX4_readCorrection_133 rfl (lv_at hl 2 rfl) ?_
    refine lv_iconst (v := (3 : Int32)) hx hb dX4_readCorrection_134 (by decide) ?_
    obtain ⟨o1, ho1, hres⟩ := bd_of hres
    have hPc := hP.sub (ws' := [(h_t, .inr (3, [.ref h_t_signs, .ref h_t_letters, .int t_length, .int t_at, .int t_size, .int t_faultPlace, .int t_faultReason, .int t_lettersTold, .int t_repeatsTold, .int t_correctionsTold, .int t_mostCorrections, .int t_deepest, .int t_fresh]))]) [0] rfl
    have hDc := hD.sub (ws' := [(h_t, .inr (3, [.ref h_t_signs, .ref h_t_letters, .int t_length, .int t_at, .int t_size, .int t_faultPlace, .int t_faultReason, .int t_lettersTold, .int t_repeatsTold, .int t_correctionsTold, .int t_mostCorrections, .int t_deepest, .int t_fresh]))]) [0] (by decide) rfl
    have hFc := va_free (wc := [(h_t, .inr (3, [.ref h_t_signs, .ref h_t_letters, .int t_length, .int t_at, .int t_size, .int t_faultPlace, .int t_faultReason, .int t_lettersTold, .int t_repeatsTold, .int t_correctionsTold, .int t_mostCorrections, .int t_deepest, .int t_fresh]))]) hD hS hA [0] rfl
    refine va_callv (va_runV (As := [.int x3, .int (3 : Int32)]) (rest := []) ⟨hx, hb, hml, hown, hts⟩ (cRd_blame l dC dI cI cJ cC cS h_t h_t_signs h_t_letters H.size t_length t_at t_size t_faultPlace t_faultReason t_lettersTold t_repeatsTold t_correctionsTold t_mostCorrections t_deepest t_fresh x3 (3 : Int32) o1.1 o1.2 ho1) (cwV 2 hts gX4_readCorrection_X4_blame rfl rfl rfl (by decide +kernel) ⟨Nat.le_of_ble_eq_true rfl, Nat.le_of_ble_eq_true rfl⟩) ⟨fun a U g mk q => by obtain ⟨q0, q1, qP, qK, qN, qD⟩ := q; exact ⟨q0, q1, qP, va_K.moved (u := U) (U := U.calling g mk a) (Vm.Alike.refl U.vm) qK, nwS (u := U) (U := U.calling g mk a) rfl qN, qD⟩, va_recv hK hPc (ci := 3) (q0 := 0) rfl rfl, fun U hU hW => ⟨rfl, by rw [hU], by rw [hU]; exact hPc, va_K.moved hW.alike hK, nwW hW hN, hDc.weaken (fun _ _ _ _ => trivial)⟩⟩ rfl rfl hl.1 rfl (lv_room (Nat.le_of_ble_eq_true rfl)) dX4_readCorrection_135 ⟨Nat.zero_le _, Nat.zero_le _⟩) hS (fun q _ h => hFc q h) hFc (fun u9 t H1 locs ht hvm hw hB hz1 hk1 hS => ?_)
    obtain ⟨hP1, hK1, hD1⟩ := hB
    rw [ht] at hP1
    obtain ⟨hP, hD⟩ := va_join (wr := [(h_t_letters, .inl (cI, 744, .inl t_letters)), (h_t_signs, .inl (cI, 60, .inl t_signs))]) (w1 := [(h_t, .inr (3, [.ref h_t_signs, .ref h_t_letters, .int t_length, .int t_at, .int t_size, .int o1.1, .int o1.2, .int t_lettersTold, .int t_repeatsTold, .int t_correctionsTold, .int t_mostCorrections, .int t_deepest, .int t_fresh]))]) hP hD [0] [1, 2] rfl rfl (by decide) (by decide) hk1 hFc hP1 hD1
    generalize H1 = H at hP hS ⊢
    have hP : va_P (dC, dI) vwCl [(h_t_letters, .inl (cI, 744, .inl t_letters)), (h_t_signs, .inl (cI, 60, .inl t_signs)), (h_t, .inr (3, [.ref h_t_signs, .ref h_t_letters, .int t_length, .int t_at, .int t_size, .int o1.1, .int o1.2, .int t_lettersTold, .int t_repeatsTold, .int t_correctionsTold, .int t_mostCorrections, .int t_deepest, .int t_fresh]))] H := hP
    have hD : va_D A [(h_t_letters, .inl (cI, 744, .inl t_letters)), (h_t_signs, .inl (cI, 60, .inl t_signs)), (h_t, .inr (3, [.ref h_t_signs, .ref h_t_letters, .int t_length, .int t_at, .int t_size, .int o1.1, .int o1.2, .int t_lettersTold, .int t_repeatsTold, .int t_correctionsTold, .int t_mostCorrections, .int t_deepest, .int t_fresh]))] := hD
    refine lv_iload_n hx hb dX4_readCorrection_138 rfl (lv_at hl 1 rfl) ?_
    obtain ⟨e9_0, e9_1, e9_2, e9_3, e9_4⟩ := tup5 hres
    subst e9_0
    subst e9_1
    subst e9_2
    subst e9_3
    subst e9_4
    rw [← hQQ]
    exact W.iret (v := x2) hx hb hr (fun t ht hW => ⟨⟨x2, (), rfl, rfl, by rw [ht]; exact hP.sub [2, 0, 1] rfl, va_K.moved hW.alike hK, hD.sub [2, 0, 1] (by decide) rfl⟩, hS.F ht⟩) hS.2.2 dX4_readCorrection_139
  rw [fRd_readCorrection] at hres
  refine lv_aload_n hx hb dX4_readCorrection_0 rfl (lv_at hl 0 rfl) ?_
  refine va_get (D := (dC, dI)) (ci := 3) (v := .int t_at) (C := RX4) (T := TX4) (N := 13) hx hb hts iRd_readCorrection_X4_readCorrection_1 hown hK hP 0 rfl rfl 3 (by decide) (hts _ kRd_readCorrection_X4_readCorrection_0) (fun _ h9 => h9) rfl dX4_readCorrection_1 ?_
  refine lv_istore_n (lv' := [(3, .int t_at), (0, .ref h_t), (1, .int x1), (2, .int x2)]) hx hb dX4_readCorrection_4 rfl hl (by decide) rfl (fun ls hl => ?_)
  refine lv_aload_n hx hb dX4_readCorrection_5 rfl (lv_at hl 1 rfl) ?_
  refine lv_dup hx hb dX4_readCorrection_6 rfl ?_
  refine va_get (D := (dC, dI)) (ci := 3) (v := .int t_at) (C := RX4) (T := TX4) (N := 13) hx hb hts iRd_readCorrection_X4_readCorrection_1 hown hK hP 0 rfl rfl 3 (by decide) (hts _ kRd_readCorrection_X4_readCorrection_0) (fun _ h9 => h9) rfl dX4_readCorrection_7 ?_
  refine lv_iconst (v := (1 : Int32)) hx hb dX4_readCorrection_10 (by decide) ?_
  refine lv_iadd hx hb dX4_readCorrection_11 ?_
  refine va_put (D := (dC, dI)) (ci := 3) (v := .int (t_at + (1 : Int32))) (ty := .int) (C := RX4) (T := TX4) (N := 13) hx hb hts iRd_readCorrection_X4_readCorrection_1 tyX4 tyX4_ok nmX4 hown hK hP hD hS 0 rfl rfl 3 (by decide) (hts _ kRd_readCorrection_X4_readCorrection_0) (fun _ h9 => h9) rfl (by decide +kernel) rfl rfl (Nat.le_of_ble_eq_true rfl) dX4_readCorrection_12 (fun H locs hP hD hS => ?_)
  have hP : va_P (dC, dI) vwCl [(h_t, .inr (3, [.ref h_t_signs, .ref h_t_letters, .int t_length, .int (t_at + (1 : Int32)), .int t_size, .int t_faultPlace, .int t_faultReason, .int t_lettersTold, .int t_repeatsTold, .int t_correctionsTold, .int t_mostCorrections, .int t_deepest, .int t_fresh])), (h_t_letters, .inl (cI, 744, .inl t_letters)), (h_t_signs, .inl (cI, 60, .inl t_signs))] H := hP
  have hD : va_D A [(h_t, .inr (3, [.ref h_t_signs, .ref h_t_letters, .int t_length, .int (t_at + (1 : Int32)), .int t_size, .int t_faultPlace, .int t_faultReason, .int t_lettersTold, .int t_repeatsTold, .int t_correctionsTold, .int t_mostCorrections, .int t_deepest, .int t_fresh])), (h_t_letters, .inl (cI, 744, .inl t_letters)), (h_t_signs, .inl (cI, 60, .inl t_signs))] := hD
  refine lv_aload_n hx hb dX4_readCorrection_15 rfl (lv_at hl 1 rfl) ?_
  obtain ⟨o2, ho2, hres⟩ := bd_of hres
  have hPc := hP.sub (ws' := [(h_t, .inr (3, [.ref h_t_signs, .ref h_t_letters, .int t_length, .int (t_at + (1 : Int32)), .int t_size, .int t_faultPlace, .int t_faultReason, .int t_lettersTold, .int t_repeatsTold, .int t_correctionsTold, .int t_mostCorrections, .int t_deepest, .int t_fresh])), (h_t_signs, .inl (cI, 60, .inl t_signs))]) [0, 2] rfl
  have hDc := hD.sub (ws' := [(h_t, .inr (3, [.ref h_t_signs, .ref h_t_letters, .int t_length, .int (t_at + (1 : Int32)), .int t_size, .int t_faultPlace, .int t_faultReason, .int t_lettersTold, .int t_repeatsTold, .int t_correctionsTold, .int t_mostCorrections, .int t_deepest, .int t_fresh])), (h_t_signs, .inl (cI, 60, .inl t_signs))]) [0, 2] (by decide) rfl
  have hFc := va_free (wc := [(h_t, .inr (3, [.ref h_t_signs, .ref h_t_letters, .int t_length, .int (t_at + (1 : Int32)), .int t_size, .int t_faultPlace, .int t_faultReason, .int t_lettersTold, .int t_repeatsTold, .int t_correctionsTold, .int t_mostCorrections, .int t_deepest, .int t_fresh])), (h_t_signs, .inl (cI, 60, .inl t_signs))]) hD hS hA [0, 2] rfl
  refine va_calli (va_runV (As := []) (rest := []) ⟨hx, hb, hml, hown, hts⟩ (cRd_sign l dC dI cI cJ cC cS h_t h_t_signs h_t_letters H.size t_length (t_at + (1 : Int32)) t_size t_faultPlace t_faultReason t_lettersTold t_repeatsTold t_correctionsTold t_mostCorrections t_deepest t_fresh t_signs o2 ho2) (cwV 0 hts gX4_readCorrection_X4_sign rfl rfl rfl (by decide +kernel) ⟨Nat.le_of_ble_eq_true rfl, Nat.le_of_ble_eq_true rfl⟩) ⟨fun a U g mk q => by obtain ⟨q0, q1, qP, qK, qN, qD⟩ := q; exact ⟨q0, q1, qP, va_K.moved (u := U) (U := U.calling g mk a) (Vm.Alike.refl U.vm) qK, nwS (u := U) (U := U.calling g mk a) rfl qN, qD⟩, va_recv hK hPc (ci := 3) (q0 := 0) rfl rfl, fun U hU hW => ⟨rfl, by rw [hU], by rw [hU]; exact hPc, va_K.moved hW.alike hK, nwW hW hN, hDc.weaken (fun _ _ _ _ => trivial)⟩⟩ rfl rfl hl.1 rfl (lv_room (Nat.le_of_ble_eq_true rfl)) dX4_readCorrection_16 ⟨Nat.zero_le _, Nat.zero_le _⟩) hS (fun q _ h => hFc q h) hFc (fun r9 u9 t H1 locs ht hvm hw hB hz1 hk1 hS => ?_)
  have hw := hw.symm
  subst hw
  obtain ⟨hP1, hK1, hD1⟩ := hB
  rw [ht] at hP1
  obtain ⟨hP, hD⟩ := va_join (wr := [(h_t_letters, .inl (cI, 744, .inl t_letters))]) (w1 := [(h_t, .inr (3, [.ref h_t_signs, .ref h_t_letters, .int t_length, .int (t_at + (1 : Int32)), .int t_size, .int t_faultPlace, .int t_faultReason, .int t_lettersTold, .int t_repeatsTold, .int t_correctionsTold, .int t_mostCorrections, .int t_deepest, .int t_fresh])), (h_t_signs, .inl (cI, 60, .inl t_signs))]) hP hD [0, 2] [1] rfl rfl (by decide) (by decide) hk1 hFc hP1 hD1
  generalize H1 = H at hP hS ⊢
  have hP : va_P (dC, dI) vwCl [(h_t_letters, .inl (cI, 744, .inl t_letters)), (h_t, .inr (3, [.ref h_t_signs, .ref h_t_letters, .int t_length, .int (t_at + (1 : Int32)), .int t_size, .int t_faultPlace, .int t_faultReason, .int t_lettersTold, .int t_repeatsTold, .int t_correctionsTold, .int t_mostCorrections, .int t_deepest, .int t_fresh])), (h_t_signs, .inl (cI, 60, .inl t_signs))] H := hP
  have hD : va_D A [(h_t_letters, .inl (cI, 744, .inl t_letters)), (h_t, .inr (3, [.ref h_t_signs, .ref h_t_letters, .int t_length, .int (t_at + (1 : Int32)), .int t_size, .int t_faultPlace, .int t_faultReason, .int t_lettersTold, .int t_repeatsTold, .int t_correctionsTold, .int t_mostCorrections, .int t_deepest, .int t_fresh])), (h_t_signs, .inl (cI, 60, .inl t_signs))] := hD
  obtain ⟨o3, ho3, hres⟩ := bd_of hres
  have hPc := hP.sub (ws' := []) [] rfl
  have hDc := hD.sub (ws' := []) [] (by decide) rfl
  have hFc := va_free (wc := []) hD hS hA [] rfl
  refine va_calli (va_runS (As := [.int o2]) (rest := []) ⟨hx, hb, hml, hown, hts⟩ (cRd_isDigit l dC dI cI cJ cC cS H.size o2 o3 ho3) (va_cwS 1 hts gX4_readCorrection_X4_isDigit rfl rfl rfl (by decide +kernel) ⟨Nat.le_of_ble_eq_true rfl, Nat.le_of_ble_eq_true rfl⟩) ⟨fun a U g mk q => by obtain ⟨q0, q1, qP, qK, qN, qD⟩ := q; exact ⟨q0, q1, qP, va_K.moved (u := U) (U := U.calling g mk a) (Vm.Alike.refl U.vm) qK, nwS (u := U) (U := U.calling g mk a) rfl qN, qD⟩, fun U hU hW => ⟨rfl, by rw [hU], by rw [hU]; exact hPc, va_K.moved hW.alike hK, nwW hW hN, hDc.weaken (fun _ _ _ _ => trivial)⟩⟩ rfl rfl hl.1 rfl (lv_room (Nat.le_of_ble_eq_true rfl)) dX4_readCorrection_19 ⟨Nat.zero_le _, Nat.zero_le _⟩) hS (fun q _ h => hFc q h) hFc (fun r9 u9 t H1 locs ht hvm hw hB hz1 hk1 hS => ?_)
  have hw := hw.symm
  subst hw
  obtain ⟨hP1, hK1, hD1⟩ := hB
  rw [ht] at hP1
  obtain ⟨hP, hD⟩ := va_join (wr := [(h_t_letters, .inl (cI, 744, .inl t_letters)), (h_t, .inr (3, [.ref h_t_signs, .ref h_t_letters, .int t_length, .int (t_at + (1 : Int32)), .int t_size, .int t_faultPlace, .int t_faultReason, .int t_lettersTold, .int t_repeatsTold, .int t_correctionsTold, .int t_mostCorrections, .int t_deepest, .int t_fresh])), (h_t_signs, .inl (cI, 60, .inl t_signs))]) (w1 := []) hP hD [] [0, 1, 2] rfl rfl (by decide) (by decide) hk1 hFc hP1 hD1
  generalize H1 = H at hP hS ⊢
  have hP : va_P (dC, dI) vwCl [(h_t_letters, .inl (cI, 744, .inl t_letters)), (h_t, .inr (3, [.ref h_t_signs, .ref h_t_letters, .int t_length, .int (t_at + (1 : Int32)), .int t_size, .int t_faultPlace, .int t_faultReason, .int t_lettersTold, .int t_repeatsTold, .int t_correctionsTold, .int t_mostCorrections, .int t_deepest, .int t_fresh])), (h_t_signs, .inl (cI, 60, .inl t_signs))] H := hP
  have hD : va_D A [(h_t_letters, .inl (cI, 744, .inl t_letters)), (h_t, .inr (3, [.ref h_t_signs, .ref h_t_letters, .int t_length, .int (t_at + (1 : Int32)), .int t_size, .int t_faultPlace, .int t_faultReason, .int t_lettersTold, .int t_repeatsTold, .int t_correctionsTold, .int t_mostCorrections, .int t_deepest, .int t_fresh])), (h_t_signs, .inl (cI, 60, .inl t_signs))] := hD
  refine lv_if_ne (tgt := 36) hx hb dX4_readCorrection_22 (by decide) (fun c_4 => ?_) (fun c_4 => ?_)
  · have hres := ie_of hres c_4
    refine lv_aload_n hx hb dX4_readCorrection_36 rfl (lv_at hl 1 rfl) ?_
    obtain ⟨o5, ho5, hres⟩ := bd_of hres
    have hPc := hP.sub (ws' := [(h_t, .inr (3, [.ref h_t_signs, .ref h_t_letters, .int t_length, .int (t_at + (1 : Int32)), .int t_size, .int t_faultPlace, .int t_faultReason, .int t_lettersTold, .int t_repeatsTold, .int t_correctionsTold, .int t_mostCorrections, .int t_deepest, .int t_fresh])), (h_t_signs, .inl (cI, 60, .inl t_signs))]) [1, 2] rfl
    have hDc := hD.sub (ws' := [(h_t, .inr (3, [.ref h_t_signs, .ref h_t_letters, .int t_length, .int (t_at + (1 : Int32)), .int t_size, .int t_faultPlace, .int t_faultReason, .int t_lettersTold, .int t_repeatsTold, .int t_correctionsTold, .int t_mostCorrections, .int t_deepest, .int t_fresh])), (h_t_signs, .inl (cI, 60, .inl t_signs))]) [1, 2] (by decide) rfl
    have hFc := va_free (wc := [(h_t, .inr (3, [.ref h_t_signs, .ref h_t_letters, .int t_length, .int (t_at + (1 : Int32)), .int t_size, .int t_faultPlace, .int t_faultReason, .int t_lettersTold, .int t_repeatsTold, .int t_correctionsTold, .int t_mostCorrections, .int t_deepest, .int t_fresh])), (h_t_signs, .inl (cI, 60, .inl t_signs))]) hD hS hA [1, 2] rfl
    refine va_calli (va_runV (As := []) (rest := []) ⟨hx, hb, hml, hown, hts⟩ (cRd_readNumber l dC dI cI cJ cC cS h_t h_t_signs h_t_letters H.size t_length (t_at + (1 : Int32)) t_size t_faultPlace t_faultReason t_lettersTold t_repeatsTold t_correctionsTold t_mostCorrections t_deepest t_fresh t_signs o5.1 o5.2 ho5) (cwV 0 hts gX4_readCorrection_X4_readNumber rfl rfl rfl (by decide +kernel) ⟨Nat.le_of_ble_eq_true rfl, Nat.le_of_ble_eq_true rfl⟩) ⟨fun a U g mk q => by obtain ⟨q0, q1, qP, qK, qN, qD⟩ := q; exact ⟨q0, q1, qP, va_K.moved (u := U) (U := U.calling g mk a) (Vm.Alike.refl U.vm) qK, nwS (u := U) (U := U.calling g mk a) rfl qN, qD⟩, va_recv hK hPc (ci := 3) (q0 := 0) rfl rfl, fun U hU hW => ⟨rfl, by rw [hU], by rw [hU]; exact hPc, va_K.moved hW.alike hK, nwW hW hN, hDc.weaken (fun _ _ _ _ => trivial)⟩⟩ rfl rfl hl.1 rfl (lv_room (Nat.le_of_ble_eq_true rfl)) dX4_readCorrection_37 ⟨Nat.zero_le _, Nat.zero_le _⟩) hS (fun q _ h => hFc q h) hFc (fun r9 u9 t H1 locs ht hvm hw hB hz1 hk1 hS => ?_)
    have hw := hw.symm
    subst hw
    obtain ⟨hP1, hK1, hD1⟩ := hB
    rw [ht] at hP1
    obtain ⟨hP, hD⟩ := va_join (wr := [(h_t_letters, .inl (cI, 744, .inl t_letters))]) (w1 := [(h_t, .inr (3, [.ref h_t_signs, .ref h_t_letters, .int t_length, .int o5.2, .int t_size, .int t_faultPlace, .int t_faultReason, .int t_lettersTold, .int t_repeatsTold, .int t_correctionsTold, .int t_mostCorrections, .int t_deepest, .int t_fresh])), (h_t_signs, .inl (cI, 60, .inl t_signs))]) hP hD [1, 2] [0] rfl rfl (by decide) (by decide) hk1 hFc hP1 hD1
    generalize H1 = H at hP hS ⊢
    have hP : va_P (dC, dI) vwCl [(h_t_letters, .inl (cI, 744, .inl t_letters)), (h_t, .inr (3, [.ref h_t_signs, .ref h_t_letters, .int t_length, .int o5.2, .int t_size, .int t_faultPlace, .int t_faultReason, .int t_lettersTold, .int t_repeatsTold, .int t_correctionsTold, .int t_mostCorrections, .int t_deepest, .int t_fresh])), (h_t_signs, .inl (cI, 60, .inl t_signs))] H := hP
    have hD : va_D A [(h_t_letters, .inl (cI, 744, .inl t_letters)), (h_t, .inr (3, [.ref h_t_signs, .ref h_t_letters, .int t_length, .int o5.2, .int t_size, .int t_faultPlace, .int t_faultReason, .int t_lettersTold, .int t_repeatsTold, .int t_correctionsTold, .int t_mostCorrections, .int t_deepest, .int t_fresh])), (h_t_signs, .inl (cI, 60, .inl t_signs))] := hD
    refine lv_istore (lv' := [(4, .int o5.1), (3, .int t_at), (0, .ref h_t), (1, .int x1), (2, .int x2)]) hx hb dX4_readCorrection_40 hl (by decide) rfl (fun ls hl => ?_)
    refine lv_aload_n hx hb dX4_readCorrection_42 rfl (lv_at hl 2 rfl) ?_
    refine lv_bipush (v := (44 : Int32)) hx hb dX4_readCorrection_43 (by decide) ?_
    obtain ⟨o6, ho6, hres⟩ := bd_of hres
    have hPc := hP.sub (ws' := [(h_t, .inr (3, [.ref h_t_signs, .ref h_t_letters, .int t_length, .int o5.2, .int t_size, .int t_faultPlace, .int t_faultReason, .int t_lettersTold, .int t_repeatsTold, .int t_correctionsTold, .int t_mostCorrections, .int t_deepest, .int t_fresh])), (h_t_signs, .inl (cI, 60, .inl t_signs))]) [1, 2] rfl
    have hDc := hD.sub (ws' := [(h_t, .inr (3, [.ref h_t_signs, .ref h_t_letters, .int t_length, .int o5.2, .int t_size, .int t_faultPlace, .int t_faultReason, .int t_lettersTold, .int t_repeatsTold, .int t_correctionsTold, .int t_mostCorrections, .int t_deepest, .int t_fresh])), (h_t_signs, .inl (cI, 60, .inl t_signs))]) [1, 2] (by decide) rfl
    have hFc := va_free (wc := [(h_t, .inr (3, [.ref h_t_signs, .ref h_t_letters, .int t_length, .int o5.2, .int t_size, .int t_faultPlace, .int t_faultReason, .int t_lettersTold, .int t_repeatsTold, .int t_correctionsTold, .int t_mostCorrections, .int t_deepest, .int t_fresh])), (h_t_signs, .inl (cI, 60, .inl t_signs))]) hD hS hA [1, 2] rfl
    refine va_calli (va_runV (As := [.int (44 : Int32)]) (rest := []) ⟨hx, hb, hml, hown, hts⟩ (cRd_reads l dC dI cI cJ cC cS h_t h_t_signs h_t_letters H.size t_length o5.2 t_size t_faultPlace t_faultReason t_lettersTold t_repeatsTold t_correctionsTold t_mostCorrections t_deepest t_fresh t_signs (44 : Int32) o6.1 o6.2.1 o6.2.2.1 o6.2.2.2 ho6) (cwV 1 hts gX4_readCorrection_X4_reads rfl rfl rfl (by decide +kernel) ⟨Nat.le_of_ble_eq_true rfl, Nat.le_of_ble_eq_true rfl⟩) ⟨fun a U g mk q => by obtain ⟨q0, q1, qP, qK, qN, qD⟩ := q; exact ⟨q0, q1, qP, va_K.moved (u := U) (U := U.calling g mk a) (Vm.Alike.refl U.vm) qK, nwS (u := U) (U := U.calling g mk a) rfl qN, qD⟩, va_recv hK hPc (ci := 3) (q0 := 0) rfl rfl, fun U hU hW => ⟨rfl, by rw [hU], by rw [hU]; exact hPc, va_K.moved hW.alike hK, nwW hW hN, hDc.weaken (fun _ _ _ _ => trivial)⟩⟩ rfl rfl hl.1 rfl (lv_room (Nat.le_of_ble_eq_true rfl)) dX4_readCorrection_45 ⟨Nat.zero_le _, Nat.zero_le _⟩) hS (fun q _ h => hFc q h) hFc (fun r9 u9 t H1 locs ht hvm hw hB hz1 hk1 hS => ?_)
    have hw := hw.symm
    subst hw
    obtain ⟨hP1, hK1, hD1⟩ := hB
    rw [ht] at hP1
    obtain ⟨hP, hD⟩ := va_join (wr := [(h_t_letters, .inl (cI, 744, .inl t_letters))]) (w1 := [(h_t, .inr (3, [.ref h_t_signs, .ref h_t_letters, .int t_length, .int o6.2.1, .int t_size, .int o6.2.2.1, .int o6.2.2.2, .int t_lettersTold, .int t_repeatsTold, .int t_correctionsTold, .int t_mostCorrections, .int t_deepest, .int t_fresh])), (h_t_signs, .inl (cI, 60, .inl t_signs))]) hP hD [1, 2] [0] rfl rfl (by decide) (by decide) hk1 hFc hP1 hD1
    generalize H1 = H at hP hS ⊢
    have hP : va_P (dC, dI) vwCl [(h_t_letters, .inl (cI, 744, .inl t_letters)), (h_t, .inr (3, [.ref h_t_signs, .ref h_t_letters, .int t_length, .int o6.2.1, .int t_size, .int o6.2.2.1, .int o6.2.2.2, .int t_lettersTold, .int t_repeatsTold, .int t_correctionsTold, .int t_mostCorrections, .int t_deepest, .int t_fresh])), (h_t_signs, .inl (cI, 60, .inl t_signs))] H := hP
    have hD : va_D A [(h_t_letters, .inl (cI, 744, .inl t_letters)), (h_t, .inr (3, [.ref h_t_signs, .ref h_t_letters, .int t_length, .int o6.2.1, .int t_size, .int o6.2.2.1, .int o6.2.2.2, .int t_lettersTold, .int t_repeatsTold, .int t_correctionsTold, .int t_mostCorrections, .int t_deepest, .int t_fresh])), (h_t_signs, .inl (cI, 60, .inl t_signs))] := hD
    refine lv_if_ne (tgt := 53) hx hb dX4_readCorrection_48 (by decide) (fun c_7 => ?_) (fun c_7 => ?_)
    · have hres := ie_of hres c_7
      refine lv_aload_n hx hb dX4_readCorrection_53 rfl (lv_at hl 2 rfl) ?_
      obtain ⟨o8, ho8, hres⟩ := bd_of hres
      have hPc := hP.sub (ws' := [(h_t, .inr (3, [.ref h_t_signs, .ref h_t_letters, .int t_length, .int o6.2.1, .int t_size, .int o6.2.2.1, .int o6.2.2.2, .int t_lettersTold, .int t_repeatsTold, .int t_correctionsTold, .int t_mostCorrections, .int t_deepest, .int t_fresh])), (h_t_signs, .inl (cI, 60, .inl t_signs))]) [1, 2] rfl
      have hDc := hD.sub (ws' := [(h_t, .inr (3, [.ref h_t_signs, .ref h_t_letters, .int t_length, .int o6.2.1, .int t_size, .int o6.2.2.1, .int o6.2.2.2, .int t_lettersTold, .int t_repeatsTold, .int t_correctionsTold, .int t_mostCorrections, .int t_deepest, .int t_fresh])), (h_t_signs, .inl (cI, 60, .inl t_signs))]) [1, 2] (by decide) rfl
      have hFc := va_free (wc := [(h_t, .inr (3, [.ref h_t_signs, .ref h_t_letters, .int t_length, .int o6.2.1, .int t_size, .int o6.2.2.1, .int o6.2.2.2, .int t_lettersTold, .int t_repeatsTold, .int t_correctionsTold, .int t_mostCorrections, .int t_deepest, .int t_fresh])), (h_t_signs, .inl (cI, 60, .inl t_signs))]) hD hS hA [1, 2] rfl
      refine va_calli (va_runV (As := []) (rest := []) ⟨hx, hb, hml, hown, hts⟩ (cRd_sign l dC dI cI cJ cC cS h_t h_t_signs h_t_letters H.size t_length o6.2.1 t_size o6.2.2.1 o6.2.2.2 t_lettersTold t_repeatsTold t_correctionsTold t_mostCorrections t_deepest t_fresh t_signs o8 ho8) (cwV 0 hts gX4_readCorrection_X4_sign rfl rfl rfl (by decide +kernel) ⟨Nat.le_of_ble_eq_true rfl, Nat.le_of_ble_eq_true rfl⟩) ⟨fun a U g mk q => by obtain ⟨q0, q1, qP, qK, qN, qD⟩ := q; exact ⟨q0, q1, qP, va_K.moved (u := U) (U := U.calling g mk a) (Vm.Alike.refl U.vm) qK, nwS (u := U) (U := U.calling g mk a) rfl qN, qD⟩, va_recv hK hPc (ci := 3) (q0 := 0) rfl rfl, fun U hU hW => ⟨rfl, by rw [hU], by rw [hU]; exact hPc, va_K.moved hW.alike hK, nwW hW hN, hDc.weaken (fun _ _ _ _ => trivial)⟩⟩ rfl rfl hl.1 rfl (lv_room (Nat.le_of_ble_eq_true rfl)) dX4_readCorrection_54 ⟨Nat.zero_le _, Nat.zero_le _⟩) hS (fun q _ h => hFc q h) hFc (fun r9 u9 t H1 locs ht hvm hw hB hz1 hk1 hS => ?_)
      have hw := hw.symm
      subst hw
      obtain ⟨hP1, hK1, hD1⟩ := hB
      rw [ht] at hP1
      obtain ⟨hP, hD⟩ := va_join (wr := [(h_t_letters, .inl (cI, 744, .inl t_letters))]) (w1 := [(h_t, .inr (3, [.ref h_t_signs, .ref h_t_letters, .int t_length, .int o6.2.1, .int t_size, .int o6.2.2.1, .int o6.2.2.2, .int t_lettersTold, .int t_repeatsTold, .int t_correctionsTold, .int t_mostCorrections, .int t_deepest, .int t_fresh])), (h_t_signs, .inl (cI, 60, .inl t_signs))]) hP hD [1, 2] [0] rfl rfl (by decide) (by decide) hk1 hFc hP1 hD1
      generalize H1 = H at hP hS ⊢
      have hP : va_P (dC, dI) vwCl [(h_t_letters, .inl (cI, 744, .inl t_letters)), (h_t, .inr (3, [.ref h_t_signs, .ref h_t_letters, .int t_length, .int o6.2.1, .int t_size, .int o6.2.2.1, .int o6.2.2.2, .int t_lettersTold, .int t_repeatsTold, .int t_correctionsTold, .int t_mostCorrections, .int t_deepest, .int t_fresh])), (h_t_signs, .inl (cI, 60, .inl t_signs))] H := hP
      have hD : va_D A [(h_t_letters, .inl (cI, 744, .inl t_letters)), (h_t, .inr (3, [.ref h_t_signs, .ref h_t_letters, .int t_length, .int o6.2.1, .int t_size, .int o6.2.2.1, .int o6.2.2.2, .int t_lettersTold, .int t_repeatsTold, .int t_correctionsTold, .int t_mostCorrections, .int t_deepest, .int t_fresh])), (h_t_signs, .inl (cI, 60, .inl t_signs))] := hD
      refine lv_istore (lv' := [(5, .int o8), (4, .int o5.1), (3, .int t_at), (0, .ref h_t), (1, .int x1), (2, .int x2)]) hx hb dX4_readCorrection_57 hl (by decide) rfl (fun ls hl => ?_)
      refine lv_iload hx hb dX4_readCorrection_59 (lv_at hl 0 rfl) ?_
      obtain ⟨o9, ho9, hres⟩ := bd_of hres
      have hPc := hP.sub (ws' := []) [] rfl
      have hDc := hD.sub (ws' := []) [] (by decide) rfl
      have hFc := va_free (wc := []) hD hS hA [] rfl
      refine va_calli (va_runS (As := [.int o8]) (rest := []) ⟨hx, hb, hml, hown, hts⟩ (cRd_isLetter l dC dI cI cJ cC cS H.size o8 o9 ho9) (va_cwS 1 hts gX4_readCorrection_X4_isLetter rfl rfl rfl (by decide +kernel) ⟨Nat.le_of_ble_eq_true rfl, Nat.le_of_ble_eq_true rfl⟩) ⟨fun a U g mk q => by obtain ⟨q0, q1, qP, qK, qN, qD⟩ := q; exact ⟨q0, q1, qP, va_K.moved (u := U) (U := U.calling g mk a) (Vm.Alike.refl U.vm) qK, nwS (u := U) (U := U.calling g mk a) rfl qN, qD⟩, fun U hU hW => ⟨rfl, by rw [hU], by rw [hU]; exact hPc, va_K.moved hW.alike hK, nwW hW hN, hDc.weaken (fun _ _ _ _ => trivial)⟩⟩ rfl rfl hl.1 rfl (lv_room (Nat.le_of_ble_eq_true rfl)) dX4_readCorrection_61 ⟨Nat.zero_le _, Nat.zero_le _⟩) hS (fun q _ h => hFc q h) hFc (fun r9 u9 t H1 locs ht hvm hw hB hz1 hk1 hS => ?_)
      have hw := hw.symm
      subst hw
      obtain ⟨hP1, hK1, hD1⟩ := hB
      rw [ht] at hP1
      obtain ⟨hP, hD⟩ := va_join (wr := [(h_t_letters, .inl (cI, 744, .inl t_letters)), (h_t, .inr (3, [.ref h_t_signs, .ref h_t_letters, .int t_length, .int o6.2.1, .int t_size, .int o6.2.2.1, .int o6.2.2.2, .int t_lettersTold, .int t_repeatsTold, .int t_correctionsTold, .int t_mostCorrections, .int t_deepest, .int t_fresh])), (h_t_signs, .inl (cI, 60, .inl t_signs))]) (w1 := []) hP hD [] [0, 1, 2] rfl rfl (by decide) (by decide) hk1 hFc hP1 hD1
      generalize H1 = H at hP hS ⊢
      have hP : va_P (dC, dI) vwCl [(h_t_letters, .inl (cI, 744, .inl t_letters)), (h_t, .inr (3, [.ref h_t_signs, .ref h_t_letters, .int t_length, .int o6.2.1, .int t_size, .int o6.2.2.1, .int o6.2.2.2, .int t_lettersTold, .int t_repeatsTold, .int t_correctionsTold, .int t_mostCorrections, .int t_deepest, .int t_fresh])), (h_t_signs, .inl (cI, 60, .inl t_signs))] H := hP
      have hD : va_D A [(h_t_letters, .inl (cI, 744, .inl t_letters)), (h_t, .inr (3, [.ref h_t_signs, .ref h_t_letters, .int t_length, .int o6.2.1, .int t_size, .int o6.2.2.1, .int o6.2.2.2, .int t_lettersTold, .int t_repeatsTold, .int t_correctionsTold, .int t_mostCorrections, .int t_deepest, .int t_fresh])), (h_t_signs, .inl (cI, 60, .inl t_signs))] := hD
      refine lv_if_ne (tgt := 78) hx hb dX4_readCorrection_64 (by decide) (fun c_10 => ?_) (fun c_10 => ?_)
      · have hres := ie_of hres c_10
        refine lv_aload_n hx hb dX4_readCorrection_78 rfl (lv_at hl 3 rfl) ?_
        refine lv_dup hx hb dX4_readCorrection_79 rfl ?_
        refine va_get (D := (dC, dI)) (ci := 3) (v := .int o6.2.1) (C := RX4) (T := TX4) (N := 13) hx hb hts iRd_readCorrection_X4_readCorrection_1 hown hK hP 1 rfl rfl 3 (by decide) (hts _ kRd_readCorrection_X4_readCorrection_0) (fun _ h9 => h9) rfl dX4_readCorrection_80 ?_
        refine lv_iconst (v := (1 : Int32)) hx hb dX4_readCorrection_83 (by decide) ?_
        refine lv_iadd hx hb dX4_readCorrection_84 ?_
        refine va_put (D := (dC, dI)) (ci := 3) (v := .int (o6.2.1 + (1 : Int32))) (ty := .int) (C := RX4) (T := TX4) (N := 13) hx hb hts iRd_readCorrection_X4_readCorrection_1 tyX4 tyX4_ok nmX4 hown hK hP hD hS 1 rfl rfl 3 (by decide) (hts _ kRd_readCorrection_X4_readCorrection_0) (fun _ h9 => h9) rfl (by decide +kernel) rfl rfl (Nat.le_of_ble_eq_true rfl) dX4_readCorrection_85 (fun H locs hP hD hS => ?_)
        have hP : va_P (dC, dI) vwCl [(h_t_letters, .inl (cI, 744, .inl t_letters)), (h_t, .inr (3, [.ref h_t_signs, .ref h_t_letters, .int t_length, .int (o6.2.1 + (1 : Int32)), .int t_size, .int o6.2.2.1, .int o6.2.2.2, .int t_lettersTold, .int t_repeatsTold, .int t_correctionsTold, .int t_mostCorrections, .int t_deepest, .int t_fresh])), (h_t_signs, .inl (cI, 60, .inl t_signs))] H := hP
        have hD : va_D A [(h_t_letters, .inl (cI, 744, .inl t_letters)), (h_t, .inr (3, [.ref h_t_signs, .ref h_t_letters, .int t_length, .int (o6.2.1 + (1 : Int32)), .int t_size, .int o6.2.2.1, .int o6.2.2.2, .int t_lettersTold, .int t_repeatsTold, .int t_correctionsTold, .int t_mostCorrections, .int t_deepest, .int t_fresh])), (h_t_signs, .inl (cI, 60, .inl t_signs))] := hD
        refine lv_aload_n hx hb dX4_readCorrection_88 rfl (lv_at hl 3 rfl) ?_
        refine lv_bipush (v := (93 : Int32)) hx hb dX4_readCorrection_89 (by decide) ?_
        obtain ⟨o11, ho11, hres⟩ := bd_of hres
        have hPc := hP.sub (ws' := [(h_t, .inr (3, [.ref h_t_signs, .ref h_t_letters, .int t_length, .int (o6.2.1 + (1 : Int32)), .int t_size, .int o6.2.2.1, .int o6.2.2.2, .int t_lettersTold, .int t_repeatsTold, .int t_correctionsTold, .int t_mostCorrections, .int t_deepest, .int t_fresh])), (h_t_signs, .inl (cI, 60, .inl t_signs))]) [1, 2] rfl
        have hDc := hD.sub (ws' := [(h_t, .inr (3, [.ref h_t_signs, .ref h_t_letters, .int t_length, .int (o6.2.1 + (1 : Int32)), .int t_size, .int o6.2.2.1, .int o6.2.2.2, .int t_lettersTold, .int t_repeatsTold, .int t_correctionsTold, .int t_mostCorrections, .int t_deepest, .int t_fresh])), (h_t_signs, .inl (cI, 60, .inl t_signs))]) [1, 2] (by decide) rfl
        have hFc := va_free (wc := [(h_t, .inr (3, [.ref h_t_signs, .ref h_t_letters, .int t_length, .int (o6.2.1 + (1 : Int32)), .int t_size, .int o6.2.2.1, .int o6.2.2.2, .int t_lettersTold, .int t_repeatsTold, .int t_correctionsTold, .int t_mostCorrections, .int t_deepest, .int t_fresh])), (h_t_signs, .inl (cI, 60, .inl t_signs))]) hD hS hA [1, 2] rfl
        refine va_calli (va_runV (As := [.int (93 : Int32)]) (rest := []) ⟨hx, hb, hml, hown, hts⟩ (cRd_reads l dC dI cI cJ cC cS h_t h_t_signs h_t_letters H.size t_length (o6.2.1 + (1 : Int32)) t_size o6.2.2.1 o6.2.2.2 t_lettersTold t_repeatsTold t_correctionsTold t_mostCorrections t_deepest t_fresh t_signs (93 : Int32) o11.1 o11.2.1 o11.2.2.1 o11.2.2.2 ho11) (cwV 1 hts gX4_readCorrection_X4_reads rfl rfl rfl (by decide +kernel) ⟨Nat.le_of_ble_eq_true rfl, Nat.le_of_ble_eq_true rfl⟩) ⟨fun a U g mk q => by obtain ⟨q0, q1, qP, qK, qN, qD⟩ := q; exact ⟨q0, q1, qP, va_K.moved (u := U) (U := U.calling g mk a) (Vm.Alike.refl U.vm) qK, nwS (u := U) (U := U.calling g mk a) rfl qN, qD⟩, va_recv hK hPc (ci := 3) (q0 := 0) rfl rfl, fun U hU hW => ⟨rfl, by rw [hU], by rw [hU]; exact hPc, va_K.moved hW.alike hK, nwW hW hN, hDc.weaken (fun _ _ _ _ => trivial)⟩⟩ rfl rfl hl.1 rfl (lv_room (Nat.le_of_ble_eq_true rfl)) dX4_readCorrection_91 ⟨Nat.zero_le _, Nat.zero_le _⟩) hS (fun q _ h => hFc q h) hFc (fun r9 u9 t H1 locs ht hvm hw hB hz1 hk1 hS => ?_)
        have hw := hw.symm
        subst hw
        obtain ⟨hP1, hK1, hD1⟩ := hB
        rw [ht] at hP1
        obtain ⟨hP, hD⟩ := va_join (wr := [(h_t_letters, .inl (cI, 744, .inl t_letters))]) (w1 := [(h_t, .inr (3, [.ref h_t_signs, .ref h_t_letters, .int t_length, .int o11.2.1, .int t_size, .int o11.2.2.1, .int o11.2.2.2, .int t_lettersTold, .int t_repeatsTold, .int t_correctionsTold, .int t_mostCorrections, .int t_deepest, .int t_fresh])), (h_t_signs, .inl (cI, 60, .inl t_signs))]) hP hD [1, 2] [0] rfl rfl (by decide) (by decide) hk1 hFc hP1 hD1
        generalize H1 = H at hP hS ⊢
        have hP : va_P (dC, dI) vwCl [(h_t_letters, .inl (cI, 744, .inl t_letters)), (h_t, .inr (3, [.ref h_t_signs, .ref h_t_letters, .int t_length, .int o11.2.1, .int t_size, .int o11.2.2.1, .int o11.2.2.2, .int t_lettersTold, .int t_repeatsTold, .int t_correctionsTold, .int t_mostCorrections, .int t_deepest, .int t_fresh])), (h_t_signs, .inl (cI, 60, .inl t_signs))] H := hP
        have hD : va_D A [(h_t_letters, .inl (cI, 744, .inl t_letters)), (h_t, .inr (3, [.ref h_t_signs, .ref h_t_letters, .int t_length, .int o11.2.1, .int t_size, .int o11.2.2.1, .int o11.2.2.2, .int t_lettersTold, .int t_repeatsTold, .int t_correctionsTold, .int t_mostCorrections, .int t_deepest, .int t_fresh])), (h_t_signs, .inl (cI, 60, .inl t_signs))] := hD
        refine lv_if_ne (tgt := 99) hx hb dX4_readCorrection_94 (by decide) (fun c_12 => ?_) (fun c_12 => ?_)
        · have hres := ie_of hres c_12
          refine lv_iload hx hb dX4_readCorrection_99 (lv_at hl 1 rfl) ?_
          refine lv_iload_n hx hb dX4_readCorrection_101 rfl (lv_at hl 5 rfl) ?_
          refine lv_icmp_le (tgt := 132) hx hb dX4_readCorrection_102 (by decide) (fun c_13 => ?_) (fun c_13 => ?_)
          · have hres := it_of hres c_13
            exact hK132 t_at o11.2.1 o11.2.2.1 o11.2.2.2 t_letters H locs ls hres (hP.sub [1, 0, 2] rfl) (hD.sub [1, 0, 2] (by decide) rfl) hS (lv_sub hl [3, 5, 2] rfl)
          · have hres := ie_of hres c_13
            refine lv_iload hx hb dX4_readCorrection_105 (lv_at hl 1 rfl) ?_
            refine lv_aload_n hx hb dX4_readCorrection_107 rfl (lv_at hl 3 rfl) ?_
            refine va_get (D := (dC, dI)) (ci := 3) (v := .int t_size) (C := RX4) (T := TX4) (N := 13) hx hb hts iRd_readCorrection_X4_readCorrection_1 hown hK hP 1 rfl rfl 4 (by decide) (hts _ kRd_readCorrection_X4_readCorrection_2) (fun _ h9 => h9) rfl dX4_readCorrection_108 ?_
            refine lv_iload_n hx hb dX4_readCorrection_111 rfl (lv_at hl 4 rfl) ?_
            refine lv_isub hx hb dX4_readCorrection_112 ?_
            refine lv_icmp_ge (tgt := 132) hx hb dX4_readCorrection_113 (by decide) (fun c_14 => ?_) (fun c_14 => ?_)
            · have hres := it_of hres c_14
              exact hK132 t_at o11.2.1 o11.2.2.1 o11.2.2.2 t_letters H locs ls hres (hP.sub [1, 0, 2] rfl) (hD.sub [1, 0, 2] (by decide) rfl) hS (lv_sub hl [3, 5, 2] rfl)
            · have hres := ie_of hres c_14
              refine lv_aload_n hx hb dX4_readCorrection_116 rfl (lv_at hl 3 rfl) ?_
              refine lv_iload_n hx hb dX4_readCorrection_117 rfl (lv_at hl 4 rfl) ?_
              refine lv_iload hx hb dX4_readCorrection_118 (lv_at hl 1 rfl) ?_
              refine lv_iadd hx hb dX4_readCorrection_120 ?_
              obtain ⟨o15, ho15, hres⟩ := bd_of hres
              have hPc := hP.sub (ws' := [(h_t, .inr (3, [.ref h_t_signs, .ref h_t_letters, .int t_length, .int o11.2.1, .int t_size, .int o11.2.2.1, .int o11.2.2.2, .int t_lettersTold, .int t_repeatsTold, .int t_correctionsTold, .int t_mostCorrections, .int t_deepest, .int t_fresh])), (h_t_letters, .inl (cI, 744, .inl t_letters))]) [1, 0] rfl
              have hDc := hD.sub (ws' := [(h_t, .inr (3, [.ref h_t_signs, .ref h_t_letters, .int t_length, .int o11.2.1, .int t_size, .int o11.2.2.1, .int o11.2.2.2, .int t_lettersTold, .int t_repeatsTold, .int t_correctionsTold, .int t_mostCorrections, .int t_deepest, .int t_fresh])), (h_t_letters, .inl (cI, 744, .inl t_letters))]) [1, 0] (by decide) rfl
              have hFc := va_free (wc := [(h_t, .inr (3, [.ref h_t_signs, .ref h_t_letters, .int t_length, .int o11.2.1, .int t_size, .int o11.2.2.1, .int o11.2.2.2, .int t_lettersTold, .int t_repeatsTold, .int t_correctionsTold, .int t_mostCorrections, .int t_deepest, .int t_fresh])), (h_t_letters, .inl (cI, 744, .inl t_letters))]) hD hS hA [1, 0] rfl
              refine va_calli (va_runV (As := [.int (x1 + o5.1)]) (rest := []) ⟨hx, hb, hml, hown, hts⟩ (cRd_letter l dC dI cI cJ cC cS h_t h_t_signs h_t_letters H.size t_length o11.2.1 t_size o11.2.2.1 o11.2.2.2 t_lettersTold t_repeatsTold t_correctionsTold t_mostCorrections t_deepest t_fresh t_letters (x1 + o5.1) o15 ho15) (cwV 1 hts gX4_readCorrection_X4_letter rfl rfl rfl (by decide +kernel) ⟨Nat.le_of_ble_eq_true rfl, Nat.le_of_ble_eq_true rfl⟩) ⟨fun a U g mk q => by obtain ⟨q0, q1, qP, qK, qN, qD⟩ := q; exact ⟨q0, q1, qP, va_K.moved (u := U) (U := U.calling g mk a) (Vm.Alike.refl U.vm) qK, nwS (u := U) (U := U.calling g mk a) rfl qN, qD⟩, va_recv hK hPc (ci := 3) (q0 := 0) rfl rfl, fun U hU hW => ⟨rfl, by rw [hU], by rw [hU]; exact hPc, va_K.moved hW.alike hK, nwW hW hN, hDc.weaken (fun _ _ _ _ => trivial)⟩⟩ rfl rfl hl.1 rfl (lv_room (Nat.le_of_ble_eq_true rfl)) dX4_readCorrection_121 ⟨Nat.zero_le _, Nat.zero_le _⟩) hS (fun q _ h => hFc q h) hFc (fun r9 u9 t H1 locs ht hvm hw hB hz1 hk1 hS => ?_)
              have hw := hw.symm
              subst hw
              obtain ⟨hP1, hK1, hD1⟩ := hB
              rw [ht] at hP1
              obtain ⟨hP, hD⟩ := va_join (wr := [(h_t_signs, .inl (cI, 60, .inl t_signs))]) (w1 := [(h_t, .inr (3, [.ref h_t_signs, .ref h_t_letters, .int t_length, .int o11.2.1, .int t_size, .int o11.2.2.1, .int o11.2.2.2, .int t_lettersTold, .int t_repeatsTold, .int t_correctionsTold, .int t_mostCorrections, .int t_deepest, .int t_fresh])), (h_t_letters, .inl (cI, 744, .inl t_letters))]) hP hD [1, 0] [2] rfl rfl (by decide) (by decide) hk1 hFc hP1 hD1
              generalize H1 = H at hP hS ⊢
              have hP : va_P (dC, dI) vwCl [(h_t_signs, .inl (cI, 60, .inl t_signs)), (h_t, .inr (3, [.ref h_t_signs, .ref h_t_letters, .int t_length, .int o11.2.1, .int t_size, .int o11.2.2.1, .int o11.2.2.2, .int t_lettersTold, .int t_repeatsTold, .int t_correctionsTold, .int t_mostCorrections, .int t_deepest, .int t_fresh])), (h_t_letters, .inl (cI, 744, .inl t_letters))] H := hP
              have hD : va_D A [(h_t_signs, .inl (cI, 60, .inl t_signs)), (h_t, .inr (3, [.ref h_t_signs, .ref h_t_letters, .int t_length, .int o11.2.1, .int t_size, .int o11.2.2.1, .int o11.2.2.2, .int t_lettersTold, .int t_repeatsTold, .int t_correctionsTold, .int t_mostCorrections, .int t_deepest, .int t_fresh])), (h_t_letters, .inl (cI, 744, .inl t_letters))] := hD
              refine lv_iload hx hb dX4_readCorrection_124 (lv_at hl 0 rfl) ?_
              refine lv_bipush (v := (97 : Int32)) hx hb dX4_readCorrection_126 (by decide) ?_
              refine lv_isub hx hb dX4_readCorrection_128 ?_
              refine lv_icmp_ne (tgt := 140) hx hb dX4_readCorrection_129 (by decide) (fun c_16 => ?_) (fun c_16 => ?_)
              · have hres := ie_of hres c_16
                refine lv_aload_n hx hb dX4_readCorrection_140 rfl (lv_at hl 3 rfl) ?_
                refine lv_iload_n hx hb dX4_readCorrection_141 rfl (lv_at hl 4 rfl) ?_
                refine lv_iload hx hb dX4_readCorrection_142 (lv_at hl 1 rfl) ?_
                refine lv_iadd hx hb dX4_readCorrection_144 ?_
                refine lv_iload hx hb dX4_readCorrection_145 (lv_at hl 0 rfl) ?_
                refine lv_bipush (v := (97 : Int32)) hx hb dX4_readCorrection_147 (by decide) ?_
                refine lv_isub hx hb dX4_readCorrection_149 ?_
                obtain ⟨o17, ho17, hres⟩ := bd_of hres
                have hPc := hP.sub (ws' := [(h_t, .inr (3, [.ref h_t_signs, .ref h_t_letters, .int t_length, .int o11.2.1, .int t_size, .int o11.2.2.1, .int o11.2.2.2, .int t_lettersTold, .int t_repeatsTold, .int t_correctionsTold, .int t_mostCorrections, .int t_deepest, .int t_fresh])), (h_t_letters, .inl (cI, 744, .inl t_letters))]) [1, 2] rfl
                have hDc := hD.sub (ws' := [(h_t, .inr (3, [.ref h_t_signs, .ref h_t_letters, .int t_length, .int o11.2.1, .int t_size, .int o11.2.2.1, .int o11.2.2.2, .int t_lettersTold, .int t_repeatsTold, .int t_correctionsTold, .int t_mostCorrections, .int t_deepest, .int t_fresh])), (h_t_letters, .inl (cI, 744, .inl t_letters))]) [1, 2] (by decide) rfl
                have hFc := va_free (wc := [(h_t, .inr (3, [.ref h_t_signs, .ref h_t_letters, .int t_length, .int o11.2.1, .int t_size, .int o11.2.2.1, .int o11.2.2.2, .int t_lettersTold, .int t_repeatsTold, .int t_correctionsTold, .int t_mostCorrections, .int t_deepest, .int t_fresh])), (h_t_letters, .inl (cI, 744, .inl t_letters))]) hD hS hA [1, 2] rfl
                refine va_callv (va_runV (As := [.int (x1 + o5.1), .int (o8 - (97 : Int32))]) (rest := []) ⟨hx, hb, hml, hown, hts⟩ (cRd_putLetter l dC dI cI cJ cC cS h_t h_t_signs h_t_letters H.size t_length o11.2.1 t_size o11.2.2.1 o11.2.2.2 t_lettersTold t_repeatsTold t_correctionsTold t_mostCorrections t_deepest t_fresh t_letters (x1 + o5.1) (o8 - (97 : Int32)) o17 ho17) (cwV 2 hts gX4_readCorrection_X4_putLetter rfl rfl rfl (by decide +kernel) ⟨Nat.le_of_ble_eq_true rfl, Nat.le_of_ble_eq_true rfl⟩) ⟨fun a U g mk q => by obtain ⟨q0, q1, qP, qK, qN, qD⟩ := q; exact ⟨q0, q1, qP, va_K.moved (u := U) (U := U.calling g mk a) (Vm.Alike.refl U.vm) qK, nwS (u := U) (U := U.calling g mk a) rfl qN, qD⟩, va_recv hK hPc (ci := 3) (q0 := 0) rfl rfl, fun U hU hW => ⟨rfl, by rw [hU], by rw [hU]; exact hPc, va_K.moved hW.alike hK, nwW hW hN, hDc.weaken (fun _ _ _ _ => trivial)⟩⟩ rfl rfl hl.1 rfl (lv_room (Nat.le_of_ble_eq_true rfl)) dX4_readCorrection_150 ⟨Nat.zero_le _, Nat.zero_le _⟩) hS (fun q _ h => hFc q h) hFc (fun u9 t H1 locs ht hvm hw hB hz1 hk1 hS => ?_)
                obtain ⟨hP1, hK1, hD1⟩ := hB
                rw [ht] at hP1
                obtain ⟨hP, hD⟩ := va_join (wr := [(h_t_signs, .inl (cI, 60, .inl t_signs))]) (w1 := [(h_t, .inr (3, [.ref h_t_signs, .ref h_t_letters, .int t_length, .int o11.2.1, .int t_size, .int o11.2.2.1, .int o11.2.2.2, .int t_lettersTold, .int t_repeatsTold, .int t_correctionsTold, .int t_mostCorrections, .int t_deepest, .int t_fresh])), (h_t_letters, .inl (cI, 744, .inl o17))]) hP hD [1, 2] [0] rfl rfl (by decide) (by decide) hk1 hFc hP1 hD1
                generalize H1 = H at hP hS ⊢
                have hP : va_P (dC, dI) vwCl [(h_t_signs, .inl (cI, 60, .inl t_signs)), (h_t, .inr (3, [.ref h_t_signs, .ref h_t_letters, .int t_length, .int o11.2.1, .int t_size, .int o11.2.2.1, .int o11.2.2.2, .int t_lettersTold, .int t_repeatsTold, .int t_correctionsTold, .int t_mostCorrections, .int t_deepest, .int t_fresh])), (h_t_letters, .inl (cI, 744, .inl o17))] H := hP
                have hD : va_D A [(h_t_signs, .inl (cI, 60, .inl t_signs)), (h_t, .inr (3, [.ref h_t_signs, .ref h_t_letters, .int t_length, .int o11.2.1, .int t_size, .int o11.2.2.1, .int o11.2.2.2, .int t_lettersTold, .int t_repeatsTold, .int t_correctionsTold, .int t_mostCorrections, .int t_deepest, .int t_fresh])), (h_t_letters, .inl (cI, 744, .inl o17))] := hD
                refine lv_iload hx hb dX4_readCorrection_153 (lv_at hl 1 rfl) ?_
                obtain ⟨e9_0, e9_1, e9_2, e9_3, e9_4⟩ := tup5 hres
                subst e9_0
                subst e9_1
                subst e9_2
                subst e9_3
                subst e9_4
                rw [← hQQ]
                exact W.iret (v := o5.1) hx hb hr (fun t ht hW => ⟨⟨o5.1, (), rfl, rfl, by rw [ht]; exact hP.sub [1, 2, 0] rfl, va_K.moved hW.alike hK, hD.sub [1, 2, 0] (by decide) rfl⟩, hS.F ht⟩) hS.2.2 dX4_readCorrection_155
              · have hres := it_of hres c_16
                exact hK132 t_at o11.2.1 o11.2.2.1 o11.2.2.2 t_letters H locs ls hres (hP.sub [1, 2, 0] rfl) (hD.sub [1, 2, 0] (by decide) rfl) hS (lv_sub hl [3, 5, 2] rfl)
        · have hres := it_of hres c_12
          refine lv_iload_n hx hb dX4_readCorrection_97 rfl (lv_at hl 5 rfl) ?_
          obtain ⟨e9_0, e9_1, e9_2, e9_3, e9_4⟩ := tup5 hres
          subst e9_0
          subst e9_1
          subst e9_2
          subst e9_3
          subst e9_4
          rw [← hQQ]
          exact W.iret (v := x2) hx hb hr (fun t ht hW => ⟨⟨x2, (), rfl, rfl, by rw [ht]; exact hP.sub [1, 0, 2] rfl, va_K.moved hW.alike hK, hD.sub [1, 0, 2] (by decide) rfl⟩, hS.F ht⟩) hS.2.2 dX4_readCorrection_98
      · have hres := it_of hres c_10
        refine lv_aload_n hx hb dX4_readCorrection_67 rfl (lv_at hl 3 rfl) ?_
        refine lv_aload_n hx hb dX4_readCorrection_68 rfl (lv_at hl 3 rfl) ?_
        refine va_get (D := (dC, dI)) (ci := 3) (v := .int o6.2.1) (C := RX4) (T := TX4) (N := 13) hx hb hts iRd_readCorrection_X4_readCorrection_1 hown hK hP 1 rfl rfl 3 (by decide) (hts _ kRd_readCorrection_X4_readCorrection_0) (fun _ h9 => h9) rfl dX4_readCorrection_69 ?_
        refine lv_iconst (v := (1 : Int32)) hx hb dX4_readCorrection_72 (by decide) ?_
        obtain ⟨o18, ho18, hres⟩ := bd_of hres
        have hPc := hP.sub (ws' := [(h_t, .inr (3, [.ref h_t_signs, .ref h_t_letters, .int t_length, .int o6.2.1, .int t_size, .int o6.2.2.1, .int o6.2.2.2, .int t_lettersTold, .int t_repeatsTold, .int t_correctionsTold, .int t_mostCorrections, .int t_deepest, .int t_fresh]))]) [1] rfl
        have hDc := hD.sub (ws' := [(h_t, .inr (3, [.ref h_t_signs, .ref h_t_letters, .int t_length, .int o6.2.1, .int t_size, .int o6.2.2.1, .int o6.2.2.2, .int t_lettersTold, .int t_repeatsTold, .int t_correctionsTold, .int t_mostCorrections, .int t_deepest, .int t_fresh]))]) [1] (by decide) rfl
        have hFc := va_free (wc := [(h_t, .inr (3, [.ref h_t_signs, .ref h_t_letters, .int t_length, .int o6.2.1, .int t_size, .int o6.2.2.1, .int o6.2.2.2, .int t_lettersTold, .int t_repeatsTold, .int t_correctionsTold, .int t_mostCorrections, .int t_deepest, .int t_fresh]))]) hD hS hA [1] rfl
        refine va_callv (va_runV (As := [.int o6.2.1, .int (1 : Int32)]) (rest := []) ⟨hx, hb, hml, hown, hts⟩ (cRd_blame l dC dI cI cJ cC cS h_t h_t_signs h_t_letters H.size t_length o6.2.1 t_size o6.2.2.1 o6.2.2.2 t_lettersTold t_repeatsTold t_correctionsTold t_mostCorrections t_deepest t_fresh o6.2.1 (1 : Int32) o18.1 o18.2 ho18) (cwV 2 hts gX4_readCorrection_X4_blame rfl rfl rfl (by decide +kernel) ⟨Nat.le_of_ble_eq_true rfl, Nat.le_of_ble_eq_true rfl⟩) ⟨fun a U g mk q => by obtain ⟨q0, q1, qP, qK, qN, qD⟩ := q; exact ⟨q0, q1, qP, va_K.moved (u := U) (U := U.calling g mk a) (Vm.Alike.refl U.vm) qK, nwS (u := U) (U := U.calling g mk a) rfl qN, qD⟩, va_recv hK hPc (ci := 3) (q0 := 0) rfl rfl, fun U hU hW => ⟨rfl, by rw [hU], by rw [hU]; exact hPc, va_K.moved hW.alike hK, nwW hW hN, hDc.weaken (fun _ _ _ _ => trivial)⟩⟩ rfl rfl hl.1 rfl (lv_room (Nat.le_of_ble_eq_true rfl)) dX4_readCorrection_73 ⟨Nat.zero_le _, Nat.zero_le _⟩) hS (fun q _ h => hFc q h) hFc (fun u9 t H1 locs ht hvm hw hB hz1 hk1 hS => ?_)
        obtain ⟨hP1, hK1, hD1⟩ := hB
        rw [ht] at hP1
        obtain ⟨hP, hD⟩ := va_join (wr := [(h_t_letters, .inl (cI, 744, .inl t_letters)), (h_t_signs, .inl (cI, 60, .inl t_signs))]) (w1 := [(h_t, .inr (3, [.ref h_t_signs, .ref h_t_letters, .int t_length, .int o6.2.1, .int t_size, .int o18.1, .int o18.2, .int t_lettersTold, .int t_repeatsTold, .int t_correctionsTold, .int t_mostCorrections, .int t_deepest, .int t_fresh]))]) hP hD [1] [0, 2] rfl rfl (by decide) (by decide) hk1 hFc hP1 hD1
        generalize H1 = H at hP hS ⊢
        have hP : va_P (dC, dI) vwCl [(h_t_letters, .inl (cI, 744, .inl t_letters)), (h_t_signs, .inl (cI, 60, .inl t_signs)), (h_t, .inr (3, [.ref h_t_signs, .ref h_t_letters, .int t_length, .int o6.2.1, .int t_size, .int o18.1, .int o18.2, .int t_lettersTold, .int t_repeatsTold, .int t_correctionsTold, .int t_mostCorrections, .int t_deepest, .int t_fresh]))] H := hP
        have hD : va_D A [(h_t_letters, .inl (cI, 744, .inl t_letters)), (h_t_signs, .inl (cI, 60, .inl t_signs)), (h_t, .inr (3, [.ref h_t_signs, .ref h_t_letters, .int t_length, .int o6.2.1, .int t_size, .int o18.1, .int o18.2, .int t_lettersTold, .int t_repeatsTold, .int t_correctionsTold, .int t_mostCorrections, .int t_deepest, .int t_fresh]))] := hD
        refine lv_iload_n hx hb dX4_readCorrection_76 rfl (lv_at hl 5 rfl) ?_
        obtain ⟨e9_0, e9_1, e9_2, e9_3, e9_4⟩ := tup5 hres
        subst e9_0
        subst e9_1
        subst e9_2
        subst e9_3
        subst e9_4
        rw [← hQQ]
        exact W.iret (v := x2) hx hb hr (fun t ht hW => ⟨⟨x2, (), rfl, rfl, by rw [ht]; exact hP.sub [2, 0, 1] rfl, va_K.moved hW.alike hK, hD.sub [2, 0, 1] (by decide) rfl⟩, hS.F ht⟩) hS.2.2 dX4_readCorrection_77
    · have hres := it_of hres c_7
      refine lv_iload_n hx hb dX4_readCorrection_51 rfl (lv_at hl 4 rfl) ?_
      obtain ⟨e9_0, e9_1, e9_2, e9_3, e9_4⟩ := tup5 hres
      subst e9_0
      subst e9_1
      subst e9_2
      subst e9_3
      subst e9_4
      rw [← hQQ]
      exact W.iret (v := x2) hx hb hr (fun t ht hW => ⟨⟨x2, (), rfl, rfl, by rw [ht]; exact hP.sub [1, 0, 2] rfl, va_K.moved hW.alike hK, hD.sub [1, 0, 2] (by decide) rfl⟩, hS.F ht⟩) hS.2.2 dX4_readCorrection_52
  · have hres := it_of hres c_4
    refine lv_aload_n hx hb dX4_readCorrection_25 rfl (lv_at hl 1 rfl) ?_
    refine lv_aload_n hx hb dX4_readCorrection_26 rfl (lv_at hl 1 rfl) ?_
    refine va_get (D := (dC, dI)) (ci := 3) (v := .int (t_at + (1 : Int32))) (C := RX4) (T := TX4) (N := 13) hx hb hts iRd_readCorrection_X4_readCorrection_1 hown hK hP 1 rfl rfl 3 (by decide) (hts _ kRd_readCorrection_X4_readCorrection_0) (fun _ h9 => h9) rfl dX4_readCorrection_27 ?_
    refine lv_iconst (v := (1 : Int32)) hx hb dX4_readCorrection_30 (by decide) ?_
    obtain ⟨o19, ho19, hres⟩ := bd_of hres
    have hPc := hP.sub (ws' := [(h_t, .inr (3, [.ref h_t_signs, .ref h_t_letters, .int t_length, .int (t_at + (1 : Int32)), .int t_size, .int t_faultPlace, .int t_faultReason, .int t_lettersTold, .int t_repeatsTold, .int t_correctionsTold, .int t_mostCorrections, .int t_deepest, .int t_fresh]))]) [1] rfl
    have hDc := hD.sub (ws' := [(h_t, .inr (3, [.ref h_t_signs, .ref h_t_letters, .int t_length, .int (t_at + (1 : Int32)), .int t_size, .int t_faultPlace, .int t_faultReason, .int t_lettersTold, .int t_repeatsTold, .int t_correctionsTold, .int t_mostCorrections, .int t_deepest, .int t_fresh]))]) [1] (by decide) rfl
    have hFc := va_free (wc := [(h_t, .inr (3, [.ref h_t_signs, .ref h_t_letters, .int t_length, .int (t_at + (1 : Int32)), .int t_size, .int t_faultPlace, .int t_faultReason, .int t_lettersTold, .int t_repeatsTold, .int t_correctionsTold, .int t_mostCorrections, .int t_deepest, .int t_fresh]))]) hD hS hA [1] rfl
    refine va_callv (va_runV (As := [.int (t_at + (1 : Int32)), .int (1 : Int32)]) (rest := []) ⟨hx, hb, hml, hown, hts⟩ (cRd_blame l dC dI cI cJ cC cS h_t h_t_signs h_t_letters H.size t_length (t_at + (1 : Int32)) t_size t_faultPlace t_faultReason t_lettersTold t_repeatsTold t_correctionsTold t_mostCorrections t_deepest t_fresh (t_at + (1 : Int32)) (1 : Int32) o19.1 o19.2 ho19) (cwV 2 hts gX4_readCorrection_X4_blame rfl rfl rfl (by decide +kernel) ⟨Nat.le_of_ble_eq_true rfl, Nat.le_of_ble_eq_true rfl⟩) ⟨fun a U g mk q => by obtain ⟨q0, q1, qP, qK, qN, qD⟩ := q; exact ⟨q0, q1, qP, va_K.moved (u := U) (U := U.calling g mk a) (Vm.Alike.refl U.vm) qK, nwS (u := U) (U := U.calling g mk a) rfl qN, qD⟩, va_recv hK hPc (ci := 3) (q0 := 0) rfl rfl, fun U hU hW => ⟨rfl, by rw [hU], by rw [hU]; exact hPc, va_K.moved hW.alike hK, nwW hW hN, hDc.weaken (fun _ _ _ _ => trivial)⟩⟩ rfl rfl hl.1 rfl (lv_room (Nat.le_of_ble_eq_true rfl)) dX4_readCorrection_31 ⟨Nat.zero_le _, Nat.zero_le _⟩) hS (fun q _ h => hFc q h) hFc (fun u9 t H1 locs ht hvm hw hB hz1 hk1 hS => ?_)
    obtain ⟨hP1, hK1, hD1⟩ := hB
    rw [ht] at hP1
    obtain ⟨hP, hD⟩ := va_join (wr := [(h_t_letters, .inl (cI, 744, .inl t_letters)), (h_t_signs, .inl (cI, 60, .inl t_signs))]) (w1 := [(h_t, .inr (3, [.ref h_t_signs, .ref h_t_letters, .int t_length, .int (t_at + (1 : Int32)), .int t_size, .int o19.1, .int o19.2, .int t_lettersTold, .int t_repeatsTold, .int t_correctionsTold, .int t_mostCorrections, .int t_deepest, .int t_fresh]))]) hP hD [1] [0, 2] rfl rfl (by decide) (by decide) hk1 hFc hP1 hD1
    generalize H1 = H at hP hS ⊢
    have hP : va_P (dC, dI) vwCl [(h_t_letters, .inl (cI, 744, .inl t_letters)), (h_t_signs, .inl (cI, 60, .inl t_signs)), (h_t, .inr (3, [.ref h_t_signs, .ref h_t_letters, .int t_length, .int (t_at + (1 : Int32)), .int t_size, .int o19.1, .int o19.2, .int t_lettersTold, .int t_repeatsTold, .int t_correctionsTold, .int t_mostCorrections, .int t_deepest, .int t_fresh]))] H := hP
    have hD : va_D A [(h_t_letters, .inl (cI, 744, .inl t_letters)), (h_t_signs, .inl (cI, 60, .inl t_signs)), (h_t, .inr (3, [.ref h_t_signs, .ref h_t_letters, .int t_length, .int (t_at + (1 : Int32)), .int t_size, .int o19.1, .int o19.2, .int t_lettersTold, .int t_repeatsTold, .int t_correctionsTold, .int t_mostCorrections, .int t_deepest, .int t_fresh]))] := hD
    refine lv_iload_n hx hb dX4_readCorrection_34 rfl (lv_at hl 3 rfl) ?_
    obtain ⟨e9_0, e9_1, e9_2, e9_3, e9_4⟩ := tup5 hres
    subst e9_0
    subst e9_1
    subst e9_2
    subst e9_3
    subst e9_4
    rw [← hQQ]
    exact W.iret (v := x2) hx hb hr (fun t ht hW => ⟨⟨x2, (), rfl, rfl, by rw [ht]; exact hP.sub [2, 0, 1] rfl, va_K.moved hW.alike hK, hD.sub [2, 0, 1] (by decide) rfl⟩, hS.F ht⟩) hS.2.2 dX4_readCorrection_35

-- Rd_readCorrections
theorem kRd_readCorrections_X4_readCorrections_0 : Cond.fieldLink RX4 40 "RepeatNests$Reader" "correctionsTold" "I" ∈ wsX4_readCorrections := by decide +kernel
theorem iRd_readCorrections_X4_readCorrections_1 : ∀ w ∈ wsX40, w ∈ wsX4_readCorrections := by decide +kernel
theorem kRd_readCorrections_X4_readCorrections_2 : Cond.fieldLink RX4 43 "RepeatNests$Reader" "mostCorrections" "I" ∈ wsX4_readCorrections := by decide +kernel
theorem kRd_readCorrections_X4_readCorrections_3 : Cond.methodLink RX4 87 Lib.Math.max.name ∈ wsX4_readCorrections := by decide +kernel
theorem kRd_readCorrections_X4_readCorrections_4 : Cond.static Lib.Math.max.name ∈ wsX4_readCorrections := by decide +kernel
theorem kRd_readCorrections_X4_readCorrections_5 : Cond.initialized "java/lang/Math" ∈ wsX4_readCorrections := by decide +kernel
theorem kRd_readCorrections_X4_readCorrections_6 : Cond.code Lib.Math.max.name Lib.Math.max.code 2 (some .int) ∈ wsX4_readCorrections := by decide +kernel
set_option maxHeartbeats 4000000 in
set_option maxRecDepth 100000 in
theorem cRd_readCorrections (l : Launch) (dC : Nat → ClassId) (dI : Nat → Nat → Nat) (cI cJ cC cS : ClassId) (h_t h_t_signs h_t_letters : Nat) (sz : Nat) (t_length : Int32) (t_at : Int32) (t_size : Int32) (t_faultPlace : Int32) (t_faultReason : Int32) (t_lettersTold : Int32) (t_repeatsTold : Int32) (t_correctionsTold : Int32) (t_mostCorrections : Int32) (t_deepest : Int32) (t_fresh : Int32) (t_letters : Nat → Int32) (t_signs : Nat → Int32) (x1 : Int32) (x2 : Int32) (y_t_at : Int32) (y_t_faultPlace : Int32) (y_t_faultReason : Int32) (y_t_correctionsTold : Int32) (y_t_mostCorrections : Int32) (y_t_letters : Nat → Int32) (hres : fRd_readCorrections t_length t_size t_signs t_at t_faultPlace t_faultReason t_correctionsTold t_mostCorrections t_letters x1 x2 = some (y_t_at, y_t_faultPlace, y_t_faultReason, y_t_correctionsTold, y_t_mostCorrections, y_t_letters)) :
    Met l yX4_readCorrections wsX4_readCorrections ({ frames := 3, cells := 0, slots := 0, locals := 68 } : Room) (va_Pc [.ref h_t, .int x1, .int x2] (fun (U : State) => U.heap.size = sz ∧ va_P (dC, dI) vwCl [(h_t, .inr (3, [.ref h_t_signs, .ref h_t_letters, .int t_length, .int t_at, .int t_size, .int t_faultPlace, .int t_faultReason, .int t_lettersTold, .int t_repeatsTold, .int t_correctionsTold, .int t_mostCorrections, .int t_deepest, .int t_fresh])), (h_t_letters, .inl (cI, 744, .inl t_letters)), (h_t_signs, .inl (cI, 60, .inl t_signs))] U.heap ∧ va_K (dC, dI) vwCl (tyA cI cJ cC cS) U ∧ nwN U ∧ va_D (fun _ => True) [(h_t, .inr (3, [.ref h_t_signs, .ref h_t_letters, .int t_length, .int t_at, .int t_size, .int t_faultPlace, .int t_faultReason, .int t_lettersTold, .int t_repeatsTold, .int t_correctionsTold, .int t_mostCorrections, .int t_deepest, .int t_fresh])), (h_t_letters, .inl (cI, 744, .inl t_letters)), (h_t_signs, .inl (cI, 60, .inl t_signs))])) (va_Qv (fun (_ : Unit) => True) (fun (_ : Unit) (t : State) => va_P (dC, dI) vwCl [(h_t, .inr (3, [.ref h_t_signs, .ref h_t_letters, .int t_length, .int y_t_at, .int t_size, .int y_t_faultPlace, .int y_t_faultReason, .int t_lettersTold, .int t_repeatsTold, .int y_t_correctionsTold, .int y_t_mostCorrections, .int t_deepest, .int t_fresh])), (h_t_letters, .inl (cI, 744, .inl y_t_letters)), (h_t_signs, .inl (cI, 60, .inl t_signs))] t.heap ∧ va_K (dC, dI) vwCl (tyA cI cJ cC cS) t ∧ va_D (va_A [(h_t, .inr (3, [.ref h_t_signs, .ref h_t_letters, .int t_length, .int t_at, .int t_size, .int t_faultPlace, .int t_faultReason, .int t_lettersTold, .int t_repeatsTold, .int t_correctionsTold, .int t_mostCorrections, .int t_deepest, .int t_fresh])), (h_t_letters, .inl (cI, 744, .inl t_letters)), (h_t_signs, .inl (cI, 60, .inl t_signs))] sz) [(h_t, .inr (3, [.ref h_t_signs, .ref h_t_letters, .int t_length, .int y_t_at, .int t_size, .int y_t_faultPlace, .int y_t_faultReason, .int t_lettersTold, .int t_repeatsTold, .int y_t_correctionsTold, .int y_t_mostCorrections, .int t_deepest, .int t_fresh])), (h_t_letters, .inl (cI, 744, .inl y_t_letters)), (h_t_signs, .inl (cI, 60, .inl t_signs))]) (va_A [(h_t, .inr (3, [.ref h_t_signs, .ref h_t_letters, .int t_length, .int t_at, .int t_size, .int t_faultPlace, .int t_faultReason, .int t_lettersTold, .int t_repeatsTold, .int t_correctionsTold, .int t_mostCorrections, .int t_deepest, .int t_fresh])), (h_t_letters, .inl (cI, 744, .inl t_letters)), (h_t_signs, .inl (cI, 60, .inl t_signs))] sz)) 0 0 (va_A [(h_t, .inr (3, [.ref h_t_signs, .ref h_t_letters, .int t_length, .int t_at, .int t_size, .int t_faultPlace, .int t_faultReason, .int t_lettersTold, .int t_repeatsTold, .int t_correctionsTold, .int t_mostCorrections, .int t_deepest, .int t_fresh])), (h_t_letters, .inl (cI, 744, .inl t_letters)), (h_t_signs, .inl (cI, 60, .inl t_signs))] sz) := by
  refine Met.ofW (cc := cX4_readCorrections) (maxL := 5) (ret := none) (by decide) rfl ?_
  intro p e s m args below meth c s₁ B hml hv
  obtain ⟨hargs, hsz, hP, hK, hN, hD0⟩ := hv
  have hx := B.exec
  have hb := B.bytes
  have hr := B.returns
  have hts := atoms_spec (ws := wsX4_readCorrections) B.pre
  have hown : s.vm.findClass RX4 = some m.cls := findClass_of_methodNamed B.named
  have hlocks := B.notSynchronized
  subst hsz
  have hD := hD0.self (sz := s.heap.size)
  generalize hAe : va_A [(h_t, .inr (3, [.ref h_t_signs, .ref h_t_letters, .int t_length, .int t_at, .int t_size, .int t_faultPlace, .int t_faultReason, .int t_lettersTold, .int t_repeatsTold, .int t_correctionsTold, .int t_mostCorrections, .int t_deepest, .int t_fresh])), (h_t_letters, .inl (cI, 744, .inl t_letters)), (h_t_signs, .inl (cI, 60, .inl t_signs))] s.heap.size = A at hD ⊢
  have hA : ∀ q : Nat, s.heap.size ≤ q → A q := fun q h => by rw [← hAe]; exact Or.inr h
  have hS : va_S A s.heap s.heap [] := va_S.rf
  have hP : va_P (dC, dI) vwCl [(h_t, .inr (3, [.ref h_t_signs, .ref h_t_letters, .int t_length, .int t_at, .int t_size, .int t_faultPlace, .int t_faultReason, .int t_lettersTold, .int t_repeatsTold, .int t_correctionsTold, .int t_mostCorrections, .int t_deepest, .int t_fresh])), (h_t_letters, .inl (cI, 744, .inl t_letters)), (h_t_signs, .inl (cI, 60, .inl t_signs))] s.heap := hP
  have hl := lv_entry [.ref h_t, .int x1, .int x2] (n := 5) (Nat.le_of_ble_eq_true rfl)
  rw [show entryFrame m args 5 = entryFrame m ([.ref h_t, .int x1, .int x2] : List Value).toArray 5 from by rw [hargs], lg_entry_eq]
  generalize (lg_sl [.ref h_t, .int x1, .int x2] ++ List.replicate (5 - (lg_sl [.ref h_t, .int x1, .int x2]).length) Slot.unset).toArray = ls at hl ⊢
  have hl : lv_has ls 5 [(0, .ref h_t), (1, .int x1), (2, .int x2)] := hl
  generalize hQQ : MQ below (va_Qv (fun (_ : Unit) => True) (fun (_ : Unit) (t : State) => va_P (dC, dI) vwCl [(h_t, .inr (3, [.ref h_t_signs, .ref h_t_letters, .int t_length, .int y_t_at, .int t_size, .int y_t_faultPlace, .int y_t_faultReason, .int t_lettersTold, .int t_repeatsTold, .int y_t_correctionsTold, .int y_t_mostCorrections, .int t_deepest, .int t_fresh])), (h_t_letters, .inl (cI, 744, .inl y_t_letters)), (h_t_signs, .inl (cI, 60, .inl t_signs))] t.heap ∧ va_K (dC, dI) vwCl (tyA cI cJ cC cS) t ∧ va_D A [(h_t, .inr (3, [.ref h_t_signs, .ref h_t_letters, .int t_length, .int y_t_at, .int t_size, .int y_t_faultPlace, .int y_t_faultReason, .int t_lettersTold, .int t_repeatsTold, .int y_t_correctionsTold, .int y_t_mostCorrections, .int t_deepest, .int t_fresh])), (h_t_letters, .inl (cI, 744, .inl y_t_letters)), (h_t_signs, .inl (cI, 60, .inl t_signs))]) A) args s 0 0 A = QQ
  obtain ⟨H, hH⟩ : ∃ H : Heap, H = s.heap := ⟨_, rfl⟩
  obtain ⟨locs, hlocs⟩ : ∃ locs : List Loc, locs = [] := ⟨_, rfl⟩
  rw [← hH] at hP
  have hS : va_S A s.heap H locs := by rw [hH, hlocs]; exact hS
  suffices hZ : W p l e (headSpec wsX4_readCorrections ({ frames := 3, cells := 0, slots := 0, locals := 68 } : Room)).room s m args below meth c H locs 0 0 QQ (F0 m 0 ls []) by rw [hH, hlocs] at hZ; exact hZ
  clear hH hlocs
  have hK45 : ∀ (x3 : Int32) (t_at : Int32) (t_faultPlace : Int32) (t_faultReason : Int32) (t_correctionsTold : Int32) (t_mostCorrections : Int32) (t_letters : Nat → Int32) (H : Heap) (locs : List Loc) (ls : Array Slot), fRd_readCorrections_45 x3 t_at t_faultPlace t_faultReason t_correctionsTold t_mostCorrections t_letters = some (y_t_at, y_t_faultPlace, y_t_faultReason, y_t_correctionsTold, y_t_mostCorrections, y_t_letters) → va_P (dC, dI) vwCl [(h_t, .inr (3, [.ref h_t_signs, .ref h_t_letters, .int t_length, .int t_at, .int t_size, .int t_faultPlace, .int t_faultReason, .int t_lettersTold, .int t_repeatsTold, .int t_correctionsTold, .int t_mostCorrections, .int t_deepest, .int t_fresh])), (h_t_letters, .inl (cI, 744, .inl t_letters)), (h_t_signs, .inl (cI, 60, .inl t_signs))] H → va_D A [(h_t, .inr (3, [.ref h_t_signs, .ref h_t_letters, .int t_length, .int t_at, .int t_size, .int t_faultPlace, .int t_faultReason, .int t_lettersTold, .int t_repeatsTold, .int t_correctionsTold, .int t_mostCorrections, .int t_deepest, .int t_fresh])), (h_t_letters, .inl (cI, 744, .inl t_letters)), (h_t_signs, .inl (cI, 60, .inl t_signs))] → va_S A s.heap H locs → lv_has ls 5 [(0, .ref h_t), (3, .int x3)] → W p l e (headSpec wsX4_readCorrections ({ frames := 3, cells := 0, slots := 0, locals := 68 } : Room)).room s m args below meth c H locs 0 0 QQ (F0 m 45 ls []) := by
    intro x3 t_at t_faultPlace t_faultReason t_correctionsTold t_mostCorrections t_letters H locs ls hres hP hD hS hl
    rw [fRd_readCorrections_45] at hres
    refine lv_aload_n hx hb dX4_readCorrections_45 rfl (lv_at hl 0 rfl) ?_
    refine lv_dup hx hb dX4_readCorrections_46 rfl ?_
    refine va_get (D := (dC, dI)) (ci := 3) (v := .int t_correctionsTold) (C := RX4) (T := TX4) (N := 13) hx hb hts iRd_readCorrections_X4_readCorrections_1 hown hK hP 0 rfl rfl 9 (by decide) (hts _ kRd_readCorrections_X4_readCorrections_0) (fun _ h9 => h9) rfl dX4_readCorrections_47 ?_
    refine lv_iload_n hx hb dX4_readCorrections_50 rfl (lv_at hl 1 rfl) ?_
    refine lv_iadd hx hb dX4_readCorrections_51 ?_
    refine va_put (D := (dC, dI)) (ci := 3) (v := .int (t_correctionsTold + x3)) (ty := .int) (C := RX4) (T := TX4) (N := 13) hx hb hts iRd_readCorrections_X4_readCorrections_1 tyX4 tyX4_ok nmX4 hown hK hP hD hS 0 rfl rfl 9 (by decide) (hts _ kRd_readCorrections_X4_readCorrections_0) (fun _ h9 => h9) rfl (by decide +kernel) rfl rfl (Nat.le_of_ble_eq_true rfl) dX4_readCorrections_52 (fun H locs hP hD hS => ?_)
    have hP : va_P (dC, dI) vwCl [(h_t, .inr (3, [.ref h_t_signs, .ref h_t_letters, .int t_length, .int t_at, .int t_size, .int t_faultPlace, .int t_faultReason, .int t_lettersTold, .int t_repeatsTold, .int (t_correctionsTold + x3), .int t_mostCorrections, .int t_deepest, .int t_fresh])), (h_t_letters, .inl (cI, 744, .inl t_letters)), (h_t_signs, .inl (cI, 60, .inl t_signs))] H := hP
    have hD : va_D A [(h_t, .inr (3, [.ref h_t_signs, .ref h_t_letters, .int t_length, .int t_at, .int t_size, .int t_faultPlace, .int t_faultReason, .int t_lettersTold, .int t_repeatsTold, .int (t_correctionsTold + x3), .int t_mostCorrections, .int t_deepest, .int t_fresh])), (h_t_letters, .inl (cI, 744, .inl t_letters)), (h_t_signs, .inl (cI, 60, .inl t_signs))] := hD
    refine lv_aload_n hx hb dX4_readCorrections_55 rfl (lv_at hl 0 rfl) ?_
    refine lv_aload_n hx hb dX4_readCorrections_56 rfl (lv_at hl 0 rfl) ?_
    refine va_get (D := (dC, dI)) (ci := 3) (v := .int t_mostCorrections) (C := RX4) (T := TX4) (N := 13) hx hb hts iRd_readCorrections_X4_readCorrections_1 hown hK hP 0 rfl rfl 10 (by decide) (hts _ kRd_readCorrections_X4_readCorrections_2) (fun _ h9 => h9) rfl dX4_readCorrections_57 ?_
    refine lv_iload_n hx hb dX4_readCorrections_60 rfl (lv_at hl 1 rfl) ?_
    refine va_mmax hx hb (by rw [hml]; exact hl.1.symm) hown (hts _ kRd_readCorrections_X4_readCorrections_3) (hts _ kRd_readCorrections_X4_readCorrections_4) (hts _ kRd_readCorrections_X4_readCorrections_5) (hts _ kRd_readCorrections_X4_readCorrections_6) (Nat.le_of_ble_eq_true rfl) (Nat.le_of_ble_eq_true rfl) (Nat.zero_le _) (Nat.zero_le _) dX4_readCorrections_61 ?_
    refine va_put (D := (dC, dI)) (ci := 3) (v := .int (if t_mostCorrections < x3 then x3 else t_mostCorrections)) (ty := .int) (C := RX4) (T := TX4) (N := 13) hx hb hts iRd_readCorrections_X4_readCorrections_1 tyX4 tyX4_ok nmX4 hown hK hP hD hS 0 rfl rfl 10 (by decide) (hts _ kRd_readCorrections_X4_readCorrections_2) (fun _ h9 => h9) rfl (by decide +kernel) rfl rfl (Nat.le_of_ble_eq_true rfl) dX4_readCorrections_64 (fun H locs hP hD hS => ?_)
    have hP : va_P (dC, dI) vwCl [(h_t, .inr (3, [.ref h_t_signs, .ref h_t_letters, .int t_length, .int t_at, .int t_size, .int t_faultPlace, .int t_faultReason, .int t_lettersTold, .int t_repeatsTold, .int (t_correctionsTold + x3), .int (if t_mostCorrections < x3 then x3 else t_mostCorrections), .int t_deepest, .int t_fresh])), (h_t_letters, .inl (cI, 744, .inl t_letters)), (h_t_signs, .inl (cI, 60, .inl t_signs))] H := hP
    have hD : va_D A [(h_t, .inr (3, [.ref h_t_signs, .ref h_t_letters, .int t_length, .int t_at, .int t_size, .int t_faultPlace, .int t_faultReason, .int t_lettersTold, .int t_repeatsTold, .int (t_correctionsTold + x3), .int (if t_mostCorrections < x3 then x3 else t_mostCorrections), .int t_deepest, .int t_fresh])), (h_t_letters, .inl (cI, 744, .inl t_letters)), (h_t_signs, .inl (cI, 60, .inl t_signs))] := hD
    obtain ⟨e9_0, e9_1, e9_2, e9_3, e9_4, e9_5⟩ := tup6 hres
    subst e9_0
    subst e9_1
    subst e9_2
    subst e9_3
    subst e9_4
    subst e9_5
    rw [← hQQ]
    exact W.vret hx hb hr (fun t ht hW => ⟨⟨(), rfl, trivial, by rw [ht]; exact hP, va_K.moved hW.alike hK, hD⟩, hS.F ht⟩) hS.2.2 dX4_readCorrections_67
  have hL7 : ∀ (n7 : Nat) , ∀ (x3 : Int32) (x4 : Int32) (t_at : Int32) (t_faultPlace : Int32) (t_faultReason : Int32) (t_correctionsTold : Int32) (t_mostCorrections : Int32) (t_letters : Nat → Int32) (H : Heap) (locs : List Loc) (ls : Array Slot), fRd_readCorrections_7 t_length t_size t_signs x1 n7 x3 x4 t_at t_faultPlace t_faultReason t_correctionsTold t_mostCorrections t_letters = some (y_t_at, y_t_faultPlace, y_t_faultReason, y_t_correctionsTold, y_t_mostCorrections, y_t_letters) → va_P (dC, dI) vwCl [(h_t, .inr (3, [.ref h_t_signs, .ref h_t_letters, .int t_length, .int t_at, .int t_size, .int t_faultPlace, .int t_faultReason, .int t_lettersTold, .int t_repeatsTold, .int t_correctionsTold, .int t_mostCorrections, .int t_deepest, .int t_fresh])), (h_t_letters, .inl (cI, 744, .inl t_letters)), (h_t_signs, .inl (cI, 60, .inl t_signs))] H → va_D A [(h_t, .inr (3, [.ref h_t_signs, .ref h_t_letters, .int t_length, .int t_at, .int t_size, .int t_faultPlace, .int t_faultReason, .int t_lettersTold, .int t_repeatsTold, .int t_correctionsTold, .int t_mostCorrections, .int t_deepest, .int t_fresh])), (h_t_letters, .inl (cI, 744, .inl t_letters)), (h_t_signs, .inl (cI, 60, .inl t_signs))] → va_S A s.heap H locs → lv_has ls 5 [(0, .ref h_t), (1, .int x1), (3, .int x3), (4, .int x4)] → W p l e (headSpec wsX4_readCorrections ({ frames := 3, cells := 0, slots := 0, locals := 68 } : Room)).room s m args below meth c H locs 0 0 QQ (F0 m 7 ls []) := by
    intro n7
    induction n7 with
    | zero =>
      intro x3 x4 t_at t_faultPlace t_faultReason t_correctionsTold t_mostCorrections t_letters H locs ls hres
      rw [fRd_readCorrections_7] at hres
      cases hres
    | succ n7 ih7 =>
      intro x3 x4 t_at t_faultPlace t_faultReason t_correctionsTold t_mostCorrections t_letters H locs ls hres hP hD hS hl
      rw [fRd_readCorrections_7] at hres
      refine lv_aload_n hx hb dX4_readCorrections_7 rfl (lv_at hl 0 rfl) ?_
      obtain ⟨o1, ho1, hres⟩ := bd_of hres
      have hPc := hP.sub (ws' := [(h_t, .inr (3, [.ref h_t_signs, .ref h_t_letters, .int t_length, .int t_at, .int t_size, .int t_faultPlace, .int t_faultReason, .int t_lettersTold, .int t_repeatsTold, .int t_correctionsTold, .int t_mostCorrections, .int t_deepest, .int t_fresh])), (h_t_signs, .inl (cI, 60, .inl t_signs))]) [0, 2] rfl
      have hDc := hD.sub (ws' := [(h_t, .inr (3, [.ref h_t_signs, .ref h_t_letters, .int t_length, .int t_at, .int t_size, .int t_faultPlace, .int t_faultReason, .int t_lettersTold, .int t_repeatsTold, .int t_correctionsTold, .int t_mostCorrections, .int t_deepest, .int t_fresh])), (h_t_signs, .inl (cI, 60, .inl t_signs))]) [0, 2] (by decide) rfl
      have hFc := va_free (wc := [(h_t, .inr (3, [.ref h_t_signs, .ref h_t_letters, .int t_length, .int t_at, .int t_size, .int t_faultPlace, .int t_faultReason, .int t_lettersTold, .int t_repeatsTold, .int t_correctionsTold, .int t_mostCorrections, .int t_deepest, .int t_fresh])), (h_t_signs, .inl (cI, 60, .inl t_signs))]) hD hS hA [0, 2] rfl
      refine va_calli (va_runV (As := []) (rest := []) ⟨hx, hb, hml, hown, hts⟩ (cRd_sign l dC dI cI cJ cC cS h_t h_t_signs h_t_letters H.size t_length t_at t_size t_faultPlace t_faultReason t_lettersTold t_repeatsTold t_correctionsTold t_mostCorrections t_deepest t_fresh t_signs o1 ho1) (cwV 0 hts gX4_readCorrections_X4_sign rfl rfl rfl (by decide +kernel) ⟨Nat.le_of_ble_eq_true rfl, Nat.le_of_ble_eq_true rfl⟩) ⟨fun a U g mk q => by obtain ⟨q0, q1, qP, qK, qN, qD⟩ := q; exact ⟨q0, q1, qP, va_K.moved (u := U) (U := U.calling g mk a) (Vm.Alike.refl U.vm) qK, nwS (u := U) (U := U.calling g mk a) rfl qN, qD⟩, va_recv hK hPc (ci := 3) (q0 := 0) rfl rfl, fun U hU hW => ⟨rfl, by rw [hU], by rw [hU]; exact hPc, va_K.moved hW.alike hK, nwW hW hN, hDc.weaken (fun _ _ _ _ => trivial)⟩⟩ rfl rfl hl.1 rfl (lv_room (Nat.le_of_ble_eq_true rfl)) dX4_readCorrections_8 ⟨Nat.zero_le _, Nat.zero_le _⟩) hS (fun q _ h => hFc q h) hFc (fun r9 u9 t H1 locs ht hvm hw hB hz1 hk1 hS => ?_)
      have hw := hw.symm
      subst hw
      obtain ⟨hP1, hK1, hD1⟩ := hB
      rw [ht] at hP1
      obtain ⟨hP, hD⟩ := va_join (wr := [(h_t_letters, .inl (cI, 744, .inl t_letters))]) (w1 := [(h_t, .inr (3, [.ref h_t_signs, .ref h_t_letters, .int t_length, .int t_at, .int t_size, .int t_faultPlace, .int t_faultReason, .int t_lettersTold, .int t_repeatsTold, .int t_correctionsTold, .int t_mostCorrections, .int t_deepest, .int t_fresh])), (h_t_signs, .inl (cI, 60, .inl t_signs))]) hP hD [0, 2] [1] rfl rfl (by decide) (by decide) hk1 hFc hP1 hD1
      generalize H1 = H at hP hS ⊢
      have hP : va_P (dC, dI) vwCl [(h_t_letters, .inl (cI, 744, .inl t_letters)), (h_t, .inr (3, [.ref h_t_signs, .ref h_t_letters, .int t_length, .int t_at, .int t_size, .int t_faultPlace, .int t_faultReason, .int t_lettersTold, .int t_repeatsTold, .int t_correctionsTold, .int t_mostCorrections, .int t_deepest, .int t_fresh])), (h_t_signs, .inl (cI, 60, .inl t_signs))] H := hP
      have hD : va_D A [(h_t_letters, .inl (cI, 744, .inl t_letters)), (h_t, .inr (3, [.ref h_t_signs, .ref h_t_letters, .int t_length, .int t_at, .int t_size, .int t_faultPlace, .int t_faultReason, .int t_lettersTold, .int t_repeatsTold, .int t_correctionsTold, .int t_mostCorrections, .int t_deepest, .int t_fresh])), (h_t_signs, .inl (cI, 60, .inl t_signs))] := hD
      refine lv_bipush (v := (91 : Int32)) hx hb dX4_readCorrections_11 (by decide) ?_
      refine lv_icmp_ne (tgt := 45) hx hb dX4_readCorrections_13 (by decide) (fun c_2 => ?_) (fun c_2 => ?_)
      · have hres := ie_of hres c_2
        exact hK45 x3 t_at t_faultPlace t_faultReason t_correctionsTold t_mostCorrections t_letters H locs ls hres (hP.sub [1, 0, 2] rfl) (hD.sub [1, 0, 2] (by decide) rfl) hS (lv_sub hl [0, 2] rfl)
      · have hres := it_of hres c_2
        refine lv_iload_n hx hb dX4_readCorrections_16 rfl (lv_at hl 2 rfl) ?_
        refine lv_bipush (v := (60 : Int32)) hx hb dX4_readCorrections_17 (by decide) ?_
        refine lv_icmp_ge (tgt := 45) hx hb dX4_readCorrections_19 (by decide) (fun c_3 => ?_) (fun c_3 => ?_)
        · have hres := it_of hres c_3
          exact hK45 x3 t_at t_faultPlace t_faultReason t_correctionsTold t_mostCorrections t_letters H locs ls hres (hP.sub [1, 0, 2] rfl) (hD.sub [1, 0, 2] (by decide) rfl) hS (lv_sub hl [0, 2] rfl)
        · have hres := ie_of hres c_3
          refine lv_aload_n hx hb dX4_readCorrections_22 rfl (lv_at hl 0 rfl) ?_
          refine lv_iload_n hx hb dX4_readCorrections_23 rfl (lv_at hl 1 rfl) ?_
          refine lv_iload hx hb dX4_readCorrections_24 (lv_at hl 3 rfl) ?_
          obtain ⟨o4, ho4, hres⟩ := bd_of hres
          have hPc := hP.sub (ws' := [(h_t, .inr (3, [.ref h_t_signs, .ref h_t_letters, .int t_length, .int t_at, .int t_size, .int t_faultPlace, .int t_faultReason, .int t_lettersTold, .int t_repeatsTold, .int t_correctionsTold, .int t_mostCorrections, .int t_deepest, .int t_fresh])), (h_t_letters, .inl (cI, 744, .inl t_letters)), (h_t_signs, .inl (cI, 60, .inl t_signs))]) [1, 0, 2] rfl
          have hDc := hD.sub (ws' := [(h_t, .inr (3, [.ref h_t_signs, .ref h_t_letters, .int t_length, .int t_at, .int t_size, .int t_faultPlace, .int t_faultReason, .int t_lettersTold, .int t_repeatsTold, .int t_correctionsTold, .int t_mostCorrections, .int t_deepest, .int t_fresh])), (h_t_letters, .inl (cI, 744, .inl t_letters)), (h_t_signs, .inl (cI, 60, .inl t_signs))]) [1, 0, 2] (by decide) rfl
          have hFc := va_free (wc := [(h_t, .inr (3, [.ref h_t_signs, .ref h_t_letters, .int t_length, .int t_at, .int t_size, .int t_faultPlace, .int t_faultReason, .int t_lettersTold, .int t_repeatsTold, .int t_correctionsTold, .int t_mostCorrections, .int t_deepest, .int t_fresh])), (h_t_letters, .inl (cI, 744, .inl t_letters)), (h_t_signs, .inl (cI, 60, .inl t_signs))]) hD hS hA [1, 0, 2] rfl
          refine va_calli (va_runV (As := [.int x1, .int x4]) (rest := []) ⟨hx, hb, hml, hown, hts⟩ (cRd_readCorrection l dC dI cI cJ cC cS h_t h_t_signs h_t_letters H.size t_length t_at t_size t_faultPlace t_faultReason t_lettersTold t_repeatsTold t_correctionsTold t_mostCorrections t_deepest t_fresh t_letters t_signs x1 x4 o4.1 o4.2.1 o4.2.2.1 o4.2.2.2.1 o4.2.2.2.2 ho4) (cwV 2 hts gX4_readCorrections_X4_readCorrection rfl rfl rfl (by decide +kernel) ⟨Nat.le_of_ble_eq_true rfl, Nat.le_of_ble_eq_true rfl⟩) ⟨fun a U g mk q => by obtain ⟨q0, q1, qP, qK, qN, qD⟩ := q; exact ⟨q0, q1, qP, va_K.moved (u := U) (U := U.calling g mk a) (Vm.Alike.refl U.vm) qK, nwS (u := U) (U := U.calling g mk a) rfl qN, qD⟩, va_recv hK hPc (ci := 3) (q0 := 0) rfl rfl, fun U hU hW => ⟨rfl, by rw [hU], by rw [hU]; exact hPc, va_K.moved hW.alike hK, nwW hW hN, hDc.weaken (fun _ _ _ _ => trivial)⟩⟩ rfl rfl hl.1 rfl (lv_room (Nat.le_of_ble_eq_true rfl)) dX4_readCorrections_26 ⟨Nat.zero_le _, Nat.zero_le _⟩) hS (fun q _ h => hFc q h) hFc (fun r9 u9 t H1 locs ht hvm hw hB hz1 hk1 hS => ?_)
          have hw := hw.symm
          subst hw
          obtain ⟨hP1, hK1, hD1⟩ := hB
          rw [ht] at hP1
          obtain ⟨hP, hD⟩ := va_join (wr := []) (w1 := [(h_t, .inr (3, [.ref h_t_signs, .ref h_t_letters, .int t_length, .int o4.2.1, .int t_size, .int o4.2.2.1, .int o4.2.2.2.1, .int t_lettersTold, .int t_repeatsTold, .int t_correctionsTold, .int t_mostCorrections, .int t_deepest, .int t_fresh])), (h_t_letters, .inl (cI, 744, .inl o4.2.2.2.2)), (h_t_signs, .inl (cI, 60, .inl t_signs))]) hP hD [1, 0, 2] [] rfl rfl (by decide) (by decide) hk1 hFc hP1 hD1
          generalize H1 = H at hP hS ⊢
          have hP : va_P (dC, dI) vwCl [(h_t, .inr (3, [.ref h_t_signs, .ref h_t_letters, .int t_length, .int o4.2.1, .int t_size, .int o4.2.2.1, .int o4.2.2.2.1, .int t_lettersTold, .int t_repeatsTold, .int t_correctionsTold, .int t_mostCorrections, .int t_deepest, .int t_fresh])), (h_t_letters, .inl (cI, 744, .inl o4.2.2.2.2)), (h_t_signs, .inl (cI, 60, .inl t_signs))] H := hP
          have hD : va_D A [(h_t, .inr (3, [.ref h_t_signs, .ref h_t_letters, .int t_length, .int o4.2.1, .int t_size, .int o4.2.2.1, .int o4.2.2.2.1, .int t_lettersTold, .int t_repeatsTold, .int t_correctionsTold, .int t_mostCorrections, .int t_deepest, .int t_fresh])), (h_t_letters, .inl (cI, 744, .inl o4.2.2.2.2)), (h_t_signs, .inl (cI, 60, .inl t_signs))] := hD
          refine lv_istore (lv' := [(4, .int o4.1), (0, .ref h_t), (1, .int x1), (3, .int x3)]) hx hb dX4_readCorrections_29 hl (by decide) rfl (fun ls hl => ?_)
          refine lv_aload_n hx hb dX4_readCorrections_31 rfl (lv_at hl 1 rfl) ?_
          obtain ⟨o5, ho5, hres⟩ := bd_of hres
          have hPc := hP.sub (ws' := [(h_t, .inr (3, [.ref h_t_signs, .ref h_t_letters, .int t_length, .int o4.2.1, .int t_size, .int o4.2.2.1, .int o4.2.2.2.1, .int t_lettersTold, .int t_repeatsTold, .int t_correctionsTold, .int t_mostCorrections, .int t_deepest, .int t_fresh]))]) [0] rfl
          have hDc := hD.sub (ws' := [(h_t, .inr (3, [.ref h_t_signs, .ref h_t_letters, .int t_length, .int o4.2.1, .int t_size, .int o4.2.2.1, .int o4.2.2.2.1, .int t_lettersTold, .int t_repeatsTold, .int t_correctionsTold, .int t_mostCorrections, .int t_deepest, .int t_fresh]))]) [0] (by decide) rfl
          have hFc := va_free (wc := [(h_t, .inr (3, [.ref h_t_signs, .ref h_t_letters, .int t_length, .int o4.2.1, .int t_size, .int o4.2.2.1, .int o4.2.2.2.1, .int t_lettersTold, .int t_repeatsTold, .int t_correctionsTold, .int t_mostCorrections, .int t_deepest, .int t_fresh]))]) hD hS hA [0] rfl
          refine va_calli (va_runV (As := []) (rest := []) ⟨hx, hb, hml, hown, hts⟩ (cRd_hasFault l dC dI cI cJ cC cS h_t h_t_signs h_t_letters H.size t_length o4.2.1 t_size o4.2.2.1 o4.2.2.2.1 t_lettersTold t_repeatsTold t_correctionsTold t_mostCorrections t_deepest t_fresh o5 ho5) (cwV 0 hts gX4_readCorrections_X4_hasFault rfl rfl rfl (by decide +kernel) ⟨Nat.le_of_ble_eq_true rfl, Nat.le_of_ble_eq_true rfl⟩) ⟨fun a U g mk q => by obtain ⟨q0, q1, qP, qK, qN, qD⟩ := q; exact ⟨q0, q1, qP, va_K.moved (u := U) (U := U.calling g mk a) (Vm.Alike.refl U.vm) qK, nwS (u := U) (U := U.calling g mk a) rfl qN, qD⟩, va_recv hK hPc (ci := 3) (q0 := 0) rfl rfl, fun U hU hW => ⟨rfl, by rw [hU], by rw [hU]; exact hPc, va_K.moved hW.alike hK, nwW hW hN, hDc.weaken (fun _ _ _ _ => trivial)⟩⟩ rfl rfl hl.1 rfl (lv_room (Nat.le_of_ble_eq_true rfl)) dX4_readCorrections_32 ⟨Nat.zero_le _, Nat.zero_le _⟩) hS (fun q _ h => hFc q h) hFc (fun r9 u9 t H1 locs ht hvm hw hB hz1 hk1 hS => ?_)
          have hw := hw.symm
          subst hw
          obtain ⟨hP1, hK1, hD1⟩ := hB
          rw [ht] at hP1
          obtain ⟨hP, hD⟩ := va_join (wr := [(h_t_letters, .inl (cI, 744, .inl o4.2.2.2.2)), (h_t_signs, .inl (cI, 60, .inl t_signs))]) (w1 := [(h_t, .inr (3, [.ref h_t_signs, .ref h_t_letters, .int t_length, .int o4.2.1, .int t_size, .int o4.2.2.1, .int o4.2.2.2.1, .int t_lettersTold, .int t_repeatsTold, .int t_correctionsTold, .int t_mostCorrections, .int t_deepest, .int t_fresh]))]) hP hD [0] [1, 2] rfl rfl (by decide) (by decide) hk1 hFc hP1 hD1
          generalize H1 = H at hP hS ⊢
          have hP : va_P (dC, dI) vwCl [(h_t_letters, .inl (cI, 744, .inl o4.2.2.2.2)), (h_t_signs, .inl (cI, 60, .inl t_signs)), (h_t, .inr (3, [.ref h_t_signs, .ref h_t_letters, .int t_length, .int o4.2.1, .int t_size, .int o4.2.2.1, .int o4.2.2.2.1, .int t_lettersTold, .int t_repeatsTold, .int t_correctionsTold, .int t_mostCorrections, .int t_deepest, .int t_fresh]))] H := hP
          have hD : va_D A [(h_t_letters, .inl (cI, 744, .inl o4.2.2.2.2)), (h_t_signs, .inl (cI, 60, .inl t_signs)), (h_t, .inr (3, [.ref h_t_signs, .ref h_t_letters, .int t_length, .int o4.2.1, .int t_size, .int o4.2.2.1, .int o4.2.2.2.1, .int t_lettersTold, .int t_repeatsTold, .int t_correctionsTold, .int t_mostCorrections, .int t_deepest, .int t_fresh]))] := hD
          refine lv_if_eq (tgt := 39) hx hb dX4_readCorrections_35 (by decide) (fun c_6 => ?_) (fun c_6 => ?_)
          · have hres := it_of hres c_6
            refine lv_iinc (v := (x3 + 1)) (lv' := [(3, .int (x3 + 1)), (4, .int o4.1), (0, .ref h_t), (1, .int x1)]) hx hb dX4_readCorrections_39 hl (k := 3) rfl rfl (by decide) rfl (fun ls hl => ?_)
            refine lv_goto (tgt := 7) hx hb dX4_readCorrections_42 (by decide) ?_
            exact ih7 (x3 + 1) o4.1 o4.2.1 o4.2.2.1 o4.2.2.2.1 t_correctionsTold t_mostCorrections o4.2.2.2.2 H locs ls hres (hP.sub [2, 0, 1] rfl) (hD.sub [2, 0, 1] (by decide) rfl) hS (lv_sub hl [2, 3, 0, 1] rfl)
          · have hres := ie_of hres c_6
            obtain ⟨e9_0, e9_1, e9_2, e9_3, e9_4, e9_5⟩ := tup6 hres
            subst e9_0
            subst e9_1
            subst e9_2
            subst e9_3
            subst e9_4
            subst e9_5
            rw [← hQQ]
            exact W.vret hx hb hr (fun t ht hW => ⟨⟨(), rfl, trivial, by rw [ht]; exact hP.sub [2, 0, 1] rfl, va_K.moved hW.alike hK, hD.sub [2, 0, 1] (by decide) rfl⟩, hS.F ht⟩) hS.2.2 dX4_readCorrections_38
  rw [fRd_readCorrections] at hres
  refine lv_iconst (v := (0 : Int32)) hx hb dX4_readCorrections_0 (by decide) ?_
  refine lv_istore_n (lv' := [(3, .int (0 : Int32)), (0, .ref h_t), (1, .int x1), (2, .int x2)]) hx hb dX4_readCorrections_1 rfl hl (by decide) rfl (fun ls hl => ?_)
  refine lv_iload_n hx hb dX4_readCorrections_2 rfl (lv_at hl 3 rfl) ?_
  refine lv_iconst (v := (1 : Int32)) hx hb dX4_readCorrections_3 (by decide) ?_
  refine lv_isub hx hb dX4_readCorrections_4 ?_
  refine lv_istore (lv' := [(4, .int (x2 - (1 : Int32))), (3, .int (0 : Int32)), (0, .ref h_t), (1, .int x1), (2, .int x2)]) hx hb dX4_readCorrections_5 hl (by decide) rfl (fun ls hl => ?_)
  exact hL7 FU (0 : Int32) (x2 - (1 : Int32)) t_at t_faultPlace t_faultReason t_correctionsTold t_mostCorrections t_letters H locs ls hres hP hD hS (lv_sub hl [2, 3, 1, 0] rfl)

-- Rd_unfold
theorem kRd_unfold_X4_unfold_0 : Cond.fieldLink RX4 25 "RepeatNests$Reader" "size" "I" ∈ wsX4_unfold := by decide +kernel
theorem iRd_unfold_X4_unfold_1 : ∀ w ∈ wsX40, w ∈ wsX4_unfold := by decide +kernel
set_option maxHeartbeats 4000000 in
set_option maxRecDepth 100000 in
theorem cRd_unfold (l : Launch) (dC : Nat → ClassId) (dI : Nat → Nat → Nat) (cI cJ cC cS : ClassId) (h_t h_t_signs h_t_letters : Nat) (sz : Nat) (t_length : Int32) (t_at : Int32) (t_size : Int32) (t_faultPlace : Int32) (t_faultReason : Int32) (t_lettersTold : Int32) (t_repeatsTold : Int32) (t_correctionsTold : Int32) (t_mostCorrections : Int32) (t_deepest : Int32) (t_fresh : Int32) (t_letters : Nat → Int32) (x1 : Int32) (x2 : Int32) (y_t_size : Int32) (y_t_letters : Nat → Int32) (hres : fRd_unfold t_size t_letters x1 x2 = some (y_t_size, y_t_letters)) :
    Met l yX4_unfold wsX4_unfold ({ frames := 1, cells := 0, slots := 0, locals := 22 } : Room) (va_Pc [.ref h_t, .int x1, .int x2] (fun (U : State) => U.heap.size = sz ∧ va_P (dC, dI) vwCl [(h_t, .inr (3, [.ref h_t_signs, .ref h_t_letters, .int t_length, .int t_at, .int t_size, .int t_faultPlace, .int t_faultReason, .int t_lettersTold, .int t_repeatsTold, .int t_correctionsTold, .int t_mostCorrections, .int t_deepest, .int t_fresh])), (h_t_letters, .inl (cI, 744, .inl t_letters))] U.heap ∧ va_K (dC, dI) vwCl (tyA cI cJ cC cS) U ∧ nwN U ∧ va_D (fun _ => True) [(h_t, .inr (3, [.ref h_t_signs, .ref h_t_letters, .int t_length, .int t_at, .int t_size, .int t_faultPlace, .int t_faultReason, .int t_lettersTold, .int t_repeatsTold, .int t_correctionsTold, .int t_mostCorrections, .int t_deepest, .int t_fresh])), (h_t_letters, .inl (cI, 744, .inl t_letters))])) (va_Qv (fun (_ : Unit) => True) (fun (_ : Unit) (t : State) => va_P (dC, dI) vwCl [(h_t, .inr (3, [.ref h_t_signs, .ref h_t_letters, .int t_length, .int t_at, .int y_t_size, .int t_faultPlace, .int t_faultReason, .int t_lettersTold, .int t_repeatsTold, .int t_correctionsTold, .int t_mostCorrections, .int t_deepest, .int t_fresh])), (h_t_letters, .inl (cI, 744, .inl y_t_letters))] t.heap ∧ va_K (dC, dI) vwCl (tyA cI cJ cC cS) t ∧ va_D (va_A [(h_t, .inr (3, [.ref h_t_signs, .ref h_t_letters, .int t_length, .int t_at, .int t_size, .int t_faultPlace, .int t_faultReason, .int t_lettersTold, .int t_repeatsTold, .int t_correctionsTold, .int t_mostCorrections, .int t_deepest, .int t_fresh])), (h_t_letters, .inl (cI, 744, .inl t_letters))] sz) [(h_t, .inr (3, [.ref h_t_signs, .ref h_t_letters, .int t_length, .int t_at, .int y_t_size, .int t_faultPlace, .int t_faultReason, .int t_lettersTold, .int t_repeatsTold, .int t_correctionsTold, .int t_mostCorrections, .int t_deepest, .int t_fresh])), (h_t_letters, .inl (cI, 744, .inl y_t_letters))]) (va_A [(h_t, .inr (3, [.ref h_t_signs, .ref h_t_letters, .int t_length, .int t_at, .int t_size, .int t_faultPlace, .int t_faultReason, .int t_lettersTold, .int t_repeatsTold, .int t_correctionsTold, .int t_mostCorrections, .int t_deepest, .int t_fresh])), (h_t_letters, .inl (cI, 744, .inl t_letters))] sz)) 0 0 (va_A [(h_t, .inr (3, [.ref h_t_signs, .ref h_t_letters, .int t_length, .int t_at, .int t_size, .int t_faultPlace, .int t_faultReason, .int t_lettersTold, .int t_repeatsTold, .int t_correctionsTold, .int t_mostCorrections, .int t_deepest, .int t_fresh])), (h_t_letters, .inl (cI, 744, .inl t_letters))] sz) := by
  refine Met.ofW (cc := cX4_unfold) (maxL := 5) (ret := none) (by decide) rfl ?_
  intro p e s m args below meth c s₁ B hml hv
  obtain ⟨hargs, hsz, hP, hK, hN, hD0⟩ := hv
  have hx := B.exec
  have hb := B.bytes
  have hr := B.returns
  have hts := atoms_spec (ws := wsX4_unfold) B.pre
  have hown : s.vm.findClass RX4 = some m.cls := findClass_of_methodNamed B.named
  have hlocks := B.notSynchronized
  subst hsz
  have hD := hD0.self (sz := s.heap.size)
  generalize hAe : va_A [(h_t, .inr (3, [.ref h_t_signs, .ref h_t_letters, .int t_length, .int t_at, .int t_size, .int t_faultPlace, .int t_faultReason, .int t_lettersTold, .int t_repeatsTold, .int t_correctionsTold, .int t_mostCorrections, .int t_deepest, .int t_fresh])), (h_t_letters, .inl (cI, 744, .inl t_letters))] s.heap.size = A at hD ⊢
  have hA : ∀ q : Nat, s.heap.size ≤ q → A q := fun q h => by rw [← hAe]; exact Or.inr h
  have hS : va_S A s.heap s.heap [] := va_S.rf
  have hP : va_P (dC, dI) vwCl [(h_t, .inr (3, [.ref h_t_signs, .ref h_t_letters, .int t_length, .int t_at, .int t_size, .int t_faultPlace, .int t_faultReason, .int t_lettersTold, .int t_repeatsTold, .int t_correctionsTold, .int t_mostCorrections, .int t_deepest, .int t_fresh])), (h_t_letters, .inl (cI, 744, .inl t_letters))] s.heap := hP
  have hl := lv_entry [.ref h_t, .int x1, .int x2] (n := 5) (Nat.le_of_ble_eq_true rfl)
  rw [show entryFrame m args 5 = entryFrame m ([.ref h_t, .int x1, .int x2] : List Value).toArray 5 from by rw [hargs], lg_entry_eq]
  generalize (lg_sl [.ref h_t, .int x1, .int x2] ++ List.replicate (5 - (lg_sl [.ref h_t, .int x1, .int x2]).length) Slot.unset).toArray = ls at hl ⊢
  have hl : lv_has ls 5 [(0, .ref h_t), (1, .int x1), (2, .int x2)] := hl
  generalize hQQ : MQ below (va_Qv (fun (_ : Unit) => True) (fun (_ : Unit) (t : State) => va_P (dC, dI) vwCl [(h_t, .inr (3, [.ref h_t_signs, .ref h_t_letters, .int t_length, .int t_at, .int y_t_size, .int t_faultPlace, .int t_faultReason, .int t_lettersTold, .int t_repeatsTold, .int t_correctionsTold, .int t_mostCorrections, .int t_deepest, .int t_fresh])), (h_t_letters, .inl (cI, 744, .inl y_t_letters))] t.heap ∧ va_K (dC, dI) vwCl (tyA cI cJ cC cS) t ∧ va_D A [(h_t, .inr (3, [.ref h_t_signs, .ref h_t_letters, .int t_length, .int t_at, .int y_t_size, .int t_faultPlace, .int t_faultReason, .int t_lettersTold, .int t_repeatsTold, .int t_correctionsTold, .int t_mostCorrections, .int t_deepest, .int t_fresh])), (h_t_letters, .inl (cI, 744, .inl y_t_letters))]) A) args s 0 0 A = QQ
  obtain ⟨H, hH⟩ : ∃ H : Heap, H = s.heap := ⟨_, rfl⟩
  obtain ⟨locs, hlocs⟩ : ∃ locs : List Loc, locs = [] := ⟨_, rfl⟩
  rw [← hH] at hP
  have hS : va_S A s.heap H locs := by rw [hH, hlocs]; exact hS
  suffices hZ : W p l e (headSpec wsX4_unfold ({ frames := 1, cells := 0, slots := 0, locals := 22 } : Room)).room s m args below meth c H locs 0 0 QQ (F0 m 0 ls []) by rw [hH, hlocs] at hZ; exact hZ
  clear hH hlocs
  have hL10 : ∀ (n10 : Nat) , ∀ (x3 : Int32) (x4 : Int32) (t_size : Int32) (t_letters : Nat → Int32) (H : Heap) (locs : List Loc) (ls : Array Slot), fRd_unfold_10 x1 x2 n10 x3 x4 t_size t_letters = some (y_t_size, y_t_letters) → va_P (dC, dI) vwCl [(h_t, .inr (3, [.ref h_t_signs, .ref h_t_letters, .int t_length, .int t_at, .int t_size, .int t_faultPlace, .int t_faultReason, .int t_lettersTold, .int t_repeatsTold, .int t_correctionsTold, .int t_mostCorrections, .int t_deepest, .int t_fresh])), (h_t_letters, .inl (cI, 744, .inl t_letters))] H → va_D A [(h_t, .inr (3, [.ref h_t_signs, .ref h_t_letters, .int t_length, .int t_at, .int t_size, .int t_faultPlace, .int t_faultReason, .int t_lettersTold, .int t_repeatsTold, .int t_correctionsTold, .int t_mostCorrections, .int t_deepest, .int t_fresh])), (h_t_letters, .inl (cI, 744, .inl t_letters))] → va_S A s.heap H locs → lv_has ls 5 [(0, .ref h_t), (1, .int x1), (2, .int x2), (3, .int x3), (4, .int x4)] → W p l e (headSpec wsX4_unfold ({ frames := 1, cells := 0, slots := 0, locals := 22 } : Room)).room s m args below meth c H locs 0 0 QQ (F0 m 10 ls []) := by
    intro n10
    induction n10 with
    | zero =>
      intro x3 x4 t_size t_letters H locs ls hres
      rw [fRd_unfold_10] at hres
      cases hres
    | succ n10 ih10 =>
      intro x3 x4 t_size t_letters H locs ls hres hP hD hS hl
      rw [fRd_unfold_10] at hres
      refine lv_iload hx hb dX4_unfold_10 (lv_at hl 4 rfl) ?_
      refine lv_iload_n hx hb dX4_unfold_12 rfl (lv_at hl 2 rfl) ?_
      refine lv_icmp_ge (tgt := 40) hx hb dX4_unfold_13 (by decide) (fun c_1 => ?_) (fun c_1 => ?_)
      · have hres := it_of hres c_1
        refine lv_aload_n hx hb dX4_unfold_40 rfl (lv_at hl 0 rfl) ?_
        refine lv_iload_n hx hb dX4_unfold_41 rfl (lv_at hl 1 rfl) ?_
        refine lv_iload_n hx hb dX4_unfold_42 rfl (lv_at hl 2 rfl) ?_
        refine lv_iadd hx hb dX4_unfold_43 ?_
        refine va_put (D := (dC, dI)) (ci := 3) (v := .int (x1 + x2)) (ty := .int) (C := RX4) (T := TX4) (N := 13) hx hb hts iRd_unfold_X4_unfold_1 tyX4 tyX4_ok nmX4 hown hK hP hD hS 0 rfl rfl 4 (by decide) (hts _ kRd_unfold_X4_unfold_0) (fun _ h9 => h9) rfl (by decide +kernel) rfl rfl (Nat.le_of_ble_eq_true rfl) dX4_unfold_44 (fun H locs hP hD hS => ?_)
        have hP : va_P (dC, dI) vwCl [(h_t, .inr (3, [.ref h_t_signs, .ref h_t_letters, .int t_length, .int t_at, .int (x1 + x2), .int t_faultPlace, .int t_faultReason, .int t_lettersTold, .int t_repeatsTold, .int t_correctionsTold, .int t_mostCorrections, .int t_deepest, .int t_fresh])), (h_t_letters, .inl (cI, 744, .inl t_letters))] H := hP
        have hD : va_D A [(h_t, .inr (3, [.ref h_t_signs, .ref h_t_letters, .int t_length, .int t_at, .int (x1 + x2), .int t_faultPlace, .int t_faultReason, .int t_lettersTold, .int t_repeatsTold, .int t_correctionsTold, .int t_mostCorrections, .int t_deepest, .int t_fresh])), (h_t_letters, .inl (cI, 744, .inl t_letters))] := hD
        obtain ⟨e9_0, e9_1⟩ := tup2 hres
        subst e9_0
        subst e9_1
        rw [← hQQ]
        exact W.vret hx hb hr (fun t ht hW => ⟨⟨(), rfl, trivial, by rw [ht]; exact hP, va_K.moved hW.alike hK, hD⟩, hS.F ht⟩) hS.2.2 dX4_unfold_47
      · have hres := ie_of hres c_1
        refine lv_aload_n hx hb dX4_unfold_16 rfl (lv_at hl 0 rfl) ?_
        refine lv_iload_n hx hb dX4_unfold_17 rfl (lv_at hl 1 rfl) ?_
        refine lv_iload hx hb dX4_unfold_18 (lv_at hl 4 rfl) ?_
        refine lv_iadd hx hb dX4_unfold_20 ?_
        refine lv_aload_n hx hb dX4_unfold_21 rfl (lv_at hl 0 rfl) ?_
        refine lv_iload_n hx hb dX4_unfold_22 rfl (lv_at hl 1 rfl) ?_
        refine lv_iload hx hb dX4_unfold_23 (lv_at hl 4 rfl) ?_
        refine lv_iadd hx hb dX4_unfold_25 ?_
        refine lv_iload_n hx hb dX4_unfold_26 rfl (lv_at hl 3 rfl) ?_
        refine lv_isub hx hb dX4_unfold_27 ?_
        obtain ⟨o2, ho2, hres⟩ := bd_of hres
        have hPc := hP.sub (ws' := [(h_t, .inr (3, [.ref h_t_signs, .ref h_t_letters, .int t_length, .int t_at, .int t_size, .int t_faultPlace, .int t_faultReason, .int t_lettersTold, .int t_repeatsTold, .int t_correctionsTold, .int t_mostCorrections, .int t_deepest, .int t_fresh])), (h_t_letters, .inl (cI, 744, .inl t_letters))]) [0, 1] rfl
        have hDc := hD.sub (ws' := [(h_t, .inr (3, [.ref h_t_signs, .ref h_t_letters, .int t_length, .int t_at, .int t_size, .int t_faultPlace, .int t_faultReason, .int t_lettersTold, .int t_repeatsTold, .int t_correctionsTold, .int t_mostCorrections, .int t_deepest, .int t_fresh])), (h_t_letters, .inl (cI, 744, .inl t_letters))]) [0, 1] (by decide) rfl
        have hFc := va_free (wc := [(h_t, .inr (3, [.ref h_t_signs, .ref h_t_letters, .int t_length, .int t_at, .int t_size, .int t_faultPlace, .int t_faultReason, .int t_lettersTold, .int t_repeatsTold, .int t_correctionsTold, .int t_mostCorrections, .int t_deepest, .int t_fresh])), (h_t_letters, .inl (cI, 744, .inl t_letters))]) hD hS hA [0, 1] rfl
        refine va_calli (va_runV (As := [.int ((x1 + x4) - x3)]) (rest := [.int (x1 + x4), .ref h_t]) ⟨hx, hb, hml, hown, hts⟩ (cRd_letter l dC dI cI cJ cC cS h_t h_t_signs h_t_letters H.size t_length t_at t_size t_faultPlace t_faultReason t_lettersTold t_repeatsTold t_correctionsTold t_mostCorrections t_deepest t_fresh t_letters ((x1 + x4) - x3) o2 ho2) (cwV 1 hts gX4_unfold_X4_letter rfl rfl rfl (by decide +kernel) ⟨Nat.le_of_ble_eq_true rfl, Nat.le_of_ble_eq_true rfl⟩) ⟨fun a U g mk q => by obtain ⟨q0, q1, qP, qK, qN, qD⟩ := q; exact ⟨q0, q1, qP, va_K.moved (u := U) (U := U.calling g mk a) (Vm.Alike.refl U.vm) qK, nwS (u := U) (U := U.calling g mk a) rfl qN, qD⟩, va_recv hK hPc (ci := 3) (q0 := 0) rfl rfl, fun U hU hW => ⟨rfl, by rw [hU], by rw [hU]; exact hPc, va_K.moved hW.alike hK, nwW hW hN, hDc.weaken (fun _ _ _ _ => trivial)⟩⟩ rfl rfl hl.1 rfl (lv_room (Nat.le_of_ble_eq_true rfl)) dX4_unfold_28 ⟨Nat.zero_le _, Nat.zero_le _⟩) hS (fun q _ h => hFc q h) hFc (fun r9 u9 t H1 locs ht hvm hw hB hz1 hk1 hS => ?_)
        have hw := hw.symm
        subst hw
        obtain ⟨hP1, hK1, hD1⟩ := hB
        rw [ht] at hP1
        obtain ⟨hP, hD⟩ := va_join (wr := []) (w1 := [(h_t, .inr (3, [.ref h_t_signs, .ref h_t_letters, .int t_length, .int t_at, .int t_size, .int t_faultPlace, .int t_faultReason, .int t_lettersTold, .int t_repeatsTold, .int t_correctionsTold, .int t_mostCorrections, .int t_deepest, .int t_fresh])), (h_t_letters, .inl (cI, 744, .inl t_letters))]) hP hD [0, 1] [] rfl rfl (by decide) (by decide) hk1 hFc hP1 hD1
        generalize H1 = H at hP hS ⊢
        have hP : va_P (dC, dI) vwCl [(h_t, .inr (3, [.ref h_t_signs, .ref h_t_letters, .int t_length, .int t_at, .int t_size, .int t_faultPlace, .int t_faultReason, .int t_lettersTold, .int t_repeatsTold, .int t_correctionsTold, .int t_mostCorrections, .int t_deepest, .int t_fresh])), (h_t_letters, .inl (cI, 744, .inl t_letters))] H := hP
        have hD : va_D A [(h_t, .inr (3, [.ref h_t_signs, .ref h_t_letters, .int t_length, .int t_at, .int t_size, .int t_faultPlace, .int t_faultReason, .int t_lettersTold, .int t_repeatsTold, .int t_correctionsTold, .int t_mostCorrections, .int t_deepest, .int t_fresh])), (h_t_letters, .inl (cI, 744, .inl t_letters))] := hD
        obtain ⟨o3, ho3, hres⟩ := bd_of hres
        have hPc := hP.sub (ws' := [(h_t, .inr (3, [.ref h_t_signs, .ref h_t_letters, .int t_length, .int t_at, .int t_size, .int t_faultPlace, .int t_faultReason, .int t_lettersTold, .int t_repeatsTold, .int t_correctionsTold, .int t_mostCorrections, .int t_deepest, .int t_fresh])), (h_t_letters, .inl (cI, 744, .inl t_letters))]) [0, 1] rfl
        have hDc := hD.sub (ws' := [(h_t, .inr (3, [.ref h_t_signs, .ref h_t_letters, .int t_length, .int t_at, .int t_size, .int t_faultPlace, .int t_faultReason, .int t_lettersTold, .int t_repeatsTold, .int t_correctionsTold, .int t_mostCorrections, .int t_deepest, .int t_fresh])), (h_t_letters, .inl (cI, 744, .inl t_letters))]) [0, 1] (by decide) rfl
        have hFc := va_free (wc := [(h_t, .inr (3, [.ref h_t_signs, .ref h_t_letters, .int t_length, .int t_at, .int t_size, .int t_faultPlace, .int t_faultReason, .int t_lettersTold, .int t_repeatsTold, .int t_correctionsTold, .int t_mostCorrections, .int t_deepest, .int t_fresh])), (h_t_letters, .inl (cI, 744, .inl t_letters))]) hD hS hA [0, 1] rfl
        refine va_callv (va_runV (As := [.int (x1 + x4), .int o2]) (rest := []) ⟨hx, hb, hml, hown, hts⟩ (cRd_putLetter l dC dI cI cJ cC cS h_t h_t_signs h_t_letters H.size t_length t_at t_size t_faultPlace t_faultReason t_lettersTold t_repeatsTold t_correctionsTold t_mostCorrections t_deepest t_fresh t_letters (x1 + x4) o2 o3 ho3) (cwV 2 hts gX4_unfold_X4_putLetter rfl rfl rfl (by decide +kernel) ⟨Nat.le_of_ble_eq_true rfl, Nat.le_of_ble_eq_true rfl⟩) ⟨fun a U g mk q => by obtain ⟨q0, q1, qP, qK, qN, qD⟩ := q; exact ⟨q0, q1, qP, va_K.moved (u := U) (U := U.calling g mk a) (Vm.Alike.refl U.vm) qK, nwS (u := U) (U := U.calling g mk a) rfl qN, qD⟩, va_recv hK hPc (ci := 3) (q0 := 0) rfl rfl, fun U hU hW => ⟨rfl, by rw [hU], by rw [hU]; exact hPc, va_K.moved hW.alike hK, nwW hW hN, hDc.weaken (fun _ _ _ _ => trivial)⟩⟩ rfl rfl hl.1 rfl (lv_room (Nat.le_of_ble_eq_true rfl)) dX4_unfold_31 ⟨Nat.zero_le _, Nat.zero_le _⟩) hS (fun q _ h => hFc q h) hFc (fun u9 t H1 locs ht hvm hw hB hz1 hk1 hS => ?_)
        obtain ⟨hP1, hK1, hD1⟩ := hB
        rw [ht] at hP1
        obtain ⟨hP, hD⟩ := va_join (wr := []) (w1 := [(h_t, .inr (3, [.ref h_t_signs, .ref h_t_letters, .int t_length, .int t_at, .int t_size, .int t_faultPlace, .int t_faultReason, .int t_lettersTold, .int t_repeatsTold, .int t_correctionsTold, .int t_mostCorrections, .int t_deepest, .int t_fresh])), (h_t_letters, .inl (cI, 744, .inl o3))]) hP hD [0, 1] [] rfl rfl (by decide) (by decide) hk1 hFc hP1 hD1
        generalize H1 = H at hP hS ⊢
        have hP : va_P (dC, dI) vwCl [(h_t, .inr (3, [.ref h_t_signs, .ref h_t_letters, .int t_length, .int t_at, .int t_size, .int t_faultPlace, .int t_faultReason, .int t_lettersTold, .int t_repeatsTold, .int t_correctionsTold, .int t_mostCorrections, .int t_deepest, .int t_fresh])), (h_t_letters, .inl (cI, 744, .inl o3))] H := hP
        have hD : va_D A [(h_t, .inr (3, [.ref h_t_signs, .ref h_t_letters, .int t_length, .int t_at, .int t_size, .int t_faultPlace, .int t_faultReason, .int t_lettersTold, .int t_repeatsTold, .int t_correctionsTold, .int t_mostCorrections, .int t_deepest, .int t_fresh])), (h_t_letters, .inl (cI, 744, .inl o3))] := hD
        refine lv_iinc (v := (x4 + 1)) (lv' := [(4, .int (x4 + 1)), (0, .ref h_t), (1, .int x1), (2, .int x2), (3, .int x3)]) hx hb dX4_unfold_34 hl (k := 4) rfl rfl (by decide) rfl (fun ls hl => ?_)
        refine lv_goto (tgt := 10) hx hb dX4_unfold_37 (by decide) ?_
        exact ih10 x3 (x4 + 1) t_size o3 H locs ls hres hP hD hS (lv_sub hl [1, 2, 3, 4, 0] rfl)
  rw [fRd_unfold] at hres
  refine lv_aload_n hx hb dX4_unfold_0 rfl (lv_at hl 0 rfl) ?_
  refine va_get (D := (dC, dI)) (ci := 3) (v := .int t_size) (C := RX4) (T := TX4) (N := 13) hx hb hts iRd_unfold_X4_unfold_1 hown hK hP 0 rfl rfl 4 (by decide) (hts _ kRd_unfold_X4_unfold_0) (fun _ h9 => h9) rfl dX4_unfold_1 ?_
  refine lv_iload_n hx hb dX4_unfold_4 rfl (lv_at hl 1 rfl) ?_
  refine lv_isub hx hb dX4_unfold_5 ?_
  refine lv_istore_n (lv' := [(3, .int (t_size - x1)), (0, .ref h_t), (1, .int x1), (2, .int x2)]) hx hb dX4_unfold_6 rfl hl (by decide) rfl (fun ls hl => ?_)
  refine lv_iload_n hx hb dX4_unfold_7 rfl (lv_at hl 0 rfl) ?_
  refine lv_istore (lv' := [(4, .int (t_size - x1)), (3, .int (t_size - x1)), (0, .ref h_t), (1, .int x1), (2, .int x2)]) hx hb dX4_unfold_8 hl (by decide) rfl (fun ls hl => ?_)
  exact hL10 FU (t_size - x1) (t_size - x1) t_size t_letters H locs ls hres hP hD hS (lv_sub hl [2, 3, 4, 1, 0] rfl)

-- Rd_readRepeat
theorem kRd_readRepeat_X4_readRepeat_0 : Cond.fieldLink RX4 22 "RepeatNests$Reader" "at" "I" ∈ wsX4_readRepeat := by decide +kernel
theorem iRd_readRepeat_X4_readRepeat_1 : ∀ w ∈ wsX40, w ∈ wsX4_readRepeat := by decide +kernel
theorem kRd_readRepeat_X4_readRepeat_2 : Cond.fieldLink RX4 25 "RepeatNests$Reader" "size" "I" ∈ wsX4_readRepeat := by decide +kernel
theorem kRd_readRepeat_X4_readRepeat_3 : Cond.fieldLink RX4 37 "RepeatNests$Reader" "repeatsTold" "I" ∈ wsX4_readRepeat := by decide +kernel
set_option maxHeartbeats 4000000 in
set_option maxRecDepth 100000 in
theorem cRd_readRepeat (l : Launch) (F L : Nat) (gRd_readItems : Int32 → Int32 → Int32 → Int32 → Int32 → Int32 → Int32 → Int32 → Int32 → Int32 → Int32 → (Nat → Int32) → (Nat → Int32) → Int32 → Option (Int32 × Int32 × Int32 × Int32 × Int32 × Int32 × Int32 × Int32 × Int32 × (Nat → Int32))) (hgRd_readItems : ∀ (dC : Nat → ClassId) (dI : Nat → Nat → Nat) (cI cJ cC cS : ClassId) (h_t h_t_signs h_t_letters : Nat) (sz : Nat) (t_length : Int32) (t_at : Int32) (t_size : Int32) (t_faultPlace : Int32) (t_faultReason : Int32) (t_lettersTold : Int32) (t_repeatsTold : Int32) (t_correctionsTold : Int32) (t_mostCorrections : Int32) (t_deepest : Int32) (t_fresh : Int32) (t_letters : Nat → Int32) (t_signs : Nat → Int32) (x1 : Int32) (r : Int32) (y_t_at : Int32) (y_t_size : Int32) (y_t_faultPlace : Int32) (y_t_faultReason : Int32) (y_t_lettersTold : Int32) (y_t_repeatsTold : Int32) (y_t_correctionsTold : Int32) (y_t_mostCorrections : Int32) (y_t_letters : Nat → Int32) (hres : gRd_readItems t_length t_at t_size t_faultPlace t_faultReason t_lettersTold t_repeatsTold t_correctionsTold t_mostCorrections t_deepest t_fresh t_letters t_signs x1 = some (r, y_t_at, y_t_size, y_t_faultPlace, y_t_faultReason, y_t_lettersTold, y_t_repeatsTold, y_t_correctionsTold, y_t_mostCorrections, y_t_letters)), Met l yX4_readItems wsX4_readItems ({ frames := F, cells := 0, slots := 0, locals := L } : Room) (va_Pc [.ref h_t, .int x1] (fun (U : State) => U.heap.size = sz ∧ va_P (dC, dI) vwCl [(h_t, .inr (3, [.ref h_t_signs, .ref h_t_letters, .int t_length, .int t_at, .int t_size, .int t_faultPlace, .int t_faultReason, .int t_lettersTold, .int t_repeatsTold, .int t_correctionsTold, .int t_mostCorrections, .int t_deepest, .int t_fresh])), (h_t_letters, .inl (cI, 744, .inl t_letters)), (h_t_signs, .inl (cI, 60, .inl t_signs))] U.heap ∧ va_K (dC, dI) vwCl (tyA cI cJ cC cS) U ∧ nwN U ∧ va_D (fun _ => True) [(h_t, .inr (3, [.ref h_t_signs, .ref h_t_letters, .int t_length, .int t_at, .int t_size, .int t_faultPlace, .int t_faultReason, .int t_lettersTold, .int t_repeatsTold, .int t_correctionsTold, .int t_mostCorrections, .int t_deepest, .int t_fresh])), (h_t_letters, .inl (cI, 744, .inl t_letters)), (h_t_signs, .inl (cI, 60, .inl t_signs))])) (va_Qi (fun (r9 : Int32) (_ : Unit) => r9 = r) (fun (_ : Unit) (t : State) => va_P (dC, dI) vwCl [(h_t, .inr (3, [.ref h_t_signs, .ref h_t_letters, .int t_length, .int y_t_at, .int y_t_size, .int y_t_faultPlace, .int y_t_faultReason, .int y_t_lettersTold, .int y_t_repeatsTold, .int y_t_correctionsTold, .int y_t_mostCorrections, .int t_deepest, .int t_fresh])), (h_t_letters, .inl (cI, 744, .inl y_t_letters)), (h_t_signs, .inl (cI, 60, .inl t_signs))] t.heap ∧ va_K (dC, dI) vwCl (tyA cI cJ cC cS) t ∧ va_D (va_A [(h_t, .inr (3, [.ref h_t_signs, .ref h_t_letters, .int t_length, .int t_at, .int t_size, .int t_faultPlace, .int t_faultReason, .int t_lettersTold, .int t_repeatsTold, .int t_correctionsTold, .int t_mostCorrections, .int t_deepest, .int t_fresh])), (h_t_letters, .inl (cI, 744, .inl t_letters)), (h_t_signs, .inl (cI, 60, .inl t_signs))] sz) [(h_t, .inr (3, [.ref h_t_signs, .ref h_t_letters, .int t_length, .int y_t_at, .int y_t_size, .int y_t_faultPlace, .int y_t_faultReason, .int y_t_lettersTold, .int y_t_repeatsTold, .int y_t_correctionsTold, .int y_t_mostCorrections, .int t_deepest, .int t_fresh])), (h_t_letters, .inl (cI, 744, .inl y_t_letters)), (h_t_signs, .inl (cI, 60, .inl t_signs))]) (va_A [(h_t, .inr (3, [.ref h_t_signs, .ref h_t_letters, .int t_length, .int t_at, .int t_size, .int t_faultPlace, .int t_faultReason, .int t_lettersTold, .int t_repeatsTold, .int t_correctionsTold, .int t_mostCorrections, .int t_deepest, .int t_fresh])), (h_t_letters, .inl (cI, 744, .inl t_letters)), (h_t_signs, .inl (cI, 60, .inl t_signs))] sz)) 0 0 (va_A [(h_t, .inr (3, [.ref h_t_signs, .ref h_t_letters, .int t_length, .int t_at, .int t_size, .int t_faultPlace, .int t_faultReason, .int t_lettersTold, .int t_repeatsTold, .int t_correctionsTold, .int t_mostCorrections, .int t_deepest, .int t_fresh])), (h_t_letters, .inl (cI, 744, .inl t_letters)), (h_t_signs, .inl (cI, 60, .inl t_signs))] sz))  (dC : Nat → ClassId) (dI : Nat → Nat → Nat) (cI cJ cC cS : ClassId) (h_t h_t_signs h_t_letters : Nat) (sz : Nat) (t_length : Int32) (t_at : Int32) (t_size : Int32) (t_faultPlace : Int32) (t_faultReason : Int32) (t_lettersTold : Int32) (t_repeatsTold : Int32) (t_correctionsTold : Int32) (t_mostCorrections : Int32) (t_deepest : Int32) (t_fresh : Int32) (t_letters : Nat → Int32) (t_signs : Nat → Int32) (x1 : Int32) (x2 : Int32) (r : Int32) (y_t_at : Int32) (y_t_size : Int32) (y_t_faultPlace : Int32) (y_t_faultReason : Int32) (y_t_lettersTold : Int32) (y_t_repeatsTold : Int32) (y_t_correctionsTold : Int32) (y_t_mostCorrections : Int32) (y_t_letters : Nat → Int32) (hres : fRd_readRepeat gRd_readItems t_length t_at t_size t_faultPlace t_faultReason t_lettersTold t_repeatsTold t_correctionsTold t_mostCorrections t_deepest t_fresh t_letters t_signs x1 x2 = some (r, y_t_at, y_t_size, y_t_faultPlace, y_t_faultReason, y_t_lettersTold, y_t_repeatsTold, y_t_correctionsTold, y_t_mostCorrections, y_t_letters)) :
    Met l yX4_readRepeat wsX4_readRepeat ({ frames := F + 6, cells := 0, slots := 0, locals := L + 132 } : Room) (va_Pc [.ref h_t, .int x1, .int x2] (fun (U : State) => U.heap.size = sz ∧ va_P (dC, dI) vwCl [(h_t, .inr (3, [.ref h_t_signs, .ref h_t_letters, .int t_length, .int t_at, .int t_size, .int t_faultPlace, .int t_faultReason, .int t_lettersTold, .int t_repeatsTold, .int t_correctionsTold, .int t_mostCorrections, .int t_deepest, .int t_fresh])), (h_t_letters, .inl (cI, 744, .inl t_letters)), (h_t_signs, .inl (cI, 60, .inl t_signs))] U.heap ∧ va_K (dC, dI) vwCl (tyA cI cJ cC cS) U ∧ nwN U ∧ va_D (fun _ => True) [(h_t, .inr (3, [.ref h_t_signs, .ref h_t_letters, .int t_length, .int t_at, .int t_size, .int t_faultPlace, .int t_faultReason, .int t_lettersTold, .int t_repeatsTold, .int t_correctionsTold, .int t_mostCorrections, .int t_deepest, .int t_fresh])), (h_t_letters, .inl (cI, 744, .inl t_letters)), (h_t_signs, .inl (cI, 60, .inl t_signs))])) (va_Qi (fun (r9 : Int32) (_ : Unit) => r9 = r) (fun (_ : Unit) (t : State) => va_P (dC, dI) vwCl [(h_t, .inr (3, [.ref h_t_signs, .ref h_t_letters, .int t_length, .int y_t_at, .int y_t_size, .int y_t_faultPlace, .int y_t_faultReason, .int y_t_lettersTold, .int y_t_repeatsTold, .int y_t_correctionsTold, .int y_t_mostCorrections, .int t_deepest, .int t_fresh])), (h_t_letters, .inl (cI, 744, .inl y_t_letters)), (h_t_signs, .inl (cI, 60, .inl t_signs))] t.heap ∧ va_K (dC, dI) vwCl (tyA cI cJ cC cS) t ∧ va_D (va_A [(h_t, .inr (3, [.ref h_t_signs, .ref h_t_letters, .int t_length, .int t_at, .int t_size, .int t_faultPlace, .int t_faultReason, .int t_lettersTold, .int t_repeatsTold, .int t_correctionsTold, .int t_mostCorrections, .int t_deepest, .int t_fresh])), (h_t_letters, .inl (cI, 744, .inl t_letters)), (h_t_signs, .inl (cI, 60, .inl t_signs))] sz) [(h_t, .inr (3, [.ref h_t_signs, .ref h_t_letters, .int t_length, .int y_t_at, .int y_t_size, .int y_t_faultPlace, .int y_t_faultReason, .int y_t_lettersTold, .int y_t_repeatsTold, .int y_t_correctionsTold, .int y_t_mostCorrections, .int t_deepest, .int t_fresh])), (h_t_letters, .inl (cI, 744, .inl y_t_letters)), (h_t_signs, .inl (cI, 60, .inl t_signs))]) (va_A [(h_t, .inr (3, [.ref h_t_signs, .ref h_t_letters, .int t_length, .int t_at, .int t_size, .int t_faultPlace, .int t_faultReason, .int t_lettersTold, .int t_repeatsTold, .int t_correctionsTold, .int t_mostCorrections, .int t_deepest, .int t_fresh])), (h_t_letters, .inl (cI, 744, .inl t_letters)), (h_t_signs, .inl (cI, 60, .inl t_signs))] sz)) 0 0 (va_A [(h_t, .inr (3, [.ref h_t_signs, .ref h_t_letters, .int t_length, .int t_at, .int t_size, .int t_faultPlace, .int t_faultReason, .int t_lettersTold, .int t_repeatsTold, .int t_correctionsTold, .int t_mostCorrections, .int t_deepest, .int t_fresh])), (h_t_letters, .inl (cI, 744, .inl t_letters)), (h_t_signs, .inl (cI, 60, .inl t_signs))] sz) := by
  refine Met.ofW (cc := cX4_readRepeat) (maxL := 8) (ret := (some .int)) (by decide) rfl ?_
  intro p e s m args below meth c s₁ B hml hv
  obtain ⟨hargs, hsz, hP, hK, hN, hD0⟩ := hv
  have hx := B.exec
  have hb := B.bytes
  have hr := B.returns
  have hts := atoms_spec (ws := wsX4_readRepeat) B.pre
  have hown : s.vm.findClass RX4 = some m.cls := findClass_of_methodNamed B.named
  have hlocks := B.notSynchronized
  subst hsz
  have hD := hD0.self (sz := s.heap.size)
  generalize hAe : va_A [(h_t, .inr (3, [.ref h_t_signs, .ref h_t_letters, .int t_length, .int t_at, .int t_size, .int t_faultPlace, .int t_faultReason, .int t_lettersTold, .int t_repeatsTold, .int t_correctionsTold, .int t_mostCorrections, .int t_deepest, .int t_fresh])), (h_t_letters, .inl (cI, 744, .inl t_letters)), (h_t_signs, .inl (cI, 60, .inl t_signs))] s.heap.size = A at hD ⊢
  have hA : ∀ q : Nat, s.heap.size ≤ q → A q := fun q h => by rw [← hAe]; exact Or.inr h
  have hS : va_S A s.heap s.heap [] := va_S.rf
  have hP : va_P (dC, dI) vwCl [(h_t, .inr (3, [.ref h_t_signs, .ref h_t_letters, .int t_length, .int t_at, .int t_size, .int t_faultPlace, .int t_faultReason, .int t_lettersTold, .int t_repeatsTold, .int t_correctionsTold, .int t_mostCorrections, .int t_deepest, .int t_fresh])), (h_t_letters, .inl (cI, 744, .inl t_letters)), (h_t_signs, .inl (cI, 60, .inl t_signs))] s.heap := hP
  have hl := lv_entry [.ref h_t, .int x1, .int x2] (n := 8) (Nat.le_of_ble_eq_true rfl)
  rw [show entryFrame m args 8 = entryFrame m ([.ref h_t, .int x1, .int x2] : List Value).toArray 8 from by rw [hargs], lg_entry_eq]
  generalize (lg_sl [.ref h_t, .int x1, .int x2] ++ List.replicate (8 - (lg_sl [.ref h_t, .int x1, .int x2]).length) Slot.unset).toArray = ls at hl ⊢
  have hl : lv_has ls 8 [(0, .ref h_t), (1, .int x1), (2, .int x2)] := hl
  generalize hQQ : MQ below (va_Qi (fun (r9 : Int32) (_ : Unit) => r9 = r) (fun (_ : Unit) (t : State) => va_P (dC, dI) vwCl [(h_t, .inr (3, [.ref h_t_signs, .ref h_t_letters, .int t_length, .int y_t_at, .int y_t_size, .int y_t_faultPlace, .int y_t_faultReason, .int y_t_lettersTold, .int y_t_repeatsTold, .int y_t_correctionsTold, .int y_t_mostCorrections, .int t_deepest, .int t_fresh])), (h_t_letters, .inl (cI, 744, .inl y_t_letters)), (h_t_signs, .inl (cI, 60, .inl t_signs))] t.heap ∧ va_K (dC, dI) vwCl (tyA cI cJ cC cS) t ∧ va_D A [(h_t, .inr (3, [.ref h_t_signs, .ref h_t_letters, .int t_length, .int y_t_at, .int y_t_size, .int y_t_faultPlace, .int y_t_faultReason, .int y_t_lettersTold, .int y_t_repeatsTold, .int y_t_correctionsTold, .int y_t_mostCorrections, .int t_deepest, .int t_fresh])), (h_t_letters, .inl (cI, 744, .inl y_t_letters)), (h_t_signs, .inl (cI, 60, .inl t_signs))]) A) args s 0 0 A = QQ
  obtain ⟨H, hH⟩ : ∃ H : Heap, H = s.heap := ⟨_, rfl⟩
  obtain ⟨locs, hlocs⟩ : ∃ locs : List Loc, locs = [] := ⟨_, rfl⟩
  rw [← hH] at hP
  have hS : va_S A s.heap H locs := by rw [hH, hlocs]; exact hS
  suffices hZ : W p l e (headSpec wsX4_readRepeat ({ frames := F + 6, cells := 0, slots := 0, locals := L + 132 } : Room)).room s m args below meth c H locs 0 0 QQ (F0 m 0 ls []) by rw [hH, hlocs] at hZ; exact hZ
  clear hH hlocs
  have hK24 : ∀ (t_at : Int32) (t_size : Int32) (t_faultPlace : Int32) (t_faultReason : Int32) (t_lettersTold : Int32) (t_repeatsTold : Int32) (t_correctionsTold : Int32) (t_mostCorrections : Int32) (t_letters : Nat → Int32) (H : Heap) (locs : List Loc) (ls : Array Slot), fRd_readRepeat_24 t_at t_size t_faultPlace t_faultReason t_lettersTold t_repeatsTold t_correctionsTold t_mostCorrections t_letters = some (r, y_t_at, y_t_size, y_t_faultPlace, y_t_faultReason, y_t_lettersTold, y_t_repeatsTold, y_t_correctionsTold, y_t_mostCorrections, y_t_letters) → va_P (dC, dI) vwCl [(h_t, .inr (3, [.ref h_t_signs, .ref h_t_letters, .int t_length, .int t_at, .int t_size, .int t_faultPlace, .int t_faultReason, .int t_lettersTold, .int t_repeatsTold, .int t_correctionsTold, .int t_mostCorrections, .int t_deepest, .int t_fresh])), (h_t_letters, .inl (cI, 744, .inl t_letters)), (h_t_signs, .inl (cI, 60, .inl t_signs))] H → va_D A [(h_t, .inr (3, [.ref h_t_signs, .ref h_t_letters, .int t_length, .int t_at, .int t_size, .int t_faultPlace, .int t_faultReason, .int t_lettersTold, .int t_repeatsTold, .int t_correctionsTold, .int t_mostCorrections, .int t_deepest, .int t_fresh])), (h_t_letters, .inl (cI, 744, .inl t_letters)), (h_t_signs, .inl (cI, 60, .inl t_signs))] → va_S A s.heap H locs → lv_has ls 8 [(0, .ref h_t)] → W p l e (headSpec wsX4_readRepeat ({ frames := F + 6, cells := 0, slots := 0, locals := L + 132 } : Room)).room s m args below meth c H locs 0 0 QQ (F0 m 24 ls []) := by
    intro t_at t_size t_faultPlace t_faultReason t_lettersTold t_repeatsTold t_correctionsTold t_mostCorrections t_letters H locs ls hres hP hD hS hl
    rw [fRd_readRepeat_24] at hres
    refine lv_aload_n hx hb dX4_readRepeat_24 rfl (lv_at hl 0 rfl) ?_
    refine lv_aload_n hx hb dX4_readRepeat_25 rfl (lv_at hl 0 rfl) ?_
    refine va_get (D := (dC, dI)) (ci := 3) (v := .int t_at) (C := RX4) (T := TX4) (N := 13) hx hb hts iRd_readRepeat_X4_readRepeat_1 hown hK hP 0 rfl rfl 3 (by decide) (hts _ kRd_readRepeat_X4_readRepeat_0) (fun _ h9 => h9) rfl dX4_readRepeat_26 ?_
    refine lv_iconst (v := (1 : Int32)) hx hb dX4_readRepeat_29 (by decide) ?_
    obtain ⟨o1, ho1, hres⟩ := bd_of hres
    have hPc := hP.sub (ws' := [(h_t, .inr (3, [.ref h_t_signs, .ref h_t_letters, .int t_length, .int t_at, .int t_size, .int t_faultPlace, .int t_faultReason, .int t_lettersTold, .int t_repeatsTold, .int t_correctionsTold, .int t_mostCorrections, .int t_deepest, .int t_fresh]))]) [0] rfl
    have hDc := hD.sub (ws' := [(h_t, .inr (3, [.ref h_t_signs, .ref h_t_letters, .int t_length, .int t_at, .int t_size, .int t_faultPlace, .int t_faultReason, .int t_lettersTold, .int t_repeatsTold, .int t_correctionsTold, .int t_mostCorrections, .int t_deepest, .int t_fresh]))]) [0] (by decide) rfl
    have hFc := va_free (wc := [(h_t, .inr (3, [.ref h_t_signs, .ref h_t_letters, .int t_length, .int t_at, .int t_size, .int t_faultPlace, .int t_faultReason, .int t_lettersTold, .int t_repeatsTold, .int t_correctionsTold, .int t_mostCorrections, .int t_deepest, .int t_fresh]))]) hD hS hA [0] rfl
    refine va_callv (va_runV (As := [.int t_at, .int (1 : Int32)]) (rest := []) ⟨hx, hb, hml, hown, hts⟩ (cRd_blame l dC dI cI cJ cC cS h_t h_t_signs h_t_letters H.size t_length t_at t_size t_faultPlace t_faultReason t_lettersTold t_repeatsTold t_correctionsTold t_mostCorrections t_deepest t_fresh t_at (1 : Int32) o1.1 o1.2 ho1) (cwV 2 hts gX4_readRepeat_X4_blame rfl rfl rfl (by decide +kernel) ⟨by show 0 + 1 ≤ F + 6; omega, by show 8 + (3 + 11) + 0 ≤ L + 132; omega⟩) ⟨fun a U g mk q => by obtain ⟨q0, q1, qP, qK, qN, qD⟩ := q; exact ⟨q0, q1, qP, va_K.moved (u := U) (U := U.calling g mk a) (Vm.Alike.refl U.vm) qK, nwS (u := U) (U := U.calling g mk a) rfl qN, qD⟩, va_recv hK hPc (ci := 3) (q0 := 0) rfl rfl, fun U hU hW => ⟨rfl, by rw [hU], by rw [hU]; exact hPc, va_K.moved hW.alike hK, nwW hW hN, hDc.weaken (fun _ _ _ _ => trivial)⟩⟩ rfl rfl hl.1 rfl (lv_room (Nat.le_of_ble_eq_true rfl)) dX4_readRepeat_30 ⟨Nat.zero_le _, Nat.zero_le _⟩) hS (fun q _ h => hFc q h) hFc (fun u9 t H1 locs ht hvm hw hB hz1 hk1 hS => ?_)
    obtain ⟨hP1, hK1, hD1⟩ := hB
    rw [ht] at hP1
    obtain ⟨hP, hD⟩ := va_join (wr := [(h_t_letters, .inl (cI, 744, .inl t_letters)), (h_t_signs, .inl (cI, 60, .inl t_signs))]) (w1 := [(h_t, .inr (3, [.ref h_t_signs, .ref h_t_letters, .int t_length, .int t_at, .int t_size, .int o1.1, .int o1.2, .int t_lettersTold, .int t_repeatsTold, .int t_correctionsTold, .int t_mostCorrections, .int t_deepest, .int t_fresh]))]) hP hD [0] [1, 2] rfl rfl (by decide) (by decide) hk1 hFc hP1 hD1
    generalize H1 = H at hP hS ⊢
    have hP : va_P (dC, dI) vwCl [(h_t_letters, .inl (cI, 744, .inl t_letters)), (h_t_signs, .inl (cI, 60, .inl t_signs)), (h_t, .inr (3, [.ref h_t_signs, .ref h_t_letters, .int t_length, .int t_at, .int t_size, .int o1.1, .int o1.2, .int t_lettersTold, .int t_repeatsTold, .int t_correctionsTold, .int t_mostCorrections, .int t_deepest, .int t_fresh]))] H := hP
    have hD : va_D A [(h_t_letters, .inl (cI, 744, .inl t_letters)), (h_t_signs, .inl (cI, 60, .inl t_signs)), (h_t, .inr (3, [.ref h_t_signs, .ref h_t_letters, .int t_length, .int t_at, .int t_size, .int o1.1, .int o1.2, .int t_lettersTold, .int t_repeatsTold, .int t_correctionsTold, .int t_mostCorrections, .int t_deepest, .int t_fresh]))] := hD
    refine lv_iconst (v := (0 : Int32)) hx hb dX4_readRepeat_33 (by decide) ?_
    obtain ⟨e9_0, e9_1, e9_2, e9_3, e9_4, e9_5, e9_6, e9_7, e9_8, e9_9⟩ := tup10 hres
    subst e9_0
    subst e9_1
    subst e9_2
    subst e9_3
    subst e9_4
    subst e9_5
    subst e9_6
    subst e9_7
    subst e9_8
    subst e9_9
    rw [← hQQ]
    exact W.iret (v := (0 : Int32)) hx hb hr (fun t ht hW => ⟨⟨(0 : Int32), (), rfl, rfl, by rw [ht]; exact hP.sub [2, 0, 1] rfl, va_K.moved hW.alike hK, hD.sub [2, 0, 1] (by decide) rfl⟩, hS.F ht⟩) hS.2.2 dX4_readRepeat_34
  have hK65 : ∀ (x3 : Int32) (t_at : Int32) (t_size : Int32) (t_faultPlace : Int32) (t_faultReason : Int32) (t_lettersTold : Int32) (t_repeatsTold : Int32) (t_correctionsTold : Int32) (t_mostCorrections : Int32) (t_letters : Nat → Int32) (H : Heap) (locs : List Loc) (ls : Array Slot), fRd_readRepeat_65 x3 t_at t_size t_faultPlace t_faultReason t_lettersTold t_repeatsTold t_correctionsTold t_mostCorrections t_letters = some (r, y_t_at, y_t_size, y_t_faultPlace, y_t_faultReason, y_t_lettersTold, y_t_repeatsTold, y_t_correctionsTold, y_t_mostCorrections, y_t_letters) → va_P (dC, dI) vwCl [(h_t, .inr (3, [.ref h_t_signs, .ref h_t_letters, .int t_length, .int t_at, .int t_size, .int t_faultPlace, .int t_faultReason, .int t_lettersTold, .int t_repeatsTold, .int t_correctionsTold, .int t_mostCorrections, .int t_deepest, .int t_fresh])), (h_t_letters, .inl (cI, 744, .inl t_letters)), (h_t_signs, .inl (cI, 60, .inl t_signs))] H → va_D A [(h_t, .inr (3, [.ref h_t_signs, .ref h_t_letters, .int t_length, .int t_at, .int t_size, .int t_faultPlace, .int t_faultReason, .int t_lettersTold, .int t_repeatsTold, .int t_correctionsTold, .int t_mostCorrections, .int t_deepest, .int t_fresh])), (h_t_letters, .inl (cI, 744, .inl t_letters)), (h_t_signs, .inl (cI, 60, .inl t_signs))] → va_S A s.heap H locs → lv_has ls 8 [(0, .ref h_t), (3, .int x3)] → W p l e (headSpec wsX4_readRepeat ({ frames := F + 6, cells := 0, slots := 0, locals := L + 132 } : Room)).room s m args below meth c H locs 0 0 QQ (F0 m 65 ls []) := by
    intro x3 t_at t_size t_faultPlace t_faultReason t_lettersTold t_repeatsTold t_correctionsTold t_mostCorrections t_letters H locs ls hres hP hD hS hl
    rw [fRd_readRepeat_65] at hres
    refine lv_aload_n hx hb dX4_readRepeat_65 rfl (lv_at hl 0 rfl) ?_
    refine lv_iload_n hx hb dX4_readRepeat_66 rfl (lv_at hl 1 rfl) ?_
    refine lv_iconst (v := (2 : Int32)) hx hb dX4_readRepeat_67 (by decide) ?_
    obtain ⟨o2, ho2, hres⟩ := bd_of hres
    have hPc := hP.sub (ws' := [(h_t, .inr (3, [.ref h_t_signs, .ref h_t_letters, .int t_length, .int t_at, .int t_size, .int t_faultPlace, .int t_faultReason, .int t_lettersTold, .int t_repeatsTold, .int t_correctionsTold, .int t_mostCorrections, .int t_deepest, .int t_fresh]))]) [0] rfl
    have hDc := hD.sub (ws' := [(h_t, .inr (3, [.ref h_t_signs, .ref h_t_letters, .int t_length, .int t_at, .int t_size, .int t_faultPlace, .int t_faultReason, .int t_lettersTold, .int t_repeatsTold, .int t_correctionsTold, .int t_mostCorrections, .int t_deepest, .int t_fresh]))]) [0] (by decide) rfl
    have hFc := va_free (wc := [(h_t, .inr (3, [.ref h_t_signs, .ref h_t_letters, .int t_length, .int t_at, .int t_size, .int t_faultPlace, .int t_faultReason, .int t_lettersTold, .int t_repeatsTold, .int t_correctionsTold, .int t_mostCorrections, .int t_deepest, .int t_fresh]))]) hD hS hA [0] rfl
    refine va_callv (va_runV (As := [.int x3, .int (2 : Int32)]) (rest := []) ⟨hx, hb, hml, hown, hts⟩ (cRd_blame l dC dI cI cJ cC cS h_t h_t_signs h_t_letters H.size t_length t_at t_size t_faultPlace t_faultReason t_lettersTold t_repeatsTold t_correctionsTold t_mostCorrections t_deepest t_fresh x3 (2 : Int32) o2.1 o2.2 ho2) (cwV 2 hts gX4_readRepeat_X4_blame rfl rfl rfl (by decide +kernel) ⟨by show 0 + 1 ≤ F + 6; omega, by show 8 + (3 + 11) + 0 ≤ L + 132; omega⟩) ⟨fun a U g mk q => by obtain ⟨q0, q1, qP, qK, qN, qD⟩ := q; exact ⟨q0, q1, qP, va_K.moved (u := U) (U := U.calling g mk a) (Vm.Alike.refl U.vm) qK, nwS (u := U) (U := U.calling g mk a) rfl qN, qD⟩, va_recv hK hPc (ci := 3) (q0 := 0) rfl rfl, fun U hU hW => ⟨rfl, by rw [hU], by rw [hU]; exact hPc, va_K.moved hW.alike hK, nwW hW hN, hDc.weaken (fun _ _ _ _ => trivial)⟩⟩ rfl rfl hl.1 rfl (lv_room (Nat.le_of_ble_eq_true rfl)) dX4_readRepeat_68 ⟨Nat.zero_le _, Nat.zero_le _⟩) hS (fun q _ h => hFc q h) hFc (fun u9 t H1 locs ht hvm hw hB hz1 hk1 hS => ?_)
    obtain ⟨hP1, hK1, hD1⟩ := hB
    rw [ht] at hP1
    obtain ⟨hP, hD⟩ := va_join (wr := [(h_t_letters, .inl (cI, 744, .inl t_letters)), (h_t_signs, .inl (cI, 60, .inl t_signs))]) (w1 := [(h_t, .inr (3, [.ref h_t_signs, .ref h_t_letters, .int t_length, .int t_at, .int t_size, .int o2.1, .int o2.2, .int t_lettersTold, .int t_repeatsTold, .int t_correctionsTold, .int t_mostCorrections, .int t_deepest, .int t_fresh]))]) hP hD [0] [1, 2] rfl rfl (by decide) (by decide) hk1 hFc hP1 hD1
    generalize H1 = H at hP hS ⊢
    have hP : va_P (dC, dI) vwCl [(h_t_letters, .inl (cI, 744, .inl t_letters)), (h_t_signs, .inl (cI, 60, .inl t_signs)), (h_t, .inr (3, [.ref h_t_signs, .ref h_t_letters, .int t_length, .int t_at, .int t_size, .int o2.1, .int o2.2, .int t_lettersTold, .int t_repeatsTold, .int t_correctionsTold, .int t_mostCorrections, .int t_deepest, .int t_fresh]))] H := hP
    have hD : va_D A [(h_t_letters, .inl (cI, 744, .inl t_letters)), (h_t_signs, .inl (cI, 60, .inl t_signs)), (h_t, .inr (3, [.ref h_t_signs, .ref h_t_letters, .int t_length, .int t_at, .int t_size, .int o2.1, .int o2.2, .int t_lettersTold, .int t_repeatsTold, .int t_correctionsTold, .int t_mostCorrections, .int t_deepest, .int t_fresh]))] := hD
    refine lv_iconst (v := (0 : Int32)) hx hb dX4_readRepeat_71 (by decide) ?_
    obtain ⟨e9_0, e9_1, e9_2, e9_3, e9_4, e9_5, e9_6, e9_7, e9_8, e9_9⟩ := tup10 hres
    subst e9_0
    subst e9_1
    subst e9_2
    subst e9_3
    subst e9_4
    subst e9_5
    subst e9_6
    subst e9_7
    subst e9_8
    subst e9_9
    rw [← hQQ]
    exact W.iret (v := (0 : Int32)) hx hb hr (fun t ht hW => ⟨⟨(0 : Int32), (), rfl, rfl, by rw [ht]; exact hP.sub [2, 0, 1] rfl, va_K.moved hW.alike hK, hD.sub [2, 0, 1] (by decide) rfl⟩, hS.F ht⟩) hS.2.2 dX4_readRepeat_72
  rw [fRd_readRepeat] at hres
  refine lv_aload_n hx hb dX4_readRepeat_0 rfl (lv_at hl 0 rfl) ?_
  refine va_get (D := (dC, dI)) (ci := 3) (v := .int t_at) (C := RX4) (T := TX4) (N := 13) hx hb hts iRd_readRepeat_X4_readRepeat_1 hown hK hP 0 rfl rfl 3 (by decide) (hts _ kRd_readRepeat_X4_readRepeat_0) (fun _ h9 => h9) rfl dX4_readRepeat_1 ?_
  refine lv_istore_n (lv' := [(3, .int t_at), (0, .ref h_t), (1, .int x1), (2, .int x2)]) hx hb dX4_readRepeat_4 rfl hl (by decide) rfl (fun ls hl => ?_)
  refine lv_aload_n hx hb dX4_readRepeat_5 rfl (lv_at hl 1 rfl) ?_
  obtain ⟨o3, ho3, hres⟩ := bd_of hres
  have hPc := hP.sub (ws' := [(h_t, .inr (3, [.ref h_t_signs, .ref h_t_letters, .int t_length, .int t_at, .int t_size, .int t_faultPlace, .int t_faultReason, .int t_lettersTold, .int t_repeatsTold, .int t_correctionsTold, .int t_mostCorrections, .int t_deepest, .int t_fresh])), (h_t_signs, .inl (cI, 60, .inl t_signs))]) [0, 2] rfl
  have hDc := hD.sub (ws' := [(h_t, .inr (3, [.ref h_t_signs, .ref h_t_letters, .int t_length, .int t_at, .int t_size, .int t_faultPlace, .int t_faultReason, .int t_lettersTold, .int t_repeatsTold, .int t_correctionsTold, .int t_mostCorrections, .int t_deepest, .int t_fresh])), (h_t_signs, .inl (cI, 60, .inl t_signs))]) [0, 2] (by decide) rfl
  have hFc := va_free (wc := [(h_t, .inr (3, [.ref h_t_signs, .ref h_t_letters, .int t_length, .int t_at, .int t_size, .int t_faultPlace, .int t_faultReason, .int t_lettersTold, .int t_repeatsTold, .int t_correctionsTold, .int t_mostCorrections, .int t_deepest, .int t_fresh])), (h_t_signs, .inl (cI, 60, .inl t_signs))]) hD hS hA [0, 2] rfl
  refine va_calli (va_runV (As := []) (rest := []) ⟨hx, hb, hml, hown, hts⟩ (cRd_sign l dC dI cI cJ cC cS h_t h_t_signs h_t_letters H.size t_length t_at t_size t_faultPlace t_faultReason t_lettersTold t_repeatsTold t_correctionsTold t_mostCorrections t_deepest t_fresh t_signs o3 ho3) (cwV 0 hts gX4_readRepeat_X4_sign rfl rfl rfl (by decide +kernel) ⟨by show 0 + 1 ≤ F + 6; omega, by show 8 + (1 + 11) + 0 ≤ L + 132; omega⟩) ⟨fun a U g mk q => by obtain ⟨q0, q1, qP, qK, qN, qD⟩ := q; exact ⟨q0, q1, qP, va_K.moved (u := U) (U := U.calling g mk a) (Vm.Alike.refl U.vm) qK, nwS (u := U) (U := U.calling g mk a) rfl qN, qD⟩, va_recv hK hPc (ci := 3) (q0 := 0) rfl rfl, fun U hU hW => ⟨rfl, by rw [hU], by rw [hU]; exact hPc, va_K.moved hW.alike hK, nwW hW hN, hDc.weaken (fun _ _ _ _ => trivial)⟩⟩ rfl rfl hl.1 rfl (lv_room (Nat.le_of_ble_eq_true rfl)) dX4_readRepeat_6 ⟨Nat.zero_le _, Nat.zero_le _⟩) hS (fun q _ h => hFc q h) hFc (fun r9 u9 t H1 locs ht hvm hw hB hz1 hk1 hS => ?_)
  have hw := hw.symm
  subst hw
  obtain ⟨hP1, hK1, hD1⟩ := hB
  rw [ht] at hP1
  obtain ⟨hP, hD⟩ := va_join (wr := [(h_t_letters, .inl (cI, 744, .inl t_letters))]) (w1 := [(h_t, .inr (3, [.ref h_t_signs, .ref h_t_letters, .int t_length, .int t_at, .int t_size, .int t_faultPlace, .int t_faultReason, .int t_lettersTold, .int t_repeatsTold, .int t_correctionsTold, .int t_mostCorrections, .int t_deepest, .int t_fresh])), (h_t_signs, .inl (cI, 60, .inl t_signs))]) hP hD [0, 2] [1] rfl rfl (by decide) (by decide) hk1 hFc hP1 hD1
  generalize H1 = H at hP hS ⊢
  have hP : va_P (dC, dI) vwCl [(h_t_letters, .inl (cI, 744, .inl t_letters)), (h_t, .inr (3, [.ref h_t_signs, .ref h_t_letters, .int t_length, .int t_at, .int t_size, .int t_faultPlace, .int t_faultReason, .int t_lettersTold, .int t_repeatsTold, .int t_correctionsTold, .int t_mostCorrections, .int t_deepest, .int t_fresh])), (h_t_signs, .inl (cI, 60, .inl t_signs))] H := hP
  have hD : va_D A [(h_t_letters, .inl (cI, 744, .inl t_letters)), (h_t, .inr (3, [.ref h_t_signs, .ref h_t_letters, .int t_length, .int t_at, .int t_size, .int t_faultPlace, .int t_faultReason, .int t_lettersTold, .int t_repeatsTold, .int t_correctionsTold, .int t_mostCorrections, .int t_deepest, .int t_fresh])), (h_t_signs, .inl (cI, 60, .inl t_signs))] := hD
  obtain ⟨o4, ho4, hres⟩ := bd_of hres
  have hPc := hP.sub (ws' := []) [] rfl
  have hDc := hD.sub (ws' := []) [] (by decide) rfl
  have hFc := va_free (wc := []) hD hS hA [] rfl
  refine va_calli (va_runS (As := [.int o3]) (rest := []) ⟨hx, hb, hml, hown, hts⟩ (cRd_isDigit l dC dI cI cJ cC cS H.size o3 o4 ho4) (va_cwS 1 hts gX4_readRepeat_X4_isDigit rfl rfl rfl (by decide +kernel) ⟨by show 0 + 1 ≤ F + 6; omega, by show 8 + (1 + 11) + 0 ≤ L + 132; omega⟩) ⟨fun a U g mk q => by obtain ⟨q0, q1, qP, qK, qN, qD⟩ := q; exact ⟨q0, q1, qP, va_K.moved (u := U) (U := U.calling g mk a) (Vm.Alike.refl U.vm) qK, nwS (u := U) (U := U.calling g mk a) rfl qN, qD⟩, fun U hU hW => ⟨rfl, by rw [hU], by rw [hU]; exact hPc, va_K.moved hW.alike hK, nwW hW hN, hDc.weaken (fun _ _ _ _ => trivial)⟩⟩ rfl rfl hl.1 rfl (lv_room (Nat.le_of_ble_eq_true rfl)) dX4_readRepeat_9 ⟨Nat.zero_le _, Nat.zero_le _⟩) hS (fun q _ h => hFc q h) hFc (fun r9 u9 t H1 locs ht hvm hw hB hz1 hk1 hS => ?_)
  have hw := hw.symm
  subst hw
  obtain ⟨hP1, hK1, hD1⟩ := hB
  rw [ht] at hP1
  obtain ⟨hP, hD⟩ := va_join (wr := [(h_t_letters, .inl (cI, 744, .inl t_letters)), (h_t, .inr (3, [.ref h_t_signs, .ref h_t_letters, .int t_length, .int t_at, .int t_size, .int t_faultPlace, .int t_faultReason, .int t_lettersTold, .int t_repeatsTold, .int t_correctionsTold, .int t_mostCorrections, .int t_deepest, .int t_fresh])), (h_t_signs, .inl (cI, 60, .inl t_signs))]) (w1 := []) hP hD [] [0, 1, 2] rfl rfl (by decide) (by decide) hk1 hFc hP1 hD1
  generalize H1 = H at hP hS ⊢
  have hP : va_P (dC, dI) vwCl [(h_t_letters, .inl (cI, 744, .inl t_letters)), (h_t, .inr (3, [.ref h_t_signs, .ref h_t_letters, .int t_length, .int t_at, .int t_size, .int t_faultPlace, .int t_faultReason, .int t_lettersTold, .int t_repeatsTold, .int t_correctionsTold, .int t_mostCorrections, .int t_deepest, .int t_fresh])), (h_t_signs, .inl (cI, 60, .inl t_signs))] H := hP
  have hD : va_D A [(h_t_letters, .inl (cI, 744, .inl t_letters)), (h_t, .inr (3, [.ref h_t_signs, .ref h_t_letters, .int t_length, .int t_at, .int t_size, .int t_faultPlace, .int t_faultReason, .int t_lettersTold, .int t_repeatsTold, .int t_correctionsTold, .int t_mostCorrections, .int t_deepest, .int t_fresh])), (h_t_signs, .inl (cI, 60, .inl t_signs))] := hD
  refine lv_if_eq (tgt := 24) hx hb dX4_readRepeat_12 (by decide) (fun c_5 => ?_) (fun c_5 => ?_)
  · have hres := it_of hres c_5
    exact hK24 t_at t_size t_faultPlace t_faultReason t_lettersTold t_repeatsTold t_correctionsTold t_mostCorrections t_letters H locs ls hres (hP.sub [1, 0, 2] rfl) (hD.sub [1, 0, 2] (by decide) rfl) hS (lv_sub hl [1] rfl)
  · have hres := ie_of hres c_5
    refine lv_aload_n hx hb dX4_readRepeat_15 rfl (lv_at hl 1 rfl) ?_
    obtain ⟨o6, ho6, hres⟩ := bd_of hres
    have hPc := hP.sub (ws' := [(h_t, .inr (3, [.ref h_t_signs, .ref h_t_letters, .int t_length, .int t_at, .int t_size, .int t_faultPlace, .int t_faultReason, .int t_lettersTold, .int t_repeatsTold, .int t_correctionsTold, .int t_mostCorrections, .int t_deepest, .int t_fresh])), (h_t_signs, .inl (cI, 60, .inl t_signs))]) [1, 2] rfl
    have hDc := hD.sub (ws' := [(h_t, .inr (3, [.ref h_t_signs, .ref h_t_letters, .int t_length, .int t_at, .int t_size, .int t_faultPlace, .int t_faultReason, .int t_lettersTold, .int t_repeatsTold, .int t_correctionsTold, .int t_mostCorrections, .int t_deepest, .int t_fresh])), (h_t_signs, .inl (cI, 60, .inl t_signs))]) [1, 2] (by decide) rfl
    have hFc := va_free (wc := [(h_t, .inr (3, [.ref h_t_signs, .ref h_t_letters, .int t_length, .int t_at, .int t_size, .int t_faultPlace, .int t_faultReason, .int t_lettersTold, .int t_repeatsTold, .int t_correctionsTold, .int t_mostCorrections, .int t_deepest, .int t_fresh])), (h_t_signs, .inl (cI, 60, .inl t_signs))]) hD hS hA [1, 2] rfl
    refine va_calli (va_runV (As := []) (rest := []) ⟨hx, hb, hml, hown, hts⟩ (cRd_sign l dC dI cI cJ cC cS h_t h_t_signs h_t_letters H.size t_length t_at t_size t_faultPlace t_faultReason t_lettersTold t_repeatsTold t_correctionsTold t_mostCorrections t_deepest t_fresh t_signs o6 ho6) (cwV 0 hts gX4_readRepeat_X4_sign rfl rfl rfl (by decide +kernel) ⟨by show 0 + 1 ≤ F + 6; omega, by show 8 + (1 + 11) + 0 ≤ L + 132; omega⟩) ⟨fun a U g mk q => by obtain ⟨q0, q1, qP, qK, qN, qD⟩ := q; exact ⟨q0, q1, qP, va_K.moved (u := U) (U := U.calling g mk a) (Vm.Alike.refl U.vm) qK, nwS (u := U) (U := U.calling g mk a) rfl qN, qD⟩, va_recv hK hPc (ci := 3) (q0 := 0) rfl rfl, fun U hU hW => ⟨rfl, by rw [hU], by rw [hU]; exact hPc, va_K.moved hW.alike hK, nwW hW hN, hDc.weaken (fun _ _ _ _ => trivial)⟩⟩ rfl rfl hl.1 rfl (lv_room (Nat.le_of_ble_eq_true rfl)) dX4_readRepeat_16 ⟨Nat.zero_le _, Nat.zero_le _⟩) hS (fun q _ h => hFc q h) hFc (fun r9 u9 t H1 locs ht hvm hw hB hz1 hk1 hS => ?_)
    have hw := hw.symm
    subst hw
    obtain ⟨hP1, hK1, hD1⟩ := hB
    rw [ht] at hP1
    obtain ⟨hP, hD⟩ := va_join (wr := [(h_t_letters, .inl (cI, 744, .inl t_letters))]) (w1 := [(h_t, .inr (3, [.ref h_t_signs, .ref h_t_letters, .int t_length, .int t_at, .int t_size, .int t_faultPlace, .int t_faultReason, .int t_lettersTold, .int t_repeatsTold, .int t_correctionsTold, .int t_mostCorrections, .int t_deepest, .int t_fresh])), (h_t_signs, .inl (cI, 60, .inl t_signs))]) hP hD [1, 2] [0] rfl rfl (by decide) (by decide) hk1 hFc hP1 hD1
    generalize H1 = H at hP hS ⊢
    have hP : va_P (dC, dI) vwCl [(h_t_letters, .inl (cI, 744, .inl t_letters)), (h_t, .inr (3, [.ref h_t_signs, .ref h_t_letters, .int t_length, .int t_at, .int t_size, .int t_faultPlace, .int t_faultReason, .int t_lettersTold, .int t_repeatsTold, .int t_correctionsTold, .int t_mostCorrections, .int t_deepest, .int t_fresh])), (h_t_signs, .inl (cI, 60, .inl t_signs))] H := hP
    have hD : va_D A [(h_t_letters, .inl (cI, 744, .inl t_letters)), (h_t, .inr (3, [.ref h_t_signs, .ref h_t_letters, .int t_length, .int t_at, .int t_size, .int t_faultPlace, .int t_faultReason, .int t_lettersTold, .int t_repeatsTold, .int t_correctionsTold, .int t_mostCorrections, .int t_deepest, .int t_fresh])), (h_t_signs, .inl (cI, 60, .inl t_signs))] := hD
    refine lv_bipush (v := (48 : Int32)) hx hb dX4_readRepeat_19 (by decide) ?_
    refine lv_icmp_ne (tgt := 35) hx hb dX4_readRepeat_21 (by decide) (fun c_7 => ?_) (fun c_7 => ?_)
    · have hres := ie_of hres c_7
      refine lv_aload_n hx hb dX4_readRepeat_35 rfl (lv_at hl 1 rfl) ?_
      obtain ⟨o8, ho8, hres⟩ := bd_of hres
      have hPc := hP.sub (ws' := [(h_t, .inr (3, [.ref h_t_signs, .ref h_t_letters, .int t_length, .int t_at, .int t_size, .int t_faultPlace, .int t_faultReason, .int t_lettersTold, .int t_repeatsTold, .int t_correctionsTold, .int t_mostCorrections, .int t_deepest, .int t_fresh])), (h_t_signs, .inl (cI, 60, .inl t_signs))]) [1, 2] rfl
      have hDc := hD.sub (ws' := [(h_t, .inr (3, [.ref h_t_signs, .ref h_t_letters, .int t_length, .int t_at, .int t_size, .int t_faultPlace, .int t_faultReason, .int t_lettersTold, .int t_repeatsTold, .int t_correctionsTold, .int t_mostCorrections, .int t_deepest, .int t_fresh])), (h_t_signs, .inl (cI, 60, .inl t_signs))]) [1, 2] (by decide) rfl
      have hFc := va_free (wc := [(h_t, .inr (3, [.ref h_t_signs, .ref h_t_letters, .int t_length, .int t_at, .int t_size, .int t_faultPlace, .int t_faultReason, .int t_lettersTold, .int t_repeatsTold, .int t_correctionsTold, .int t_mostCorrections, .int t_deepest, .int t_fresh])), (h_t_signs, .inl (cI, 60, .inl t_signs))]) hD hS hA [1, 2] rfl
      refine va_calli (va_runV (As := []) (rest := []) ⟨hx, hb, hml, hown, hts⟩ (cRd_readNumber l dC dI cI cJ cC cS h_t h_t_signs h_t_letters H.size t_length t_at t_size t_faultPlace t_faultReason t_lettersTold t_repeatsTold t_correctionsTold t_mostCorrections t_deepest t_fresh t_signs o8.1 o8.2 ho8) (cwV 0 hts gX4_readRepeat_X4_readNumber rfl rfl rfl (by decide +kernel) ⟨by show 1 + 1 ≤ F + 6; omega, by show 8 + (2 + 11) + 20 ≤ L + 132; omega⟩) ⟨fun a U g mk q => by obtain ⟨q0, q1, qP, qK, qN, qD⟩ := q; exact ⟨q0, q1, qP, va_K.moved (u := U) (U := U.calling g mk a) (Vm.Alike.refl U.vm) qK, nwS (u := U) (U := U.calling g mk a) rfl qN, qD⟩, va_recv hK hPc (ci := 3) (q0 := 0) rfl rfl, fun U hU hW => ⟨rfl, by rw [hU], by rw [hU]; exact hPc, va_K.moved hW.alike hK, nwW hW hN, hDc.weaken (fun _ _ _ _ => trivial)⟩⟩ rfl rfl hl.1 rfl (lv_room (Nat.le_of_ble_eq_true rfl)) dX4_readRepeat_36 ⟨Nat.zero_le _, Nat.zero_le _⟩) hS (fun q _ h => hFc q h) hFc (fun r9 u9 t H1 locs ht hvm hw hB hz1 hk1 hS => ?_)
      have hw := hw.symm
      subst hw
      obtain ⟨hP1, hK1, hD1⟩ := hB
      rw [ht] at hP1
      obtain ⟨hP, hD⟩ := va_join (wr := [(h_t_letters, .inl (cI, 744, .inl t_letters))]) (w1 := [(h_t, .inr (3, [.ref h_t_signs, .ref h_t_letters, .int t_length, .int o8.2, .int t_size, .int t_faultPlace, .int t_faultReason, .int t_lettersTold, .int t_repeatsTold, .int t_correctionsTold, .int t_mostCorrections, .int t_deepest, .int t_fresh])), (h_t_signs, .inl (cI, 60, .inl t_signs))]) hP hD [1, 2] [0] rfl rfl (by decide) (by decide) hk1 hFc hP1 hD1
      generalize H1 = H at hP hS ⊢
      have hP : va_P (dC, dI) vwCl [(h_t_letters, .inl (cI, 744, .inl t_letters)), (h_t, .inr (3, [.ref h_t_signs, .ref h_t_letters, .int t_length, .int o8.2, .int t_size, .int t_faultPlace, .int t_faultReason, .int t_lettersTold, .int t_repeatsTold, .int t_correctionsTold, .int t_mostCorrections, .int t_deepest, .int t_fresh])), (h_t_signs, .inl (cI, 60, .inl t_signs))] H := hP
      have hD : va_D A [(h_t_letters, .inl (cI, 744, .inl t_letters)), (h_t, .inr (3, [.ref h_t_signs, .ref h_t_letters, .int t_length, .int o8.2, .int t_size, .int t_faultPlace, .int t_faultReason, .int t_lettersTold, .int t_repeatsTold, .int t_correctionsTold, .int t_mostCorrections, .int t_deepest, .int t_fresh])), (h_t_signs, .inl (cI, 60, .inl t_signs))] := hD
      refine lv_istore (lv' := [(4, .int o8.1), (3, .int t_at), (0, .ref h_t), (1, .int x1), (2, .int x2)]) hx hb dX4_readRepeat_39 hl (by decide) rfl (fun ls hl => ?_)
      refine lv_aload_n hx hb dX4_readRepeat_41 rfl (lv_at hl 2 rfl) ?_
      refine lv_bipush (v := (40 : Int32)) hx hb dX4_readRepeat_42 (by decide) ?_
      obtain ⟨o9, ho9, hres⟩ := bd_of hres
      have hPc := hP.sub (ws' := [(h_t, .inr (3, [.ref h_t_signs, .ref h_t_letters, .int t_length, .int o8.2, .int t_size, .int t_faultPlace, .int t_faultReason, .int t_lettersTold, .int t_repeatsTold, .int t_correctionsTold, .int t_mostCorrections, .int t_deepest, .int t_fresh])), (h_t_signs, .inl (cI, 60, .inl t_signs))]) [1, 2] rfl
      have hDc := hD.sub (ws' := [(h_t, .inr (3, [.ref h_t_signs, .ref h_t_letters, .int t_length, .int o8.2, .int t_size, .int t_faultPlace, .int t_faultReason, .int t_lettersTold, .int t_repeatsTold, .int t_correctionsTold, .int t_mostCorrections, .int t_deepest, .int t_fresh])), (h_t_signs, .inl (cI, 60, .inl t_signs))]) [1, 2] (by decide) rfl
      have hFc := va_free (wc := [(h_t, .inr (3, [.ref h_t_signs, .ref h_t_letters, .int t_length, .int o8.2, .int t_size, .int t_faultPlace, .int t_faultReason, .int t_lettersTold, .int t_repeatsTold, .int t_correctionsTold, .int t_mostCorrections, .int t_deepest, .int t_fresh])), (h_t_signs, .inl (cI, 60, .inl t_signs))]) hD hS hA [1, 2] rfl
      refine va_calli (va_runV (As := [.int (40 : Int32)]) (rest := []) ⟨hx, hb, hml, hown, hts⟩ (cRd_reads l dC dI cI cJ cC cS h_t h_t_signs h_t_letters H.size t_length o8.2 t_size t_faultPlace t_faultReason t_lettersTold t_repeatsTold t_correctionsTold t_mostCorrections t_deepest t_fresh t_signs (40 : Int32) o9.1 o9.2.1 o9.2.2.1 o9.2.2.2 ho9) (cwV 1 hts gX4_readRepeat_X4_reads rfl rfl rfl (by decide +kernel) ⟨by show 1 + 1 ≤ F + 6; omega, by show 8 + (2 + 11) + 22 ≤ L + 132; omega⟩) ⟨fun a U g mk q => by obtain ⟨q0, q1, qP, qK, qN, qD⟩ := q; exact ⟨q0, q1, qP, va_K.moved (u := U) (U := U.calling g mk a) (Vm.Alike.refl U.vm) qK, nwS (u := U) (U := U.calling g mk a) rfl qN, qD⟩, va_recv hK hPc (ci := 3) (q0 := 0) rfl rfl, fun U hU hW => ⟨rfl, by rw [hU], by rw [hU]; exact hPc, va_K.moved hW.alike hK, nwW hW hN, hDc.weaken (fun _ _ _ _ => trivial)⟩⟩ rfl rfl hl.1 rfl (lv_room (Nat.le_of_ble_eq_true rfl)) dX4_readRepeat_44 ⟨Nat.zero_le _, Nat.zero_le _⟩) hS (fun q _ h => hFc q h) hFc (fun r9 u9 t H1 locs ht hvm hw hB hz1 hk1 hS => ?_)
      have hw := hw.symm
      subst hw
      obtain ⟨hP1, hK1, hD1⟩ := hB
      rw [ht] at hP1
      obtain ⟨hP, hD⟩ := va_join (wr := [(h_t_letters, .inl (cI, 744, .inl t_letters))]) (w1 := [(h_t, .inr (3, [.ref h_t_signs, .ref h_t_letters, .int t_length, .int o9.2.1, .int t_size, .int o9.2.2.1, .int o9.2.2.2, .int t_lettersTold, .int t_repeatsTold, .int t_correctionsTold, .int t_mostCorrections, .int t_deepest, .int t_fresh])), (h_t_signs, .inl (cI, 60, .inl t_signs))]) hP hD [1, 2] [0] rfl rfl (by decide) (by decide) hk1 hFc hP1 hD1
      generalize H1 = H at hP hS ⊢
      have hP : va_P (dC, dI) vwCl [(h_t_letters, .inl (cI, 744, .inl t_letters)), (h_t, .inr (3, [.ref h_t_signs, .ref h_t_letters, .int t_length, .int o9.2.1, .int t_size, .int o9.2.2.1, .int o9.2.2.2, .int t_lettersTold, .int t_repeatsTold, .int t_correctionsTold, .int t_mostCorrections, .int t_deepest, .int t_fresh])), (h_t_signs, .inl (cI, 60, .inl t_signs))] H := hP
      have hD : va_D A [(h_t_letters, .inl (cI, 744, .inl t_letters)), (h_t, .inr (3, [.ref h_t_signs, .ref h_t_letters, .int t_length, .int o9.2.1, .int t_size, .int o9.2.2.1, .int o9.2.2.2, .int t_lettersTold, .int t_repeatsTold, .int t_correctionsTold, .int t_mostCorrections, .int t_deepest, .int t_fresh])), (h_t_signs, .inl (cI, 60, .inl t_signs))] := hD
      refine lv_if_ne (tgt := 52) hx hb dX4_readRepeat_47 (by decide) (fun c_10 => ?_) (fun c_10 => ?_)
      · have hres := ie_of hres c_10
        refine lv_iload hx hb dX4_readRepeat_52 (lv_at hl 0 rfl) ?_
        refine lv_iconst (v := (2 : Int32)) hx hb dX4_readRepeat_54 (by decide) ?_
        refine lv_icmp_lt (tgt := 65) hx hb dX4_readRepeat_55 (by decide) (fun c_11 => ?_) (fun c_11 => ?_)
        · have hres := it_of hres c_11
          exact hK65 t_at o9.2.1 t_size o9.2.2.1 o9.2.2.2 t_lettersTold t_repeatsTold t_correctionsTold t_mostCorrections t_letters H locs ls hres (hP.sub [1, 0, 2] rfl) (hD.sub [1, 0, 2] (by decide) rfl) hS (lv_sub hl [2, 1] rfl)
        · have hres := ie_of hres c_11
          refine lv_iload hx hb dX4_readRepeat_58 (lv_at hl 0 rfl) ?_
          refine lv_bipush (v := (24 : Int32)) hx hb dX4_readRepeat_60 (by decide) ?_
          refine lv_icmp_le (tgt := 73) hx hb dX4_readRepeat_62 (by decide) (fun c_12 => ?_) (fun c_12 => ?_)
          · have hres := it_of hres c_12
            refine lv_aload_n hx hb dX4_readRepeat_73 rfl (lv_at hl 2 rfl) ?_
            refine va_get (D := (dC, dI)) (ci := 3) (v := .int t_size) (C := RX4) (T := TX4) (N := 13) hx hb hts iRd_readRepeat_X4_readRepeat_1 hown hK hP 1 rfl rfl 4 (by decide) (hts _ kRd_readRepeat_X4_readRepeat_2) (fun _ h9 => h9) rfl dX4_readRepeat_74 ?_
            refine lv_istore (lv' := [(5, .int t_size), (4, .int o8.1), (3, .int t_at), (0, .ref h_t), (1, .int x1), (2, .int x2)]) hx hb dX4_readRepeat_77 hl (by decide) rfl (fun ls hl => ?_)
            refine lv_iconst (v := (1 : Int32)) hx hb dX4_readRepeat_79 (by decide) ?_
            refine lv_aload_n hx hb dX4_readRepeat_80 rfl (lv_at hl 3 rfl) ?_
            refine lv_iload_n hx hb dX4_readRepeat_81 rfl (lv_at hl 4 rfl) ?_
            refine lv_iconst (v := (1 : Int32)) hx hb dX4_readRepeat_82 (by decide) ?_
            refine lv_iadd hx hb dX4_readRepeat_83 ?_
            obtain ⟨o13, ho13, hres⟩ := bd_of hres
            have hPc := hP.sub (ws' := [(h_t, .inr (3, [.ref h_t_signs, .ref h_t_letters, .int t_length, .int o9.2.1, .int t_size, .int o9.2.2.1, .int o9.2.2.2, .int t_lettersTold, .int t_repeatsTold, .int t_correctionsTold, .int t_mostCorrections, .int t_deepest, .int t_fresh])), (h_t_letters, .inl (cI, 744, .inl t_letters)), (h_t_signs, .inl (cI, 60, .inl t_signs))]) [1, 0, 2] rfl
            have hDc := hD.sub (ws' := [(h_t, .inr (3, [.ref h_t_signs, .ref h_t_letters, .int t_length, .int o9.2.1, .int t_size, .int o9.2.2.1, .int o9.2.2.2, .int t_lettersTold, .int t_repeatsTold, .int t_correctionsTold, .int t_mostCorrections, .int t_deepest, .int t_fresh])), (h_t_letters, .inl (cI, 744, .inl t_letters)), (h_t_signs, .inl (cI, 60, .inl t_signs))]) [1, 0, 2] (by decide) rfl
            have hFc := va_free (wc := [(h_t, .inr (3, [.ref h_t_signs, .ref h_t_letters, .int t_length, .int o9.2.1, .int t_size, .int o9.2.2.1, .int o9.2.2.2, .int t_lettersTold, .int t_repeatsTold, .int t_correctionsTold, .int t_mostCorrections, .int t_deepest, .int t_fresh])), (h_t_letters, .inl (cI, 744, .inl t_letters)), (h_t_signs, .inl (cI, 60, .inl t_signs))]) hD hS hA [1, 0, 2] rfl
            refine va_calli (va_runV (As := [.int (x1 + (1 : Int32))]) (rest := [.int (1 : Int32)]) ⟨hx, hb, hml, hown, hts⟩ (hgRd_readItems dC dI cI cJ cC cS h_t h_t_signs h_t_letters H.size t_length o9.2.1 t_size o9.2.2.1 o9.2.2.2 t_lettersTold t_repeatsTold t_correctionsTold t_mostCorrections t_deepest t_fresh t_letters t_signs (x1 + (1 : Int32)) o13.1 o13.2.1 o13.2.2.1 o13.2.2.2.1 o13.2.2.2.2.1 o13.2.2.2.2.2.1 o13.2.2.2.2.2.2.1 o13.2.2.2.2.2.2.2.1 o13.2.2.2.2.2.2.2.2.1 o13.2.2.2.2.2.2.2.2.2 ho13) (cwV 1 hts gX4_readRepeat_X4_readItems rfl rfl rfl (by decide +kernel) ⟨by show F + 1 ≤ F + 6; omega, by show 8 + (6 + 11) + L ≤ L + 132; omega⟩) ⟨fun a U g mk q => by obtain ⟨q0, q1, qP, qK, qN, qD⟩ := q; exact ⟨q0, q1, qP, va_K.moved (u := U) (U := U.calling g mk a) (Vm.Alike.refl U.vm) qK, nwS (u := U) (U := U.calling g mk a) rfl qN, qD⟩, va_recv hK hPc (ci := 3) (q0 := 0) rfl rfl, fun U hU hW => ⟨rfl, by rw [hU], by rw [hU]; exact hPc, va_K.moved hW.alike hK, nwW hW hN, hDc.weaken (fun _ _ _ _ => trivial)⟩⟩ rfl rfl hl.1 rfl (lv_room (Nat.le_of_ble_eq_true rfl)) dX4_readRepeat_84 ⟨Nat.zero_le _, Nat.zero_le _⟩) hS (fun q _ h => hFc q h) hFc (fun r9 u9 t H1 locs ht hvm hw hB hz1 hk1 hS => ?_)
            have hw := hw.symm
            subst hw
            obtain ⟨hP1, hK1, hD1⟩ := hB
            rw [ht] at hP1
            obtain ⟨hP, hD⟩ := va_join (wr := []) (w1 := [(h_t, .inr (3, [.ref h_t_signs, .ref h_t_letters, .int t_length, .int o13.2.1, .int o13.2.2.1, .int o13.2.2.2.1, .int o13.2.2.2.2.1, .int o13.2.2.2.2.2.1, .int o13.2.2.2.2.2.2.1, .int o13.2.2.2.2.2.2.2.1, .int o13.2.2.2.2.2.2.2.2.1, .int t_deepest, .int t_fresh])), (h_t_letters, .inl (cI, 744, .inl o13.2.2.2.2.2.2.2.2.2)), (h_t_signs, .inl (cI, 60, .inl t_signs))]) hP hD [1, 0, 2] [] rfl rfl (by decide) (by decide) hk1 hFc hP1 hD1
            generalize H1 = H at hP hS ⊢
            have hP : va_P (dC, dI) vwCl [(h_t, .inr (3, [.ref h_t_signs, .ref h_t_letters, .int t_length, .int o13.2.1, .int o13.2.2.1, .int o13.2.2.2.1, .int o13.2.2.2.2.1, .int o13.2.2.2.2.2.1, .int o13.2.2.2.2.2.2.1, .int o13.2.2.2.2.2.2.2.1, .int o13.2.2.2.2.2.2.2.2.1, .int t_deepest, .int t_fresh])), (h_t_letters, .inl (cI, 744, .inl o13.2.2.2.2.2.2.2.2.2)), (h_t_signs, .inl (cI, 60, .inl t_signs))] H := hP
            have hD : va_D A [(h_t, .inr (3, [.ref h_t_signs, .ref h_t_letters, .int t_length, .int o13.2.1, .int o13.2.2.1, .int o13.2.2.2.1, .int o13.2.2.2.2.1, .int o13.2.2.2.2.2.1, .int o13.2.2.2.2.2.2.1, .int o13.2.2.2.2.2.2.2.1, .int o13.2.2.2.2.2.2.2.2.1, .int t_deepest, .int t_fresh])), (h_t_letters, .inl (cI, 744, .inl o13.2.2.2.2.2.2.2.2.2)), (h_t_signs, .inl (cI, 60, .inl t_signs))] := hD
            refine lv_iadd hx hb dX4_readRepeat_87 ?_
            refine lv_istore (lv' := [(6, .int ((1 : Int32) + o13.1)), (5, .int t_size), (4, .int o8.1), (3, .int t_at), (0, .ref h_t), (1, .int x1), (2, .int x2)]) hx hb dX4_readRepeat_88 hl (by decide) rfl (fun ls hl => ?_)
            refine lv_aload_n hx hb dX4_readRepeat_90 rfl (lv_at hl 4 rfl) ?_
            obtain ⟨o14, ho14, hres⟩ := bd_of hres
            have hPc := hP.sub (ws' := [(h_t, .inr (3, [.ref h_t_signs, .ref h_t_letters, .int t_length, .int o13.2.1, .int o13.2.2.1, .int o13.2.2.2.1, .int o13.2.2.2.2.1, .int o13.2.2.2.2.2.1, .int o13.2.2.2.2.2.2.1, .int o13.2.2.2.2.2.2.2.1, .int o13.2.2.2.2.2.2.2.2.1, .int t_deepest, .int t_fresh]))]) [0] rfl
            have hDc := hD.sub (ws' := [(h_t, .inr (3, [.ref h_t_signs, .ref h_t_letters, .int t_length, .int o13.2.1, .int o13.2.2.1, .int o13.2.2.2.1, .int o13.2.2.2.2.1, .int o13.2.2.2.2.2.1, .int o13.2.2.2.2.2.2.1, .int o13.2.2.2.2.2.2.2.1, .int o13.2.2.2.2.2.2.2.2.1, .int t_deepest, .int t_fresh]))]) [0] (by decide) rfl
            have hFc := va_free (wc := [(h_t, .inr (3, [.ref h_t_signs, .ref h_t_letters, .int t_length, .int o13.2.1, .int o13.2.2.1, .int o13.2.2.2.1, .int o13.2.2.2.2.1, .int o13.2.2.2.2.2.1, .int o13.2.2.2.2.2.2.1, .int o13.2.2.2.2.2.2.2.1, .int o13.2.2.2.2.2.2.2.2.1, .int t_deepest, .int t_fresh]))]) hD hS hA [0] rfl
            refine va_calli (va_runV (As := []) (rest := []) ⟨hx, hb, hml, hown, hts⟩ (cRd_hasFault l dC dI cI cJ cC cS h_t h_t_signs h_t_letters H.size t_length o13.2.1 o13.2.2.1 o13.2.2.2.1 o13.2.2.2.2.1 o13.2.2.2.2.2.1 o13.2.2.2.2.2.2.1 o13.2.2.2.2.2.2.2.1 o13.2.2.2.2.2.2.2.2.1 t_deepest t_fresh o14 ho14) (cwV 0 hts gX4_readRepeat_X4_hasFault rfl rfl rfl (by decide +kernel) ⟨by show 0 + 1 ≤ F + 6; omega, by show 8 + (1 + 11) + 0 ≤ L + 132; omega⟩) ⟨fun a U g mk q => by obtain ⟨q0, q1, qP, qK, qN, qD⟩ := q; exact ⟨q0, q1, qP, va_K.moved (u := U) (U := U.calling g mk a) (Vm.Alike.refl U.vm) qK, nwS (u := U) (U := U.calling g mk a) rfl qN, qD⟩, va_recv hK hPc (ci := 3) (q0 := 0) rfl rfl, fun U hU hW => ⟨rfl, by rw [hU], by rw [hU]; exact hPc, va_K.moved hW.alike hK, nwW hW hN, hDc.weaken (fun _ _ _ _ => trivial)⟩⟩ rfl rfl hl.1 rfl (lv_room (Nat.le_of_ble_eq_true rfl)) dX4_readRepeat_91 ⟨Nat.zero_le _, Nat.zero_le _⟩) hS (fun q _ h => hFc q h) hFc (fun r9 u9 t H1 locs ht hvm hw hB hz1 hk1 hS => ?_)
            have hw := hw.symm
            subst hw
            obtain ⟨hP1, hK1, hD1⟩ := hB
            rw [ht] at hP1
            obtain ⟨hP, hD⟩ := va_join (wr := [(h_t_letters, .inl (cI, 744, .inl o13.2.2.2.2.2.2.2.2.2)), (h_t_signs, .inl (cI, 60, .inl t_signs))]) (w1 := [(h_t, .inr (3, [.ref h_t_signs, .ref h_t_letters, .int t_length, .int o13.2.1, .int o13.2.2.1, .int o13.2.2.2.1, .int o13.2.2.2.2.1, .int o13.2.2.2.2.2.1, .int o13.2.2.2.2.2.2.1, .int o13.2.2.2.2.2.2.2.1, .int o13.2.2.2.2.2.2.2.2.1, .int t_deepest, .int t_fresh]))]) hP hD [0] [1, 2] rfl rfl (by decide) (by decide) hk1 hFc hP1 hD1
            generalize H1 = H at hP hS ⊢
            have hP : va_P (dC, dI) vwCl [(h_t_letters, .inl (cI, 744, .inl o13.2.2.2.2.2.2.2.2.2)), (h_t_signs, .inl (cI, 60, .inl t_signs)), (h_t, .inr (3, [.ref h_t_signs, .ref h_t_letters, .int t_length, .int o13.2.1, .int o13.2.2.1, .int o13.2.2.2.1, .int o13.2.2.2.2.1, .int o13.2.2.2.2.2.1, .int o13.2.2.2.2.2.2.1, .int o13.2.2.2.2.2.2.2.1, .int o13.2.2.2.2.2.2.2.2.1, .int t_deepest, .int t_fresh]))] H := hP
            have hD : va_D A [(h_t_letters, .inl (cI, 744, .inl o13.2.2.2.2.2.2.2.2.2)), (h_t_signs, .inl (cI, 60, .inl t_signs)), (h_t, .inr (3, [.ref h_t_signs, .ref h_t_letters, .int t_length, .int o13.2.1, .int o13.2.2.1, .int o13.2.2.2.1, .int o13.2.2.2.2.1, .int o13.2.2.2.2.2.1, .int o13.2.2.2.2.2.2.1, .int o13.2.2.2.2.2.2.2.1, .int o13.2.2.2.2.2.2.2.2.1, .int t_deepest, .int t_fresh]))] := hD
            refine lv_if_ne (tgt := 106) hx hb dX4_readRepeat_94 (by decide) (fun c_15 => ?_) (fun c_15 => ?_)
            · have hres := ie_of hres c_15
              refine lv_iconst (v := (0 : Int32)) hx hb dX4_readRepeat_106 (by decide) ?_
              obtain ⟨e9_0, e9_1, e9_2, e9_3, e9_4, e9_5, e9_6, e9_7, e9_8, e9_9⟩ := tup10 hres
              subst e9_0
              subst e9_1
              subst e9_2
              subst e9_3
              subst e9_4
              subst e9_5
              subst e9_6
              subst e9_7
              subst e9_8
              subst e9_9
              rw [← hQQ]
              exact W.iret (v := (0 : Int32)) hx hb hr (fun t ht hW => ⟨⟨(0 : Int32), (), rfl, rfl, by rw [ht]; exact hP.sub [2, 0, 1] rfl, va_K.moved hW.alike hK, hD.sub [2, 0, 1] (by decide) rfl⟩, hS.F ht⟩) hS.2.2 dX4_readRepeat_107
            · have hres := it_of hres c_15
              refine lv_aload_n hx hb dX4_readRepeat_97 rfl (lv_at hl 4 rfl) ?_
              refine lv_bipush (v := (41 : Int32)) hx hb dX4_readRepeat_98 (by decide) ?_
              obtain ⟨o16, ho16, hres⟩ := bd_of hres
              have hPc := hP.sub (ws' := [(h_t, .inr (3, [.ref h_t_signs, .ref h_t_letters, .int t_length, .int o13.2.1, .int o13.2.2.1, .int o13.2.2.2.1, .int o13.2.2.2.2.1, .int o13.2.2.2.2.2.1, .int o13.2.2.2.2.2.2.1, .int o13.2.2.2.2.2.2.2.1, .int o13.2.2.2.2.2.2.2.2.1, .int t_deepest, .int t_fresh])), (h_t_signs, .inl (cI, 60, .inl t_signs))]) [2, 1] rfl
              have hDc := hD.sub (ws' := [(h_t, .inr (3, [.ref h_t_signs, .ref h_t_letters, .int t_length, .int o13.2.1, .int o13.2.2.1, .int o13.2.2.2.1, .int o13.2.2.2.2.1, .int o13.2.2.2.2.2.1, .int o13.2.2.2.2.2.2.1, .int o13.2.2.2.2.2.2.2.1, .int o13.2.2.2.2.2.2.2.2.1, .int t_deepest, .int t_fresh])), (h_t_signs, .inl (cI, 60, .inl t_signs))]) [2, 1] (by decide) rfl
              have hFc := va_free (wc := [(h_t, .inr (3, [.ref h_t_signs, .ref h_t_letters, .int t_length, .int o13.2.1, .int o13.2.2.1, .int o13.2.2.2.1, .int o13.2.2.2.2.1, .int o13.2.2.2.2.2.1, .int o13.2.2.2.2.2.2.1, .int o13.2.2.2.2.2.2.2.1, .int o13.2.2.2.2.2.2.2.2.1, .int t_deepest, .int t_fresh])), (h_t_signs, .inl (cI, 60, .inl t_signs))]) hD hS hA [2, 1] rfl
              refine va_calli (va_runV (As := [.int (41 : Int32)]) (rest := []) ⟨hx, hb, hml, hown, hts⟩ (cRd_reads l dC dI cI cJ cC cS h_t h_t_signs h_t_letters H.size t_length o13.2.1 o13.2.2.1 o13.2.2.2.1 o13.2.2.2.2.1 o13.2.2.2.2.2.1 o13.2.2.2.2.2.2.1 o13.2.2.2.2.2.2.2.1 o13.2.2.2.2.2.2.2.2.1 t_deepest t_fresh t_signs (41 : Int32) o16.1 o16.2.1 o16.2.2.1 o16.2.2.2 ho16) (cwV 1 hts gX4_readRepeat_X4_reads rfl rfl rfl (by decide +kernel) ⟨by show 1 + 1 ≤ F + 6; omega, by show 8 + (2 + 11) + 22 ≤ L + 132; omega⟩) ⟨fun a U g mk q => by obtain ⟨q0, q1, qP, qK, qN, qD⟩ := q; exact ⟨q0, q1, qP, va_K.moved (u := U) (U := U.calling g mk a) (Vm.Alike.refl U.vm) qK, nwS (u := U) (U := U.calling g mk a) rfl qN, qD⟩, va_recv hK hPc (ci := 3) (q0 := 0) rfl rfl, fun U hU hW => ⟨rfl, by rw [hU], by rw [hU]; exact hPc, va_K.moved hW.alike hK, nwW hW hN, hDc.weaken (fun _ _ _ _ => trivial)⟩⟩ rfl rfl hl.1 rfl (lv_room (Nat.le_of_ble_eq_true rfl)) dX4_readRepeat_100 ⟨Nat.zero_le _, Nat.zero_le _⟩) hS (fun q _ h => hFc q h) hFc (fun r9 u9 t H1 locs ht hvm hw hB hz1 hk1 hS => ?_)
              have hw := hw.symm
              subst hw
              obtain ⟨hP1, hK1, hD1⟩ := hB
              rw [ht] at hP1
              obtain ⟨hP, hD⟩ := va_join (wr := [(h_t_letters, .inl (cI, 744, .inl o13.2.2.2.2.2.2.2.2.2))]) (w1 := [(h_t, .inr (3, [.ref h_t_signs, .ref h_t_letters, .int t_length, .int o16.2.1, .int o13.2.2.1, .int o16.2.2.1, .int o16.2.2.2, .int o13.2.2.2.2.2.1, .int o13.2.2.2.2.2.2.1, .int o13.2.2.2.2.2.2.2.1, .int o13.2.2.2.2.2.2.2.2.1, .int t_deepest, .int t_fresh])), (h_t_signs, .inl (cI, 60, .inl t_signs))]) hP hD [2, 1] [0] rfl rfl (by decide) (by decide) hk1 hFc hP1 hD1
              generalize H1 = H at hP hS ⊢
              have hP : va_P (dC, dI) vwCl [(h_t_letters, .inl (cI, 744, .inl o13.2.2.2.2.2.2.2.2.2)), (h_t, .inr (3, [.ref h_t_signs, .ref h_t_letters, .int t_length, .int o16.2.1, .int o13.2.2.1, .int o16.2.2.1, .int o16.2.2.2, .int o13.2.2.2.2.2.1, .int o13.2.2.2.2.2.2.1, .int o13.2.2.2.2.2.2.2.1, .int o13.2.2.2.2.2.2.2.2.1, .int t_deepest, .int t_fresh])), (h_t_signs, .inl (cI, 60, .inl t_signs))] H := hP
              have hD : va_D A [(h_t_letters, .inl (cI, 744, .inl o13.2.2.2.2.2.2.2.2.2)), (h_t, .inr (3, [.ref h_t_signs, .ref h_t_letters, .int t_length, .int o16.2.1, .int o13.2.2.1, .int o16.2.2.1, .int o16.2.2.2, .int o13.2.2.2.2.2.1, .int o13.2.2.2.2.2.2.1, .int o13.2.2.2.2.2.2.2.1, .int o13.2.2.2.2.2.2.2.2.1, .int t_deepest, .int t_fresh])), (h_t_signs, .inl (cI, 60, .inl t_signs))] := hD
              refine lv_if_ne (tgt := 108) hx hb dX4_readRepeat_103 (by decide) (fun c_17 => ?_) (fun c_17 => ?_)
              · have hres := ie_of hres c_17
                refine lv_aload_n hx hb dX4_readRepeat_108 rfl (lv_at hl 4 rfl) ?_
                refine va_get (D := (dC, dI)) (ci := 3) (v := .int o13.2.2.1) (C := RX4) (T := TX4) (N := 13) hx hb hts iRd_readRepeat_X4_readRepeat_1 hown hK hP 1 rfl rfl 4 (by decide) (hts _ kRd_readRepeat_X4_readRepeat_2) (fun _ h9 => h9) rfl dX4_readRepeat_109 ?_
                refine lv_iload hx hb dX4_readRepeat_112 (lv_at hl 1 rfl) ?_
                refine lv_isub hx hb dX4_readRepeat_114 ?_
                refine lv_istore (lv' := [(7, .int (o13.2.2.1 - t_size)), (6, .int ((1 : Int32) + o13.1)), (5, .int t_size), (4, .int o8.1), (3, .int t_at), (0, .ref h_t), (1, .int x1), (2, .int x2)]) hx hb dX4_readRepeat_115 hl (by decide) rfl (fun ls hl => ?_)
                refine lv_iload hx hb dX4_readRepeat_117 (lv_at hl 2 rfl) ?_
                refine lv_iload_n hx hb dX4_readRepeat_119 rfl (lv_at hl 7 rfl) ?_
                refine lv_isub hx hb dX4_readRepeat_120 ?_
                refine lv_iload hx hb dX4_readRepeat_121 (lv_at hl 0 rfl) ?_
                refine lv_iload hx hb dX4_readRepeat_123 (lv_at hl 3 rfl) ?_
                refine lv_imul hx hb dX4_readRepeat_125 ?_
                refine lv_iadd hx hb dX4_readRepeat_126 ?_
                refine lv_bipush (v := (24 : Int32)) hx hb dX4_readRepeat_127 (by decide) ?_
                refine lv_icmp_le (tgt := 140) hx hb dX4_readRepeat_129 (by decide) (fun c_18 => ?_) (fun c_18 => ?_)
                · have hres := it_of hres c_18
                  refine lv_aload_n hx hb dX4_readRepeat_140 rfl (lv_at hl 5 rfl) ?_
                  refine lv_dup hx hb dX4_readRepeat_141 rfl ?_
                  refine va_get (D := (dC, dI)) (ci := 3) (v := .int o13.2.2.2.2.2.2.1) (C := RX4) (T := TX4) (N := 13) hx hb hts iRd_readRepeat_X4_readRepeat_1 hown hK hP 1 rfl rfl 8 (by decide) (hts _ kRd_readRepeat_X4_readRepeat_3) (fun _ h9 => h9) rfl dX4_readRepeat_142 ?_
                  refine lv_iconst (v := (1 : Int32)) hx hb dX4_readRepeat_145 (by decide) ?_
                  refine lv_iadd hx hb dX4_readRepeat_146 ?_
                  refine va_put (D := (dC, dI)) (ci := 3) (v := .int (o13.2.2.2.2.2.2.1 + (1 : Int32))) (ty := .int) (C := RX4) (T := TX4) (N := 13) hx hb hts iRd_readRepeat_X4_readRepeat_1 tyX4 tyX4_ok nmX4 hown hK hP hD hS 1 rfl rfl 8 (by decide) (hts _ kRd_readRepeat_X4_readRepeat_3) (fun _ h9 => h9) rfl (by decide +kernel) rfl rfl (Nat.le_of_ble_eq_true rfl) dX4_readRepeat_147 (fun H locs hP hD hS => ?_)
                  have hP : va_P (dC, dI) vwCl [(h_t_letters, .inl (cI, 744, .inl o13.2.2.2.2.2.2.2.2.2)), (h_t, .inr (3, [.ref h_t_signs, .ref h_t_letters, .int t_length, .int o16.2.1, .int o13.2.2.1, .int o16.2.2.1, .int o16.2.2.2, .int o13.2.2.2.2.2.1, .int (o13.2.2.2.2.2.2.1 + (1 : Int32)), .int o13.2.2.2.2.2.2.2.1, .int o13.2.2.2.2.2.2.2.2.1, .int t_deepest, .int t_fresh])), (h_t_signs, .inl (cI, 60, .inl t_signs))] H := hP
                  have hD : va_D A [(h_t_letters, .inl (cI, 744, .inl o13.2.2.2.2.2.2.2.2.2)), (h_t, .inr (3, [.ref h_t_signs, .ref h_t_letters, .int t_length, .int o16.2.1, .int o13.2.2.1, .int o16.2.2.1, .int o16.2.2.2, .int o13.2.2.2.2.2.1, .int (o13.2.2.2.2.2.2.1 + (1 : Int32)), .int o13.2.2.2.2.2.2.2.1, .int o13.2.2.2.2.2.2.2.2.1, .int t_deepest, .int t_fresh])), (h_t_signs, .inl (cI, 60, .inl t_signs))] := hD
                  refine lv_aload_n hx hb dX4_readRepeat_150 rfl (lv_at hl 5 rfl) ?_
                  refine lv_iload hx hb dX4_readRepeat_151 (lv_at hl 2 rfl) ?_
                  refine lv_iload hx hb dX4_readRepeat_153 (lv_at hl 0 rfl) ?_
                  refine lv_iload hx hb dX4_readRepeat_155 (lv_at hl 3 rfl) ?_
                  refine lv_imul hx hb dX4_readRepeat_157 ?_
                  obtain ⟨o19, ho19, hres⟩ := bd_of hres
                  have hPc := hP.sub (ws' := [(h_t, .inr (3, [.ref h_t_signs, .ref h_t_letters, .int t_length, .int o16.2.1, .int o13.2.2.1, .int o16.2.2.1, .int o16.2.2.2, .int o13.2.2.2.2.2.1, .int (o13.2.2.2.2.2.2.1 + (1 : Int32)), .int o13.2.2.2.2.2.2.2.1, .int o13.2.2.2.2.2.2.2.2.1, .int t_deepest, .int t_fresh])), (h_t_letters, .inl (cI, 744, .inl o13.2.2.2.2.2.2.2.2.2))]) [1, 0] rfl
                  have hDc := hD.sub (ws' := [(h_t, .inr (3, [.ref h_t_signs, .ref h_t_letters, .int t_length, .int o16.2.1, .int o13.2.2.1, .int o16.2.2.1, .int o16.2.2.2, .int o13.2.2.2.2.2.1, .int (o13.2.2.2.2.2.2.1 + (1 : Int32)), .int o13.2.2.2.2.2.2.2.1, .int o13.2.2.2.2.2.2.2.2.1, .int t_deepest, .int t_fresh])), (h_t_letters, .inl (cI, 744, .inl o13.2.2.2.2.2.2.2.2.2))]) [1, 0] (by decide) rfl
                  have hFc := va_free (wc := [(h_t, .inr (3, [.ref h_t_signs, .ref h_t_letters, .int t_length, .int o16.2.1, .int o13.2.2.1, .int o16.2.2.1, .int o16.2.2.2, .int o13.2.2.2.2.2.1, .int (o13.2.2.2.2.2.2.1 + (1 : Int32)), .int o13.2.2.2.2.2.2.2.1, .int o13.2.2.2.2.2.2.2.2.1, .int t_deepest, .int t_fresh])), (h_t_letters, .inl (cI, 744, .inl o13.2.2.2.2.2.2.2.2.2))]) hD hS hA [1, 0] rfl
                  refine va_callv (va_runV (As := [.int t_size, .int ((o13.2.2.1 - t_size) * o8.1)]) (rest := []) ⟨hx, hb, hml, hown, hts⟩ (cRd_unfold l dC dI cI cJ cC cS h_t h_t_signs h_t_letters H.size t_length o16.2.1 o13.2.2.1 o16.2.2.1 o16.2.2.2 o13.2.2.2.2.2.1 (o13.2.2.2.2.2.2.1 + (1 : Int32)) o13.2.2.2.2.2.2.2.1 o13.2.2.2.2.2.2.2.2.1 t_deepest t_fresh o13.2.2.2.2.2.2.2.2.2 t_size ((o13.2.2.1 - t_size) * o8.1) o19.1 o19.2 ho19) (cwV 2 hts gX4_readRepeat_X4_unfold rfl rfl rfl (by decide +kernel) ⟨by show 1 + 1 ≤ F + 6; omega, by show 8 + (5 + 11) + 22 ≤ L + 132; omega⟩) ⟨fun a U g mk q => by obtain ⟨q0, q1, qP, qK, qN, qD⟩ := q; exact ⟨q0, q1, qP, va_K.moved (u := U) (U := U.calling g mk a) (Vm.Alike.refl U.vm) qK, nwS (u := U) (U := U.calling g mk a) rfl qN, qD⟩, va_recv hK hPc (ci := 3) (q0 := 0) rfl rfl, fun U hU hW => ⟨rfl, by rw [hU], by rw [hU]; exact hPc, va_K.moved hW.alike hK, nwW hW hN, hDc.weaken (fun _ _ _ _ => trivial)⟩⟩ rfl rfl hl.1 rfl (lv_room (Nat.le_of_ble_eq_true rfl)) dX4_readRepeat_158 ⟨Nat.zero_le _, Nat.zero_le _⟩) hS (fun q _ h => hFc q h) hFc (fun u9 t H1 locs ht hvm hw hB hz1 hk1 hS => ?_)
                  obtain ⟨hP1, hK1, hD1⟩ := hB
                  rw [ht] at hP1
                  obtain ⟨hP, hD⟩ := va_join (wr := [(h_t_signs, .inl (cI, 60, .inl t_signs))]) (w1 := [(h_t, .inr (3, [.ref h_t_signs, .ref h_t_letters, .int t_length, .int o16.2.1, .int o19.1, .int o16.2.2.1, .int o16.2.2.2, .int o13.2.2.2.2.2.1, .int (o13.2.2.2.2.2.2.1 + (1 : Int32)), .int o13.2.2.2.2.2.2.2.1, .int o13.2.2.2.2.2.2.2.2.1, .int t_deepest, .int t_fresh])), (h_t_letters, .inl (cI, 744, .inl o19.2))]) hP hD [1, 0] [2] rfl rfl (by decide) (by decide) hk1 hFc hP1 hD1
                  generalize H1 = H at hP hS ⊢
                  have hP : va_P (dC, dI) vwCl [(h_t_signs, .inl (cI, 60, .inl t_signs)), (h_t, .inr (3, [.ref h_t_signs, .ref h_t_letters, .int t_length, .int o16.2.1, .int o19.1, .int o16.2.2.1, .int o16.2.2.2, .int o13.2.2.2.2.2.1, .int (o13.2.2.2.2.2.2.1 + (1 : Int32)), .int o13.2.2.2.2.2.2.2.1, .int o13.2.2.2.2.2.2.2.2.1, .int t_deepest, .int t_fresh])), (h_t_letters, .inl (cI, 744, .inl o19.2))] H := hP
                  have hD : va_D A [(h_t_signs, .inl (cI, 60, .inl t_signs)), (h_t, .inr (3, [.ref h_t_signs, .ref h_t_letters, .int t_length, .int o16.2.1, .int o19.1, .int o16.2.2.1, .int o16.2.2.2, .int o13.2.2.2.2.2.1, .int (o13.2.2.2.2.2.2.1 + (1 : Int32)), .int o13.2.2.2.2.2.2.2.1, .int o13.2.2.2.2.2.2.2.2.1, .int t_deepest, .int t_fresh])), (h_t_letters, .inl (cI, 744, .inl o19.2))] := hD
                  refine lv_aload_n hx hb dX4_readRepeat_161 rfl (lv_at hl 5 rfl) ?_
                  refine lv_iload hx hb dX4_readRepeat_162 (lv_at hl 2 rfl) ?_
                  refine lv_iload hx hb dX4_readRepeat_164 (lv_at hl 0 rfl) ?_
                  obtain ⟨o20, ho20, hres⟩ := bd_of hres
                  have hPc := hP.sub (ws' := [(h_t, .inr (3, [.ref h_t_signs, .ref h_t_letters, .int t_length, .int o16.2.1, .int o19.1, .int o16.2.2.1, .int o16.2.2.2, .int o13.2.2.2.2.2.1, .int (o13.2.2.2.2.2.2.1 + (1 : Int32)), .int o13.2.2.2.2.2.2.2.1, .int o13.2.2.2.2.2.2.2.2.1, .int t_deepest, .int t_fresh])), (h_t_letters, .inl (cI, 744, .inl o19.2)), (h_t_signs, .inl (cI, 60, .inl t_signs))]) [1, 2, 0] rfl
                  have hDc := hD.sub (ws' := [(h_t, .inr (3, [.ref h_t_signs, .ref h_t_letters, .int t_length, .int o16.2.1, .int o19.1, .int o16.2.2.1, .int o16.2.2.2, .int o13.2.2.2.2.2.1, .int (o13.2.2.2.2.2.2.1 + (1 : Int32)), .int o13.2.2.2.2.2.2.2.1, .int o13.2.2.2.2.2.2.2.2.1, .int t_deepest, .int t_fresh])), (h_t_letters, .inl (cI, 744, .inl o19.2)), (h_t_signs, .inl (cI, 60, .inl t_signs))]) [1, 2, 0] (by decide) rfl
                  have hFc := va_free (wc := [(h_t, .inr (3, [.ref h_t_signs, .ref h_t_letters, .int t_length, .int o16.2.1, .int o19.1, .int o16.2.2.1, .int o16.2.2.2, .int o13.2.2.2.2.2.1, .int (o13.2.2.2.2.2.2.1 + (1 : Int32)), .int o13.2.2.2.2.2.2.2.1, .int o13.2.2.2.2.2.2.2.2.1, .int t_deepest, .int t_fresh])), (h_t_letters, .inl (cI, 744, .inl o19.2)), (h_t_signs, .inl (cI, 60, .inl t_signs))]) hD hS hA [1, 2, 0] rfl
                  refine va_callv (va_runV (As := [.int t_size, .int (o13.2.2.1 - t_size)]) (rest := []) ⟨hx, hb, hml, hown, hts⟩ (cRd_readCorrections l dC dI cI cJ cC cS h_t h_t_signs h_t_letters H.size t_length o16.2.1 o19.1 o16.2.2.1 o16.2.2.2 o13.2.2.2.2.2.1 (o13.2.2.2.2.2.2.1 + (1 : Int32)) o13.2.2.2.2.2.2.2.1 o13.2.2.2.2.2.2.2.2.1 t_deepest t_fresh o19.2 t_signs t_size (o13.2.2.1 - t_size) o20.1 o20.2.1 o20.2.2.1 o20.2.2.2.1 o20.2.2.2.2.1 o20.2.2.2.2.2 ho20) (cwV 2 hts gX4_readRepeat_X4_readCorrections rfl rfl rfl (by decide +kernel) ⟨by show 3 + 1 ≤ F + 6; omega, by show 8 + (5 + 11) + 68 ≤ L + 132; omega⟩) ⟨fun a U g mk q => by obtain ⟨q0, q1, qP, qK, qN, qD⟩ := q; exact ⟨q0, q1, qP, va_K.moved (u := U) (U := U.calling g mk a) (Vm.Alike.refl U.vm) qK, nwS (u := U) (U := U.calling g mk a) rfl qN, qD⟩, va_recv hK hPc (ci := 3) (q0 := 0) rfl rfl, fun U hU hW => ⟨rfl, by rw [hU], by rw [hU]; exact hPc, va_K.moved hW.alike hK, nwW hW hN, hDc.weaken (fun _ _ _ _ => trivial)⟩⟩ rfl rfl hl.1 rfl (lv_room (Nat.le_of_ble_eq_true rfl)) dX4_readRepeat_166 ⟨Nat.zero_le _, Nat.zero_le _⟩) hS (fun q _ h => hFc q h) hFc (fun u9 t H1 locs ht hvm hw hB hz1 hk1 hS => ?_)
                  obtain ⟨hP1, hK1, hD1⟩ := hB
                  rw [ht] at hP1
                  obtain ⟨hP, hD⟩ := va_join (wr := []) (w1 := [(h_t, .inr (3, [.ref h_t_signs, .ref h_t_letters, .int t_length, .int o20.1, .int o19.1, .int o20.2.1, .int o20.2.2.1, .int o13.2.2.2.2.2.1, .int (o13.2.2.2.2.2.2.1 + (1 : Int32)), .int o20.2.2.2.1, .int o20.2.2.2.2.1, .int t_deepest, .int t_fresh])), (h_t_letters, .inl (cI, 744, .inl o20.2.2.2.2.2)), (h_t_signs, .inl (cI, 60, .inl t_signs))]) hP hD [1, 2, 0] [] rfl rfl (by decide) (by decide) hk1 hFc hP1 hD1
                  generalize H1 = H at hP hS ⊢
                  have hP : va_P (dC, dI) vwCl [(h_t, .inr (3, [.ref h_t_signs, .ref h_t_letters, .int t_length, .int o20.1, .int o19.1, .int o20.2.1, .int o20.2.2.1, .int o13.2.2.2.2.2.1, .int (o13.2.2.2.2.2.2.1 + (1 : Int32)), .int o20.2.2.2.1, .int o20.2.2.2.2.1, .int t_deepest, .int t_fresh])), (h_t_letters, .inl (cI, 744, .inl o20.2.2.2.2.2)), (h_t_signs, .inl (cI, 60, .inl t_signs))] H := hP
                  have hD : va_D A [(h_t, .inr (3, [.ref h_t_signs, .ref h_t_letters, .int t_length, .int o20.1, .int o19.1, .int o20.2.1, .int o20.2.2.1, .int o13.2.2.2.2.2.1, .int (o13.2.2.2.2.2.2.1 + (1 : Int32)), .int o20.2.2.2.1, .int o20.2.2.2.2.1, .int t_deepest, .int t_fresh])), (h_t_letters, .inl (cI, 744, .inl o20.2.2.2.2.2)), (h_t_signs, .inl (cI, 60, .inl t_signs))] := hD
                  refine lv_iload hx hb dX4_readRepeat_169 (lv_at hl 1 rfl) ?_
                  obtain ⟨e9_0, e9_1, e9_2, e9_3, e9_4, e9_5, e9_6, e9_7, e9_8, e9_9⟩ := tup10 hres
                  subst e9_0
                  subst e9_1
                  subst e9_2
                  subst e9_3
                  subst e9_4
                  subst e9_5
                  subst e9_6
                  subst e9_7
                  subst e9_8
                  subst e9_9
                  rw [← hQQ]
                  exact W.iret (v := ((1 : Int32) + o13.1)) hx hb hr (fun t ht hW => ⟨⟨((1 : Int32) + o13.1), (), rfl, rfl, by rw [ht]; exact hP, va_K.moved hW.alike hK, hD⟩, hS.F ht⟩) hS.2.2 dX4_readRepeat_171
                · have hres := ie_of hres c_18
                  refine lv_aload_n hx hb dX4_readRepeat_132 rfl (lv_at hl 5 rfl) ?_
                  refine lv_iload_n hx hb dX4_readRepeat_133 rfl (lv_at hl 4 rfl) ?_
                  refine lv_iconst (v := (4 : Int32)) hx hb dX4_readRepeat_134 (by decide) ?_
                  obtain ⟨o21, ho21, hres⟩ := bd_of hres
                  have hPc := hP.sub (ws' := [(h_t, .inr (3, [.ref h_t_signs, .ref h_t_letters, .int t_length, .int o16.2.1, .int o13.2.2.1, .int o16.2.2.1, .int o16.2.2.2, .int o13.2.2.2.2.2.1, .int o13.2.2.2.2.2.2.1, .int o13.2.2.2.2.2.2.2.1, .int o13.2.2.2.2.2.2.2.2.1, .int t_deepest, .int t_fresh]))]) [1] rfl
                  have hDc := hD.sub (ws' := [(h_t, .inr (3, [.ref h_t_signs, .ref h_t_letters, .int t_length, .int o16.2.1, .int o13.2.2.1, .int o16.2.2.1, .int o16.2.2.2, .int o13.2.2.2.2.2.1, .int o13.2.2.2.2.2.2.1, .int o13.2.2.2.2.2.2.2.1, .int o13.2.2.2.2.2.2.2.2.1, .int t_deepest, .int t_fresh]))]) [1] (by decide) rfl
                  have hFc := va_free (wc := [(h_t, .inr (3, [.ref h_t_signs, .ref h_t_letters, .int t_length, .int o16.2.1, .int o13.2.2.1, .int o16.2.2.1, .int o16.2.2.2, .int o13.2.2.2.2.2.1, .int o13.2.2.2.2.2.2.1, .int o13.2.2.2.2.2.2.2.1, .int o13.2.2.2.2.2.2.2.2.1, .int t_deepest, .int t_fresh]))]) hD hS hA [1] rfl
                  refine va_callv (va_runV (As := [.int t_at, .int (4 : Int32)]) (rest := []) ⟨hx, hb, hml, hown, hts⟩ (cRd_blame l dC dI cI cJ cC cS h_t h_t_signs h_t_letters H.size t_length o16.2.1 o13.2.2.1 o16.2.2.1 o16.2.2.2 o13.2.2.2.2.2.1 o13.2.2.2.2.2.2.1 o13.2.2.2.2.2.2.2.1 o13.2.2.2.2.2.2.2.2.1 t_deepest t_fresh t_at (4 : Int32) o21.1 o21.2 ho21) (cwV 2 hts gX4_readRepeat_X4_blame rfl rfl rfl (by decide +kernel) ⟨by show 0 + 1 ≤ F + 6; omega, by show 8 + (3 + 11) + 0 ≤ L + 132; omega⟩) ⟨fun a U g mk q => by obtain ⟨q0, q1, qP, qK, qN, qD⟩ := q; exact ⟨q0, q1, qP, va_K.moved (u := U) (U := U.calling g mk a) (Vm.Alike.refl U.vm) qK, nwS (u := U) (U := U.calling g mk a) rfl qN, qD⟩, va_recv hK hPc (ci := 3) (q0 := 0) rfl rfl, fun U hU hW => ⟨rfl, by rw [hU], by rw [hU]; exact hPc, va_K.moved hW.alike hK, nwW hW hN, hDc.weaken (fun _ _ _ _ => trivial)⟩⟩ rfl rfl hl.1 rfl (lv_room (Nat.le_of_ble_eq_true rfl)) dX4_readRepeat_135 ⟨Nat.zero_le _, Nat.zero_le _⟩) hS (fun q _ h => hFc q h) hFc (fun u9 t H1 locs ht hvm hw hB hz1 hk1 hS => ?_)
                  obtain ⟨hP1, hK1, hD1⟩ := hB
                  rw [ht] at hP1
                  obtain ⟨hP, hD⟩ := va_join (wr := [(h_t_letters, .inl (cI, 744, .inl o13.2.2.2.2.2.2.2.2.2)), (h_t_signs, .inl (cI, 60, .inl t_signs))]) (w1 := [(h_t, .inr (3, [.ref h_t_signs, .ref h_t_letters, .int t_length, .int o16.2.1, .int o13.2.2.1, .int o21.1, .int o21.2, .int o13.2.2.2.2.2.1, .int o13.2.2.2.2.2.2.1, .int o13.2.2.2.2.2.2.2.1, .int o13.2.2.2.2.2.2.2.2.1, .int t_deepest, .int t_fresh]))]) hP hD [1] [0, 2] rfl rfl (by decide) (by decide) hk1 hFc hP1 hD1
                  generalize H1 = H at hP hS ⊢
                  have hP : va_P (dC, dI) vwCl [(h_t_letters, .inl (cI, 744, .inl o13.2.2.2.2.2.2.2.2.2)), (h_t_signs, .inl (cI, 60, .inl t_signs)), (h_t, .inr (3, [.ref h_t_signs, .ref h_t_letters, .int t_length, .int o16.2.1, .int o13.2.2.1, .int o21.1, .int o21.2, .int o13.2.2.2.2.2.1, .int o13.2.2.2.2.2.2.1, .int o13.2.2.2.2.2.2.2.1, .int o13.2.2.2.2.2.2.2.2.1, .int t_deepest, .int t_fresh]))] H := hP
                  have hD : va_D A [(h_t_letters, .inl (cI, 744, .inl o13.2.2.2.2.2.2.2.2.2)), (h_t_signs, .inl (cI, 60, .inl t_signs)), (h_t, .inr (3, [.ref h_t_signs, .ref h_t_letters, .int t_length, .int o16.2.1, .int o13.2.2.1, .int o21.1, .int o21.2, .int o13.2.2.2.2.2.1, .int o13.2.2.2.2.2.2.1, .int o13.2.2.2.2.2.2.2.1, .int o13.2.2.2.2.2.2.2.2.1, .int t_deepest, .int t_fresh]))] := hD
                  refine lv_iconst (v := (0 : Int32)) hx hb dX4_readRepeat_138 (by decide) ?_
                  obtain ⟨e9_0, e9_1, e9_2, e9_3, e9_4, e9_5, e9_6, e9_7, e9_8, e9_9⟩ := tup10 hres
                  subst e9_0
                  subst e9_1
                  subst e9_2
                  subst e9_3
                  subst e9_4
                  subst e9_5
                  subst e9_6
                  subst e9_7
                  subst e9_8
                  subst e9_9
                  rw [← hQQ]
                  exact W.iret (v := (0 : Int32)) hx hb hr (fun t ht hW => ⟨⟨(0 : Int32), (), rfl, rfl, by rw [ht]; exact hP.sub [2, 0, 1] rfl, va_K.moved hW.alike hK, hD.sub [2, 0, 1] (by decide) rfl⟩, hS.F ht⟩) hS.2.2 dX4_readRepeat_139
              · have hres := it_of hres c_17
                refine lv_iconst (v := (0 : Int32)) hx hb dX4_readRepeat_106 (by decide) ?_
                obtain ⟨e9_0, e9_1, e9_2, e9_3, e9_4, e9_5, e9_6, e9_7, e9_8, e9_9⟩ := tup10 hres
                subst e9_0
                subst e9_1
                subst e9_2
                subst e9_3
                subst e9_4
                subst e9_5
                subst e9_6
                subst e9_7
                subst e9_8
                subst e9_9
                rw [← hQQ]
                exact W.iret (v := (0 : Int32)) hx hb hr (fun t ht hW => ⟨⟨(0 : Int32), (), rfl, rfl, by rw [ht]; exact hP.sub [1, 0, 2] rfl, va_K.moved hW.alike hK, hD.sub [1, 0, 2] (by decide) rfl⟩, hS.F ht⟩) hS.2.2 dX4_readRepeat_107
          · have hres := ie_of hres c_12
            exact hK65 t_at o9.2.1 t_size o9.2.2.1 o9.2.2.2 t_lettersTold t_repeatsTold t_correctionsTold t_mostCorrections t_letters H locs ls hres (hP.sub [1, 0, 2] rfl) (hD.sub [1, 0, 2] (by decide) rfl) hS (lv_sub hl [2, 1] rfl)
      · have hres := it_of hres c_10
        refine lv_iconst (v := (0 : Int32)) hx hb dX4_readRepeat_50 (by decide) ?_
        obtain ⟨e9_0, e9_1, e9_2, e9_3, e9_4, e9_5, e9_6, e9_7, e9_8, e9_9⟩ := tup10 hres
        subst e9_0
        subst e9_1
        subst e9_2
        subst e9_3
        subst e9_4
        subst e9_5
        subst e9_6
        subst e9_7
        subst e9_8
        subst e9_9
        rw [← hQQ]
        exact W.iret (v := (0 : Int32)) hx hb hr (fun t ht hW => ⟨⟨(0 : Int32), (), rfl, rfl, by rw [ht]; exact hP.sub [1, 0, 2] rfl, va_K.moved hW.alike hK, hD.sub [1, 0, 2] (by decide) rfl⟩, hS.F ht⟩) hS.2.2 dX4_readRepeat_51
    · have hres := it_of hres c_7
      exact hK24 t_at t_size t_faultPlace t_faultReason t_lettersTold t_repeatsTold t_correctionsTold t_mostCorrections t_letters H locs ls hres (hP.sub [1, 0, 2] rfl) (hD.sub [1, 0, 2] (by decide) rfl) hS (lv_sub hl [1] rfl)

-- Rd_readItems
theorem kRd_readItems_X4_readItems_0 : Cond.methodLink RX4 87 Lib.Math.max.name ∈ wsX4_readItems := by decide +kernel
theorem kRd_readItems_X4_readItems_1 : Cond.static Lib.Math.max.name ∈ wsX4_readItems := by decide +kernel
theorem kRd_readItems_X4_readItems_2 : Cond.initialized "java/lang/Math" ∈ wsX4_readItems := by decide +kernel
theorem kRd_readItems_X4_readItems_3 : Cond.code Lib.Math.max.name Lib.Math.max.code 2 (some .int) ∈ wsX4_readItems := by decide +kernel
theorem kRd_readItems_X4_readItems_4 : Cond.fieldLink RX4 22 "RepeatNests$Reader" "at" "I" ∈ wsX4_readItems := by decide +kernel
theorem iRd_readItems_X4_readItems_5 : ∀ w ∈ wsX40, w ∈ wsX4_readItems := by decide +kernel
theorem kRd_readItems_X4_readItems_6 : Cond.fieldLink RX4 18 "RepeatNests$Reader" "length" "I" ∈ wsX4_readItems := by decide +kernel
theorem kRd_readItems_X4_readItems_7 : Cond.fieldLink RX4 25 "RepeatNests$Reader" "size" "I" ∈ wsX4_readItems := by decide +kernel
set_option maxHeartbeats 4000000 in
set_option maxRecDepth 100000 in
theorem cRd_readItemsB (l : Launch) (F L : Nat) (gRd_readRepeat : Int32 → Int32 → Int32 → Int32 → Int32 → Int32 → Int32 → Int32 → Int32 → Int32 → Int32 → (Nat → Int32) → (Nat → Int32) → Int32 → Int32 → Option (Int32 × Int32 × Int32 × Int32 × Int32 × Int32 × Int32 × Int32 × Int32 × (Nat → Int32))) (hgRd_readRepeat : ∀ (dC : Nat → ClassId) (dI : Nat → Nat → Nat) (cI cJ cC cS : ClassId) (h_t h_t_signs h_t_letters : Nat) (sz : Nat) (t_length : Int32) (t_at : Int32) (t_size : Int32) (t_faultPlace : Int32) (t_faultReason : Int32) (t_lettersTold : Int32) (t_repeatsTold : Int32) (t_correctionsTold : Int32) (t_mostCorrections : Int32) (t_deepest : Int32) (t_fresh : Int32) (t_letters : Nat → Int32) (t_signs : Nat → Int32) (x1 : Int32) (x2 : Int32) (r : Int32) (y_t_at : Int32) (y_t_size : Int32) (y_t_faultPlace : Int32) (y_t_faultReason : Int32) (y_t_lettersTold : Int32) (y_t_repeatsTold : Int32) (y_t_correctionsTold : Int32) (y_t_mostCorrections : Int32) (y_t_letters : Nat → Int32) (hres : gRd_readRepeat t_length t_at t_size t_faultPlace t_faultReason t_lettersTold t_repeatsTold t_correctionsTold t_mostCorrections t_deepest t_fresh t_letters t_signs x1 x2 = some (r, y_t_at, y_t_size, y_t_faultPlace, y_t_faultReason, y_t_lettersTold, y_t_repeatsTold, y_t_correctionsTold, y_t_mostCorrections, y_t_letters)), Met l yX4_readRepeat wsX4_readRepeat ({ frames := F, cells := 0, slots := 0, locals := L } : Room) (va_Pc [.ref h_t, .int x1, .int x2] (fun (U : State) => U.heap.size = sz ∧ va_P (dC, dI) vwCl [(h_t, .inr (3, [.ref h_t_signs, .ref h_t_letters, .int t_length, .int t_at, .int t_size, .int t_faultPlace, .int t_faultReason, .int t_lettersTold, .int t_repeatsTold, .int t_correctionsTold, .int t_mostCorrections, .int t_deepest, .int t_fresh])), (h_t_letters, .inl (cI, 744, .inl t_letters)), (h_t_signs, .inl (cI, 60, .inl t_signs))] U.heap ∧ va_K (dC, dI) vwCl (tyA cI cJ cC cS) U ∧ nwN U ∧ va_D (fun _ => True) [(h_t, .inr (3, [.ref h_t_signs, .ref h_t_letters, .int t_length, .int t_at, .int t_size, .int t_faultPlace, .int t_faultReason, .int t_lettersTold, .int t_repeatsTold, .int t_correctionsTold, .int t_mostCorrections, .int t_deepest, .int t_fresh])), (h_t_letters, .inl (cI, 744, .inl t_letters)), (h_t_signs, .inl (cI, 60, .inl t_signs))])) (va_Qi (fun (r9 : Int32) (_ : Unit) => r9 = r) (fun (_ : Unit) (t : State) => va_P (dC, dI) vwCl [(h_t, .inr (3, [.ref h_t_signs, .ref h_t_letters, .int t_length, .int y_t_at, .int y_t_size, .int y_t_faultPlace, .int y_t_faultReason, .int y_t_lettersTold, .int y_t_repeatsTold, .int y_t_correctionsTold, .int y_t_mostCorrections, .int t_deepest, .int t_fresh])), (h_t_letters, .inl (cI, 744, .inl y_t_letters)), (h_t_signs, .inl (cI, 60, .inl t_signs))] t.heap ∧ va_K (dC, dI) vwCl (tyA cI cJ cC cS) t ∧ va_D (va_A [(h_t, .inr (3, [.ref h_t_signs, .ref h_t_letters, .int t_length, .int t_at, .int t_size, .int t_faultPlace, .int t_faultReason, .int t_lettersTold, .int t_repeatsTold, .int t_correctionsTold, .int t_mostCorrections, .int t_deepest, .int t_fresh])), (h_t_letters, .inl (cI, 744, .inl t_letters)), (h_t_signs, .inl (cI, 60, .inl t_signs))] sz) [(h_t, .inr (3, [.ref h_t_signs, .ref h_t_letters, .int t_length, .int y_t_at, .int y_t_size, .int y_t_faultPlace, .int y_t_faultReason, .int y_t_lettersTold, .int y_t_repeatsTold, .int y_t_correctionsTold, .int y_t_mostCorrections, .int t_deepest, .int t_fresh])), (h_t_letters, .inl (cI, 744, .inl y_t_letters)), (h_t_signs, .inl (cI, 60, .inl t_signs))]) (va_A [(h_t, .inr (3, [.ref h_t_signs, .ref h_t_letters, .int t_length, .int t_at, .int t_size, .int t_faultPlace, .int t_faultReason, .int t_lettersTold, .int t_repeatsTold, .int t_correctionsTold, .int t_mostCorrections, .int t_deepest, .int t_fresh])), (h_t_letters, .inl (cI, 744, .inl t_letters)), (h_t_signs, .inl (cI, 60, .inl t_signs))] sz)) 0 0 (va_A [(h_t, .inr (3, [.ref h_t_signs, .ref h_t_letters, .int t_length, .int t_at, .int t_size, .int t_faultPlace, .int t_faultReason, .int t_lettersTold, .int t_repeatsTold, .int t_correctionsTold, .int t_mostCorrections, .int t_deepest, .int t_fresh])), (h_t_letters, .inl (cI, 744, .inl t_letters)), (h_t_signs, .inl (cI, 60, .inl t_signs))] sz))  (dC : Nat → ClassId) (dI : Nat → Nat → Nat) (cI cJ cC cS : ClassId) (h_t h_t_signs h_t_letters : Nat) (sz : Nat) (t_length : Int32) (t_at : Int32) (t_size : Int32) (t_faultPlace : Int32) (t_faultReason : Int32) (t_lettersTold : Int32) (t_repeatsTold : Int32) (t_correctionsTold : Int32) (t_mostCorrections : Int32) (t_deepest : Int32) (t_fresh : Int32) (t_letters : Nat → Int32) (t_signs : Nat → Int32) (x1 : Int32) (r : Int32) (y_t_at : Int32) (y_t_size : Int32) (y_t_faultPlace : Int32) (y_t_faultReason : Int32) (y_t_lettersTold : Int32) (y_t_repeatsTold : Int32) (y_t_correctionsTold : Int32) (y_t_mostCorrections : Int32) (y_t_letters : Nat → Int32) (hres : fRd_readItemsB gRd_readRepeat t_length t_at t_size t_faultPlace t_faultReason t_lettersTold t_repeatsTold t_correctionsTold t_mostCorrections t_deepest t_fresh t_letters t_signs x1 = some (r, y_t_at, y_t_size, y_t_faultPlace, y_t_faultReason, y_t_lettersTold, y_t_repeatsTold, y_t_correctionsTold, y_t_mostCorrections, y_t_letters)) :
    Met l yX4_readItems wsX4_readItems ({ frames := F + 4, cells := 0, slots := 0, locals := L + 83 } : Room) (va_Pc [.ref h_t, .int x1] (fun (U : State) => U.heap.size = sz ∧ va_P (dC, dI) vwCl [(h_t, .inr (3, [.ref h_t_signs, .ref h_t_letters, .int t_length, .int t_at, .int t_size, .int t_faultPlace, .int t_faultReason, .int t_lettersTold, .int t_repeatsTold, .int t_correctionsTold, .int t_mostCorrections, .int t_deepest, .int t_fresh])), (h_t_letters, .inl (cI, 744, .inl t_letters)), (h_t_signs, .inl (cI, 60, .inl t_signs))] U.heap ∧ va_K (dC, dI) vwCl (tyA cI cJ cC cS) U ∧ nwN U ∧ va_D (fun _ => True) [(h_t, .inr (3, [.ref h_t_signs, .ref h_t_letters, .int t_length, .int t_at, .int t_size, .int t_faultPlace, .int t_faultReason, .int t_lettersTold, .int t_repeatsTold, .int t_correctionsTold, .int t_mostCorrections, .int t_deepest, .int t_fresh])), (h_t_letters, .inl (cI, 744, .inl t_letters)), (h_t_signs, .inl (cI, 60, .inl t_signs))])) (va_Qi (fun (r9 : Int32) (_ : Unit) => r9 = r) (fun (_ : Unit) (t : State) => va_P (dC, dI) vwCl [(h_t, .inr (3, [.ref h_t_signs, .ref h_t_letters, .int t_length, .int y_t_at, .int y_t_size, .int y_t_faultPlace, .int y_t_faultReason, .int y_t_lettersTold, .int y_t_repeatsTold, .int y_t_correctionsTold, .int y_t_mostCorrections, .int t_deepest, .int t_fresh])), (h_t_letters, .inl (cI, 744, .inl y_t_letters)), (h_t_signs, .inl (cI, 60, .inl t_signs))] t.heap ∧ va_K (dC, dI) vwCl (tyA cI cJ cC cS) t ∧ va_D (va_A [(h_t, .inr (3, [.ref h_t_signs, .ref h_t_letters, .int t_length, .int t_at, .int t_size, .int t_faultPlace, .int t_faultReason, .int t_lettersTold, .int t_repeatsTold, .int t_correctionsTold, .int t_mostCorrections, .int t_deepest, .int t_fresh])), (h_t_letters, .inl (cI, 744, .inl t_letters)), (h_t_signs, .inl (cI, 60, .inl t_signs))] sz) [(h_t, .inr (3, [.ref h_t_signs, .ref h_t_letters, .int t_length, .int y_t_at, .int y_t_size, .int y_t_faultPlace, .int y_t_faultReason, .int y_t_lettersTold, .int y_t_repeatsTold, .int y_t_correctionsTold, .int y_t_mostCorrections, .int t_deepest, .int t_fresh])), (h_t_letters, .inl (cI, 744, .inl y_t_letters)), (h_t_signs, .inl (cI, 60, .inl t_signs))]) (va_A [(h_t, .inr (3, [.ref h_t_signs, .ref h_t_letters, .int t_length, .int t_at, .int t_size, .int t_faultPlace, .int t_faultReason, .int t_lettersTold, .int t_repeatsTold, .int t_correctionsTold, .int t_mostCorrections, .int t_deepest, .int t_fresh])), (h_t_letters, .inl (cI, 744, .inl t_letters)), (h_t_signs, .inl (cI, 60, .inl t_signs))] sz)) 0 0 (va_A [(h_t, .inr (3, [.ref h_t_signs, .ref h_t_letters, .int t_length, .int t_at, .int t_size, .int t_faultPlace, .int t_faultReason, .int t_lettersTold, .int t_repeatsTold, .int t_correctionsTold, .int t_mostCorrections, .int t_deepest, .int t_fresh])), (h_t_letters, .inl (cI, 744, .inl t_letters)), (h_t_signs, .inl (cI, 60, .inl t_signs))] sz) := by
  refine Met.ofW (cc := cX4_readItems) (maxL := 6) (ret := (some .int)) (by decide) rfl ?_
  intro p e s m args below meth c s₁ B hml hv
  obtain ⟨hargs, hsz, hP, hK, hN, hD0⟩ := hv
  have hx := B.exec
  have hb := B.bytes
  have hr := B.returns
  have hts := atoms_spec (ws := wsX4_readItems) B.pre
  have hown : s.vm.findClass RX4 = some m.cls := findClass_of_methodNamed B.named
  have hlocks := B.notSynchronized
  subst hsz
  have hD := hD0.self (sz := s.heap.size)
  generalize hAe : va_A [(h_t, .inr (3, [.ref h_t_signs, .ref h_t_letters, .int t_length, .int t_at, .int t_size, .int t_faultPlace, .int t_faultReason, .int t_lettersTold, .int t_repeatsTold, .int t_correctionsTold, .int t_mostCorrections, .int t_deepest, .int t_fresh])), (h_t_letters, .inl (cI, 744, .inl t_letters)), (h_t_signs, .inl (cI, 60, .inl t_signs))] s.heap.size = A at hD ⊢
  have hA : ∀ q : Nat, s.heap.size ≤ q → A q := fun q h => by rw [← hAe]; exact Or.inr h
  have hS : va_S A s.heap s.heap [] := va_S.rf
  have hP : va_P (dC, dI) vwCl [(h_t, .inr (3, [.ref h_t_signs, .ref h_t_letters, .int t_length, .int t_at, .int t_size, .int t_faultPlace, .int t_faultReason, .int t_lettersTold, .int t_repeatsTold, .int t_correctionsTold, .int t_mostCorrections, .int t_deepest, .int t_fresh])), (h_t_letters, .inl (cI, 744, .inl t_letters)), (h_t_signs, .inl (cI, 60, .inl t_signs))] s.heap := hP
  have hl := lv_entry [.ref h_t, .int x1] (n := 6) (Nat.le_of_ble_eq_true rfl)
  rw [show entryFrame m args 6 = entryFrame m ([.ref h_t, .int x1] : List Value).toArray 6 from by rw [hargs], lg_entry_eq]
  generalize (lg_sl [.ref h_t, .int x1] ++ List.replicate (6 - (lg_sl [.ref h_t, .int x1]).length) Slot.unset).toArray = ls at hl ⊢
  have hl : lv_has ls 6 [(0, .ref h_t), (1, .int x1)] := hl
  generalize hQQ : MQ below (va_Qi (fun (r9 : Int32) (_ : Unit) => r9 = r) (fun (_ : Unit) (t : State) => va_P (dC, dI) vwCl [(h_t, .inr (3, [.ref h_t_signs, .ref h_t_letters, .int t_length, .int y_t_at, .int y_t_size, .int y_t_faultPlace, .int y_t_faultReason, .int y_t_lettersTold, .int y_t_repeatsTold, .int y_t_correctionsTold, .int y_t_mostCorrections, .int t_deepest, .int t_fresh])), (h_t_letters, .inl (cI, 744, .inl y_t_letters)), (h_t_signs, .inl (cI, 60, .inl t_signs))] t.heap ∧ va_K (dC, dI) vwCl (tyA cI cJ cC cS) t ∧ va_D A [(h_t, .inr (3, [.ref h_t_signs, .ref h_t_letters, .int t_length, .int y_t_at, .int y_t_size, .int y_t_faultPlace, .int y_t_faultReason, .int y_t_lettersTold, .int y_t_repeatsTold, .int y_t_correctionsTold, .int y_t_mostCorrections, .int t_deepest, .int t_fresh])), (h_t_letters, .inl (cI, 744, .inl y_t_letters)), (h_t_signs, .inl (cI, 60, .inl t_signs))]) A) args s 0 0 A = QQ
  obtain ⟨H, hH⟩ : ∃ H : Heap, H = s.heap := ⟨_, rfl⟩
  obtain ⟨locs, hlocs⟩ : ∃ locs : List Loc, locs = [] := ⟨_, rfl⟩
  rw [← hH] at hP
  have hS : va_S A s.heap H locs := by rw [hH, hlocs]; exact hS
  suffices hZ : W p l e (headSpec wsX4_readItems ({ frames := F + 4, cells := 0, slots := 0, locals := L + 83 } : Room)).room s m args below meth c H locs 0 0 QQ (F0 m 0 ls []) by rw [hH, hlocs] at hZ; exact hZ
  clear hH hlocs
  have hK111 : ∀ (x3 : Int32) (t_at : Int32) (t_size : Int32) (t_faultPlace : Int32) (t_faultReason : Int32) (t_lettersTold : Int32) (t_repeatsTold : Int32) (t_correctionsTold : Int32) (t_mostCorrections : Int32) (t_letters : Nat → Int32) (H : Heap) (locs : List Loc) (ls : Array Slot), fRd_readItems_111 x3 t_at t_size t_faultPlace t_faultReason t_lettersTold t_repeatsTold t_correctionsTold t_mostCorrections t_letters = some (r, y_t_at, y_t_size, y_t_faultPlace, y_t_faultReason, y_t_lettersTold, y_t_repeatsTold, y_t_correctionsTold, y_t_mostCorrections, y_t_letters) → va_P (dC, dI) vwCl [(h_t, .inr (3, [.ref h_t_signs, .ref h_t_letters, .int t_length, .int t_at, .int t_size, .int t_faultPlace, .int t_faultReason, .int t_lettersTold, .int t_repeatsTold, .int t_correctionsTold, .int t_mostCorrections, .int t_deepest, .int t_fresh])), (h_t_letters, .inl (cI, 744, .inl t_letters)), (h_t_signs, .inl (cI, 60, .inl t_signs))] H → va_D A [(h_t, .inr (3, [.ref h_t_signs, .ref h_t_letters, .int t_length, .int t_at, .int t_size, .int t_faultPlace, .int t_faultReason, .int t_lettersTold, .int t_repeatsTold, .int t_correctionsTold, .int t_mostCorrections, .int t_deepest, .int t_fresh])), (h_t_letters, .inl (cI, 744, .inl t_letters)), (h_t_signs, .inl (cI, 60, .inl t_signs))] → va_S A s.heap H locs → lv_has ls 6 [(0, .ref h_t), (3, .int x3)] → W p l e (headSpec wsX4_readItems ({ frames := F + 4, cells := 0, slots := 0, locals := L + 83 } : Room)).room s m args below meth c H locs 0 0 QQ (F0 m 111 ls []) := by
    intro x3 t_at t_size t_faultPlace t_faultReason t_lettersTold t_repeatsTold t_correctionsTold t_mostCorrections t_letters H locs ls hres hP hD hS hl
    rw [fRd_readItems_111] at hres
    refine lv_aload_n hx hb dX4_readItems_111 rfl (lv_at hl 0 rfl) ?_
    refine lv_aload_n hx hb dX4_readItems_112 rfl (lv_at hl 0 rfl) ?_
    refine va_get (D := (dC, dI)) (ci := 3) (v := .int t_at) (C := RX4) (T := TX4) (N := 13) hx hb hts iRd_readItems_X4_readItems_5 hown hK hP 0 rfl rfl 3 (by decide) (hts _ kRd_readItems_X4_readItems_4) (fun _ h9 => h9) rfl dX4_readItems_113 ?_
    refine lv_iconst (v := (1 : Int32)) hx hb dX4_readItems_116 (by decide) ?_
    obtain ⟨o15, ho15, hres⟩ := bd_of hres
    have hPc := hP.sub (ws' := [(h_t, .inr (3, [.ref h_t_signs, .ref h_t_letters, .int t_length, .int t_at, .int t_size, .int t_faultPlace, .int t_faultReason, .int t_lettersTold, .int t_repeatsTold, .int t_correctionsTold, .int t_mostCorrections, .int t_deepest, .int t_fresh]))]) [0] rfl
    have hDc := hD.sub (ws' := [(h_t, .inr (3, [.ref h_t_signs, .ref h_t_letters, .int t_length, .int t_at, .int t_size, .int t_faultPlace, .int t_faultReason, .int t_lettersTold, .int t_repeatsTold, .int t_correctionsTold, .int t_mostCorrections, .int t_deepest, .int t_fresh]))]) [0] (by decide) rfl
    have hFc := va_free (wc := [(h_t, .inr (3, [.ref h_t_signs, .ref h_t_letters, .int t_length, .int t_at, .int t_size, .int t_faultPlace, .int t_faultReason, .int t_lettersTold, .int t_repeatsTold, .int t_correctionsTold, .int t_mostCorrections, .int t_deepest, .int t_fresh]))]) hD hS hA [0] rfl
    refine va_callv (va_runV (As := [.int t_at, .int (1 : Int32)]) (rest := []) ⟨hx, hb, hml, hown, hts⟩ (cRd_blame l dC dI cI cJ cC cS h_t h_t_signs h_t_letters H.size t_length t_at t_size t_faultPlace t_faultReason t_lettersTold t_repeatsTold t_correctionsTold t_mostCorrections t_deepest t_fresh t_at (1 : Int32) o15.1 o15.2 ho15) (cwV 2 hts gX4_readItems_X4_blame rfl rfl rfl (by decide +kernel) ⟨by show 0 + 1 ≤ F + 4; omega, by show 8 + (3 + 11) + 0 ≤ L + 83; omega⟩) ⟨fun a U g mk q => by obtain ⟨q0, q1, qP, qK, qN, qD⟩ := q; exact ⟨q0, q1, qP, va_K.moved (u := U) (U := U.calling g mk a) (Vm.Alike.refl U.vm) qK, nwS (u := U) (U := U.calling g mk a) rfl qN, qD⟩, va_recv hK hPc (ci := 3) (q0 := 0) rfl rfl, fun U hU hW => ⟨rfl, by rw [hU], by rw [hU]; exact hPc, va_K.moved hW.alike hK, nwW hW hN, hDc.weaken (fun _ _ _ _ => trivial)⟩⟩ rfl rfl hl.1 rfl (lv_room (Nat.le_of_ble_eq_true rfl)) dX4_readItems_117 ⟨Nat.zero_le _, Nat.zero_le _⟩) hS (fun q _ h => hFc q h) hFc (fun u9 t H1 locs ht hvm hw hB hz1 hk1 hS => ?_)
    obtain ⟨hP1, hK1, hD1⟩ := hB
    rw [ht] at hP1
    obtain ⟨hP, hD⟩ := va_join (wr := [(h_t_letters, .inl (cI, 744, .inl t_letters)), (h_t_signs, .inl (cI, 60, .inl t_signs))]) (w1 := [(h_t, .inr (3, [.ref h_t_signs, .ref h_t_letters, .int t_length, .int t_at, .int t_size, .int o15.1, .int o15.2, .int t_lettersTold, .int t_repeatsTold, .int t_correctionsTold, .int t_mostCorrections, .int t_deepest, .int t_fresh]))]) hP hD [0] [1, 2] rfl rfl (by decide) (by decide) hk1 hFc hP1 hD1
    generalize H1 = H at hP hS ⊢
    have hP : va_P (dC, dI) vwCl [(h_t_letters, .inl (cI, 744, .inl t_letters)), (h_t_signs, .inl (cI, 60, .inl t_signs)), (h_t, .inr (3, [.ref h_t_signs, .ref h_t_letters, .int t_length, .int t_at, .int t_size, .int o15.1, .int o15.2, .int t_lettersTold, .int t_repeatsTold, .int t_correctionsTold, .int t_mostCorrections, .int t_deepest, .int t_fresh]))] H := hP
    have hD : va_D A [(h_t_letters, .inl (cI, 744, .inl t_letters)), (h_t_signs, .inl (cI, 60, .inl t_signs)), (h_t, .inr (3, [.ref h_t_signs, .ref h_t_letters, .int t_length, .int t_at, .int t_size, .int o15.1, .int o15.2, .int t_lettersTold, .int t_repeatsTold, .int t_correctionsTold, .int t_mostCorrections, .int t_deepest, .int t_fresh]))] := hD
    refine lv_iload_n hx hb dX4_readItems_120 rfl (lv_at hl 1 rfl) ?_
    obtain ⟨e9_0, e9_1, e9_2, e9_3, e9_4, e9_5, e9_6, e9_7, e9_8, e9_9⟩ := tup10 hres
    subst e9_0
    subst e9_1
    subst e9_2
    subst e9_3
    subst e9_4
    subst e9_5
    subst e9_6
    subst e9_7
    subst e9_8
    subst e9_9
    rw [← hQQ]
    exact W.iret (v := x3) hx hb hr (fun t ht hW => ⟨⟨x3, (), rfl, rfl, by rw [ht]; exact hP.sub [2, 0, 1] rfl, va_K.moved hW.alike hK, hD.sub [2, 0, 1] (by decide) rfl⟩, hS.F ht⟩) hS.2.2 dX4_readItems_121
  have hL10 : ∀ (n10 : Nat) , ∀ (x2 : Int32) (x3 : Int32) (x4 : Int32) (t_at : Int32) (t_size : Int32) (t_faultPlace : Int32) (t_faultReason : Int32) (t_lettersTold : Int32) (t_repeatsTold : Int32) (t_correctionsTold : Int32) (t_mostCorrections : Int32) (t_letters : Nat → Int32) (H : Heap) (locs : List Loc) (ls : Array Slot), fRd_readItems_10 gRd_readRepeat t_length t_deepest t_fresh t_signs x1 n10 x2 x3 x4 t_at t_size t_faultPlace t_faultReason t_lettersTold t_repeatsTold t_correctionsTold t_mostCorrections t_letters = some (r, y_t_at, y_t_size, y_t_faultPlace, y_t_faultReason, y_t_lettersTold, y_t_repeatsTold, y_t_correctionsTold, y_t_mostCorrections, y_t_letters) → va_P (dC, dI) vwCl [(h_t, .inr (3, [.ref h_t_signs, .ref h_t_letters, .int t_length, .int t_at, .int t_size, .int t_faultPlace, .int t_faultReason, .int t_lettersTold, .int t_repeatsTold, .int t_correctionsTold, .int t_mostCorrections, .int t_deepest, .int t_fresh])), (h_t_letters, .inl (cI, 744, .inl t_letters)), (h_t_signs, .inl (cI, 60, .inl t_signs))] H → va_D A [(h_t, .inr (3, [.ref h_t_signs, .ref h_t_letters, .int t_length, .int t_at, .int t_size, .int t_faultPlace, .int t_faultReason, .int t_lettersTold, .int t_repeatsTold, .int t_correctionsTold, .int t_mostCorrections, .int t_deepest, .int t_fresh])), (h_t_letters, .inl (cI, 744, .inl t_letters)), (h_t_signs, .inl (cI, 60, .inl t_signs))] → va_S A s.heap H locs → lv_has ls 6 [(0, .ref h_t), (1, .int x1), (2, .int x2), (3, .int x3), (4, .int x4)] → W p l e (headSpec wsX4_readItems ({ frames := F + 4, cells := 0, slots := 0, locals := L + 83 } : Room)).room s m args below meth c H locs 0 0 QQ (F0 m 10 ls []) := by
    intro n10
    induction n10 with
    | zero =>
      intro x2 x3 x4 t_at t_size t_faultPlace t_faultReason t_lettersTold t_repeatsTold t_correctionsTold t_mostCorrections t_letters H locs ls hres
      rw [fRd_readItems_10] at hres
      cases hres
    | succ n10 ih10 =>
      have hK89 : ∀ (x2 : Int32) (x3 : Int32) (x4 : Int32) (s0 : Int32) (t_at : Int32) (t_size : Int32) (t_faultPlace : Int32) (t_faultReason : Int32) (t_lettersTold : Int32) (t_repeatsTold : Int32) (t_correctionsTold : Int32) (t_mostCorrections : Int32) (t_letters : Nat → Int32) (H : Heap) (locs : List Loc) (ls : Array Slot), fRd_readItems_89 (fRd_readItems_10 gRd_readRepeat t_length t_deepest t_fresh t_signs x1 n10) x2 x3 x4 s0 t_at t_size t_faultPlace t_faultReason t_lettersTold t_repeatsTold t_correctionsTold t_mostCorrections t_letters = some (r, y_t_at, y_t_size, y_t_faultPlace, y_t_faultReason, y_t_lettersTold, y_t_repeatsTold, y_t_correctionsTold, y_t_mostCorrections, y_t_letters) → va_P (dC, dI) vwCl [(h_t, .inr (3, [.ref h_t_signs, .ref h_t_letters, .int t_length, .int t_at, .int t_size, .int t_faultPlace, .int t_faultReason, .int t_lettersTold, .int t_repeatsTold, .int t_correctionsTold, .int t_mostCorrections, .int t_deepest, .int t_fresh])), (h_t_letters, .inl (cI, 744, .inl t_letters)), (h_t_signs, .inl (cI, 60, .inl t_signs))] H → va_D A [(h_t, .inr (3, [.ref h_t_signs, .ref h_t_letters, .int t_length, .int t_at, .int t_size, .int t_faultPlace, .int t_faultReason, .int t_lettersTold, .int t_repeatsTold, .int t_correctionsTold, .int t_mostCorrections, .int t_deepest, .int t_fresh])), (h_t_letters, .inl (cI, 744, .inl t_letters)), (h_t_signs, .inl (cI, 60, .inl t_signs))] → va_S A s.heap H locs → lv_has ls 6 [(0, .ref h_t), (1, .int x1), (2, .int x2), (3, .int x3), (4, .int x4)] → W p l e (headSpec wsX4_readItems ({ frames := F + 4, cells := 0, slots := 0, locals := L + 83 } : Room)).room s m args below meth c H locs 0 0 QQ (F0 m 89 ls [.int s0]) := by
        intro x2 x3 x4 s0 t_at t_size t_faultPlace t_faultReason t_lettersTold t_repeatsTold t_correctionsTold t_mostCorrections t_letters H locs ls hres hP hD hS hl
        rw [fRd_readItems_89] at hres
        refine lv_istore (lv' := [(5, .int s0), (0, .ref h_t), (1, .int x1), (2, .int x2), (3, .int x3), (4, .int x4)]) hx hb dX4_readItems_89 hl (by decide) rfl (fun ls hl => ?_)
        refine lv_iload hx hb dX4_readItems_91 (lv_at hl 0 rfl) ?_
        refine lv_if_ne (tgt := 103) hx hb dX4_readItems_93 (by decide) (fun c_1 => ?_) (fun c_1 => ?_)
        · have hres := ie_of hres c_1
          refine lv_iload_n hx hb dX4_readItems_103 rfl (lv_at hl 4 rfl) ?_
          obtain ⟨e9_0, e9_1, e9_2, e9_3, e9_4, e9_5, e9_6, e9_7, e9_8, e9_9⟩ := tup10 hres
          subst e9_0
          subst e9_1
          subst e9_2
          subst e9_3
          subst e9_4
          subst e9_5
          subst e9_6
          subst e9_7
          subst e9_8
          subst e9_9
          rw [← hQQ]
          exact W.iret (v := x3) hx hb hr (fun t ht hW => ⟨⟨x3, (), rfl, rfl, by rw [ht]; exact hP, va_K.moved hW.alike hK, hD⟩, hS.F ht⟩) hS.2.2 dX4_readItems_104
        · have hres := it_of hres c_1
          refine lv_aload_n hx hb dX4_readItems_96 rfl (lv_at hl 1 rfl) ?_
          obtain ⟨o2, ho2, hres⟩ := bd_of hres
          have hPc := hP.sub (ws' := [(h_t, .inr (3, [.ref h_t_signs, .ref h_t_letters, .int t_length, .int t_at, .int t_size, .int t_faultPlace, .int t_faultReason, .int t_lettersTold, .int t_repeatsTold, .int t_correctionsTold, .int t_mostCorrections, .int t_deepest, .int t_fresh]))]) [0] rfl
          have hDc := hD.sub (ws' := [(h_t, .inr (3, [.ref h_t_signs, .ref h_t_letters, .int t_length, .int t_at, .int t_size, .int t_faultPlace, .int t_faultReason, .int t_lettersTold, .int t_repeatsTold, .int t_correctionsTold, .int t_mostCorrections, .int t_deepest, .int t_fresh]))]) [0] (by decide) rfl
          have hFc := va_free (wc := [(h_t, .inr (3, [.ref h_t_signs, .ref h_t_letters, .int t_length, .int t_at, .int t_size, .int t_faultPlace, .int t_faultReason, .int t_lettersTold, .int t_repeatsTold, .int t_correctionsTold, .int t_mostCorrections, .int t_deepest, .int t_fresh]))]) hD hS hA [0] rfl
          refine va_calli (va_runV (As := []) (rest := []) ⟨hx, hb, hml, hown, hts⟩ (cRd_hasFault l dC dI cI cJ cC cS h_t h_t_signs h_t_letters H.size t_length t_at t_size t_faultPlace t_faultReason t_lettersTold t_repeatsTold t_correctionsTold t_mostCorrections t_deepest t_fresh o2 ho2) (cwV 0 hts gX4_readItems_X4_hasFault rfl rfl rfl (by decide +kernel) ⟨by show 0 + 1 ≤ F + 4; omega, by show 8 + (1 + 11) + 0 ≤ L + 83; omega⟩) ⟨fun a U g mk q => by obtain ⟨q0, q1, qP, qK, qN, qD⟩ := q; exact ⟨q0, q1, qP, va_K.moved (u := U) (U := U.calling g mk a) (Vm.Alike.refl U.vm) qK, nwS (u := U) (U := U.calling g mk a) rfl qN, qD⟩, va_recv hK hPc (ci := 3) (q0 := 0) rfl rfl, fun U hU hW => ⟨rfl, by rw [hU], by rw [hU]; exact hPc, va_K.moved hW.alike hK, nwW hW hN, hDc.weaken (fun _ _ _ _ => trivial)⟩⟩ rfl rfl hl.1 rfl (lv_room (Nat.le_of_ble_eq_true rfl)) dX4_readItems_97 ⟨Nat.zero_le _, Nat.zero_le _⟩) hS (fun q _ h => hFc q h) hFc (fun r9 u9 t H1 locs ht hvm hw hB hz1 hk1 hS => ?_)
          have hw := hw.symm
          subst hw
          obtain ⟨hP1, hK1, hD1⟩ := hB
          rw [ht] at hP1
          obtain ⟨hP, hD⟩ := va_join (wr := [(h_t_letters, .inl (cI, 744, .inl t_letters)), (h_t_signs, .inl (cI, 60, .inl t_signs))]) (w1 := [(h_t, .inr (3, [.ref h_t_signs, .ref h_t_letters, .int t_length, .int t_at, .int t_size, .int t_faultPlace, .int t_faultReason, .int t_lettersTold, .int t_repeatsTold, .int t_correctionsTold, .int t_mostCorrections, .int t_deepest, .int t_fresh]))]) hP hD [0] [1, 2] rfl rfl (by decide) (by decide) hk1 hFc hP1 hD1
          generalize H1 = H at hP hS ⊢
          have hP : va_P (dC, dI) vwCl [(h_t_letters, .inl (cI, 744, .inl t_letters)), (h_t_signs, .inl (cI, 60, .inl t_signs)), (h_t, .inr (3, [.ref h_t_signs, .ref h_t_letters, .int t_length, .int t_at, .int t_size, .int t_faultPlace, .int t_faultReason, .int t_lettersTold, .int t_repeatsTold, .int t_correctionsTold, .int t_mostCorrections, .int t_deepest, .int t_fresh]))] H := hP
          have hD : va_D A [(h_t_letters, .inl (cI, 744, .inl t_letters)), (h_t_signs, .inl (cI, 60, .inl t_signs)), (h_t, .inr (3, [.ref h_t_signs, .ref h_t_letters, .int t_length, .int t_at, .int t_size, .int t_faultPlace, .int t_faultReason, .int t_lettersTold, .int t_repeatsTold, .int t_correctionsTold, .int t_mostCorrections, .int t_deepest, .int t_fresh]))] := hD
          refine lv_if_eq (tgt := 105) hx hb dX4_readItems_100 (by decide) (fun c_3 => ?_) (fun c_3 => ?_)
          · have hres := it_of hres c_3
            refine lv_iinc (v := (x4 + 1)) (lv' := [(4, .int (x4 + 1)), (5, .int s0), (0, .ref h_t), (1, .int x1), (2, .int x2), (3, .int x3)]) hx hb dX4_readItems_105 hl (k := 5) rfl rfl (by decide) rfl (fun ls hl => ?_)
            refine lv_goto (tgt := 10) hx hb dX4_readItems_108 (by decide) ?_
            exact ih10 x2 x3 (x4 + 1) t_at t_size t_faultPlace t_faultReason t_lettersTold t_repeatsTold t_correctionsTold t_mostCorrections t_letters H locs ls hres (hP.sub [2, 0, 1] rfl) (hD.sub [2, 0, 1] (by decide) rfl) hS (lv_sub hl [2, 3, 4, 5, 0] rfl)
          · have hres := ie_of hres c_3
            refine lv_iload_n hx hb dX4_readItems_103 rfl (lv_at hl 4 rfl) ?_
            obtain ⟨e9_0, e9_1, e9_2, e9_3, e9_4, e9_5, e9_6, e9_7, e9_8, e9_9⟩ := tup10 hres
            subst e9_0
            subst e9_1
            subst e9_2
            subst e9_3
            subst e9_4
            subst e9_5
            subst e9_6
            subst e9_7
            subst e9_8
            subst e9_9
            rw [← hQQ]
            exact W.iret (v := x3) hx hb hr (fun t ht hW => ⟨⟨x3, (), rfl, rfl, by rw [ht]; exact hP.sub [2, 0, 1] rfl, va_K.moved hW.alike hK, hD.sub [2, 0, 1] (by decide) rfl⟩, hS.F ht⟩) hS.2.2 dX4_readItems_104
      have hK52 : ∀ (x2 : Int32) (x3 : Int32) (x4 : Int32) (t_at : Int32) (t_size : Int32) (t_faultPlace : Int32) (t_faultReason : Int32) (t_lettersTold : Int32) (t_repeatsTold : Int32) (t_correctionsTold : Int32) (t_mostCorrections : Int32) (t_letters : Nat → Int32) (H : Heap) (locs : List Loc) (ls : Array Slot), fRd_readItems_52 t_length t_signs x1 (fRd_readItems_10 gRd_readRepeat t_length t_deepest t_fresh t_signs x1 n10) x2 x3 x4 t_at t_size t_faultPlace t_faultReason t_lettersTold t_repeatsTold t_correctionsTold t_mostCorrections t_letters = some (r, y_t_at, y_t_size, y_t_faultPlace, y_t_faultReason, y_t_lettersTold, y_t_repeatsTold, y_t_correctionsTold, y_t_mostCorrections, y_t_letters) → va_P (dC, dI) vwCl [(h_t, .inr (3, [.ref h_t_signs, .ref h_t_letters, .int t_length, .int t_at, .int t_size, .int t_faultPlace, .int t_faultReason, .int t_lettersTold, .int t_repeatsTold, .int t_correctionsTold, .int t_mostCorrections, .int t_deepest, .int t_fresh])), (h_t_letters, .inl (cI, 744, .inl t_letters)), (h_t_signs, .inl (cI, 60, .inl t_signs))] H → va_D A [(h_t, .inr (3, [.ref h_t_signs, .ref h_t_letters, .int t_length, .int t_at, .int t_size, .int t_faultPlace, .int t_faultReason, .int t_lettersTold, .int t_repeatsTold, .int t_correctionsTold, .int t_mostCorrections, .int t_deepest, .int t_fresh])), (h_t_letters, .inl (cI, 744, .inl t_letters)), (h_t_signs, .inl (cI, 60, .inl t_signs))] → va_S A s.heap H locs → lv_has ls 6 [(0, .ref h_t), (1, .int x1), (2, .int x2), (3, .int x3), (4, .int x4)] → W p l e (headSpec wsX4_readItems ({ frames := F + 4, cells := 0, slots := 0, locals := L + 83 } : Room)).room s m args below meth c H locs 0 0 QQ (F0 m 52 ls []) := by
        intro x2 x3 x4 t_at t_size t_faultPlace t_faultReason t_lettersTold t_repeatsTold t_correctionsTold t_mostCorrections t_letters H locs ls hres hP hD hS hl
        rw [fRd_readItems_52] at hres
        refine lv_iload_n hx hb dX4_readItems_52 rfl (lv_at hl 1 rfl) ?_
        refine lv_if_ne (tgt := 75) hx hb dX4_readItems_53 (by decide) (fun c_11 => ?_) (fun c_11 => ?_)
        · have hres := ie_of hres c_11
          refine lv_aload_n hx hb dX4_readItems_75 rfl (lv_at hl 0 rfl) ?_
          obtain ⟨o12, ho12, hres⟩ := bd_of hres
          have hPc := hP.sub (ws' := [(h_t, .inr (3, [.ref h_t_signs, .ref h_t_letters, .int t_length, .int t_at, .int t_size, .int t_faultPlace, .int t_faultReason, .int t_lettersTold, .int t_repeatsTold, .int t_correctionsTold, .int t_mostCorrections, .int t_deepest, .int t_fresh])), (h_t_signs, .inl (cI, 60, .inl t_signs))]) [0, 2] rfl
          have hDc := hD.sub (ws' := [(h_t, .inr (3, [.ref h_t_signs, .ref h_t_letters, .int t_length, .int t_at, .int t_size, .int t_faultPlace, .int t_faultReason, .int t_lettersTold, .int t_repeatsTold, .int t_correctionsTold, .int t_mostCorrections, .int t_deepest, .int t_fresh])), (h_t_signs, .inl (cI, 60, .inl t_signs))]) [0, 2] (by decide) rfl
          have hFc := va_free (wc := [(h_t, .inr (3, [.ref h_t_signs, .ref h_t_letters, .int t_length, .int t_at, .int t_size, .int t_faultPlace, .int t_faultReason, .int t_lettersTold, .int t_repeatsTold, .int t_correctionsTold, .int t_mostCorrections, .int t_deepest, .int t_fresh])), (h_t_signs, .inl (cI, 60, .inl t_signs))]) hD hS hA [0, 2] rfl
          refine va_calli (va_runV (As := []) (rest := []) ⟨hx, hb, hml, hown, hts⟩ (cRd_sign l dC dI cI cJ cC cS h_t h_t_signs h_t_letters H.size t_length t_at t_size t_faultPlace t_faultReason t_lettersTold t_repeatsTold t_correctionsTold t_mostCorrections t_deepest t_fresh t_signs o12 ho12) (cwV 0 hts gX4_readItems_X4_sign rfl rfl rfl (by decide +kernel) ⟨by show 0 + 1 ≤ F + 4; omega, by show 8 + (1 + 11) + 0 ≤ L + 83; omega⟩) ⟨fun a U g mk q => by obtain ⟨q0, q1, qP, qK, qN, qD⟩ := q; exact ⟨q0, q1, qP, va_K.moved (u := U) (U := U.calling g mk a) (Vm.Alike.refl U.vm) qK, nwS (u := U) (U := U.calling g mk a) rfl qN, qD⟩, va_recv hK hPc (ci := 3) (q0 := 0) rfl rfl, fun U hU hW => ⟨rfl, by rw [hU], by rw [hU]; exact hPc, va_K.moved hW.alike hK, nwW hW hN, hDc.weaken (fun _ _ _ _ => trivial)⟩⟩ rfl rfl hl.1 rfl (lv_room (Nat.le_of_ble_eq_true rfl)) dX4_readItems_76 ⟨Nat.zero_le _, Nat.zero_le _⟩) hS (fun q _ h => hFc q h) hFc (fun r9 u9 t H1 locs ht hvm hw hB hz1 hk1 hS => ?_)
          have hw := hw.symm
          subst hw
          obtain ⟨hP1, hK1, hD1⟩ := hB
          rw [ht] at hP1
          obtain ⟨hP, hD⟩ := va_join (wr := [(h_t_letters, .inl (cI, 744, .inl t_letters))]) (w1 := [(h_t, .inr (3, [.ref h_t_signs, .ref h_t_letters, .int t_length, .int t_at, .int t_size, .int t_faultPlace, .int t_faultReason, .int t_lettersTold, .int t_repeatsTold, .int t_correctionsTold, .int t_mostCorrections, .int t_deepest, .int t_fresh])), (h_t_signs, .inl (cI, 60, .inl t_signs))]) hP hD [0, 2] [1] rfl rfl (by decide) (by decide) hk1 hFc hP1 hD1
          generalize H1 = H at hP hS ⊢
          have hP : va_P (dC, dI) vwCl [(h_t_letters, .inl (cI, 744, .inl t_letters)), (h_t, .inr (3, [.ref h_t_signs, .ref h_t_letters, .int t_length, .int t_at, .int t_size, .int t_faultPlace, .int t_faultReason, .int t_lettersTold, .int t_repeatsTold, .int t_correctionsTold, .int t_mostCorrections, .int t_deepest, .int t_fresh])), (h_t_signs, .inl (cI, 60, .inl t_signs))] H := hP
          have hD : va_D A [(h_t_letters, .inl (cI, 744, .inl t_letters)), (h_t, .inr (3, [.ref h_t_signs, .ref h_t_letters, .int t_length, .int t_at, .int t_size, .int t_faultPlace, .int t_faultReason, .int t_lettersTold, .int t_repeatsTold, .int t_correctionsTold, .int t_mostCorrections, .int t_deepest, .int t_fresh])), (h_t_signs, .inl (cI, 60, .inl t_signs))] := hD
          refine lv_bipush (v := (41 : Int32)) hx hb dX4_readItems_79 (by decide) ?_
          refine lv_icmp_ne (tgt := 88) hx hb dX4_readItems_81 (by decide) (fun c_13 => ?_) (fun c_13 => ?_)
          · have hres := ie_of hres c_13
            refine lv_iconst (v := (0 : Int32)) hx hb dX4_readItems_88 (by decide) ?_
            exact hK89 x2 x3 x4 (0 : Int32) t_at t_size t_faultPlace t_faultReason t_lettersTold t_repeatsTold t_correctionsTold t_mostCorrections t_letters H locs ls hres (hP.sub [1, 0, 2] rfl) (hD.sub [1, 0, 2] (by decide) rfl) hS (lv_sub hl [0, 1, 2, 3, 4] rfl)
          · have hres := it_of hres c_13
            refine lv_iconst (v := (1 : Int32)) hx hb dX4_readItems_84 (by decide) ?_
            refine lv_goto (tgt := 89) hx hb dX4_readItems_85 (by decide) ?_
            exact hK89 x2 x3 x4 (1 : Int32) t_at t_size t_faultPlace t_faultReason t_lettersTold t_repeatsTold t_correctionsTold t_mostCorrections t_letters H locs ls hres (hP.sub [1, 0, 2] rfl) (hD.sub [1, 0, 2] (by decide) rfl) hS (lv_sub hl [0, 1, 2, 3, 4] rfl)
        · have hres := it_of hres c_11
          refine lv_aload_n hx hb dX4_readItems_56 rfl (lv_at hl 0 rfl) ?_
          refine va_get (D := (dC, dI)) (ci := 3) (v := .int t_at) (C := RX4) (T := TX4) (N := 13) hx hb hts iRd_readItems_X4_readItems_5 hown hK hP 0 rfl rfl 3 (by decide) (hts _ kRd_readItems_X4_readItems_4) (fun _ h9 => h9) rfl dX4_readItems_57 ?_
          refine lv_aload_n hx hb dX4_readItems_60 rfl (lv_at hl 0 rfl) ?_
          refine va_get (D := (dC, dI)) (ci := 3) (v := .int t_length) (C := RX4) (T := TX4) (N := 13) hx hb hts iRd_readItems_X4_readItems_5 hown hK hP 0 rfl rfl 2 (by decide) (hts _ kRd_readItems_X4_readItems_6) (fun _ h9 => h9) rfl dX4_readItems_61 ?_
          refine lv_icmp_lt (tgt := 71) hx hb dX4_readItems_64 (by decide) (fun c_14 => ?_) (fun c_14 => ?_)
          · have hres := it_of hres c_14
            refine lv_iconst (v := (0 : Int32)) hx hb dX4_readItems_71 (by decide) ?_
            refine lv_goto (tgt := 89) hx hb dX4_readItems_72 (by decide) ?_
            exact hK89 x2 x3 x4 (0 : Int32) t_at t_size t_faultPlace t_faultReason t_lettersTold t_repeatsTold t_correctionsTold t_mostCorrections t_letters H locs ls hres hP hD hS (lv_sub hl [0, 1, 2, 3, 4] rfl)
          · have hres := ie_of hres c_14
            refine lv_iconst (v := (1 : Int32)) hx hb dX4_readItems_67 (by decide) ?_
            refine lv_goto (tgt := 89) hx hb dX4_readItems_68 (by decide) ?_
            exact hK89 x2 x3 x4 (1 : Int32) t_at t_size t_faultPlace t_faultReason t_lettersTold t_repeatsTold t_correctionsTold t_mostCorrections t_letters H locs ls hres hP hD hS (lv_sub hl [0, 1, 2, 3, 4] rfl)
      intro x2 x3 x4 t_at t_size t_faultPlace t_faultReason t_lettersTold t_repeatsTold t_correctionsTold t_mostCorrections t_letters H locs ls hres hP hD hS hl
      rw [fRd_readItems_10] at hres
      refine lv_iload hx hb dX4_readItems_10 (lv_at hl 4 rfl) ?_
      refine lv_bipush (v := (60 : Int32)) hx hb dX4_readItems_12 (by decide) ?_
      refine lv_icmp_ge (tgt := 111) hx hb dX4_readItems_14 (by decide) (fun c_4 => ?_) (fun c_4 => ?_)
      · have hres := it_of hres c_4
        exact hK111 x3 t_at t_size t_faultPlace t_faultReason t_lettersTold t_repeatsTold t_correctionsTold t_mostCorrections t_letters H locs ls hres hP hD hS (lv_sub hl [0, 3] rfl)
      · have hres := ie_of hres c_4
        refine lv_iload_n hx hb dX4_readItems_17 rfl (lv_at hl 1 rfl) ?_
        refine lv_bipush (v := (30 : Int32)) hx hb dX4_readItems_18 (by decide) ?_
        refine lv_icmp_gt (tgt := 111) hx hb dX4_readItems_20 (by decide) (fun c_5 => ?_) (fun c_5 => ?_)
        · have hres := it_of hres c_5
          exact hK111 x3 t_at t_size t_faultPlace t_faultReason t_lettersTold t_repeatsTold t_correctionsTold t_mostCorrections t_letters H locs ls hres hP hD hS (lv_sub hl [0, 3] rfl)
        · have hres := ie_of hres c_5
          refine lv_aload_n hx hb dX4_readItems_23 rfl (lv_at hl 0 rfl) ?_
          obtain ⟨o6, ho6, hres⟩ := bd_of hres
          have hPc := hP.sub (ws' := [(h_t, .inr (3, [.ref h_t_signs, .ref h_t_letters, .int t_length, .int t_at, .int t_size, .int t_faultPlace, .int t_faultReason, .int t_lettersTold, .int t_repeatsTold, .int t_correctionsTold, .int t_mostCorrections, .int t_deepest, .int t_fresh])), (h_t_signs, .inl (cI, 60, .inl t_signs))]) [0, 2] rfl
          have hDc := hD.sub (ws' := [(h_t, .inr (3, [.ref h_t_signs, .ref h_t_letters, .int t_length, .int t_at, .int t_size, .int t_faultPlace, .int t_faultReason, .int t_lettersTold, .int t_repeatsTold, .int t_correctionsTold, .int t_mostCorrections, .int t_deepest, .int t_fresh])), (h_t_signs, .inl (cI, 60, .inl t_signs))]) [0, 2] (by decide) rfl
          have hFc := va_free (wc := [(h_t, .inr (3, [.ref h_t_signs, .ref h_t_letters, .int t_length, .int t_at, .int t_size, .int t_faultPlace, .int t_faultReason, .int t_lettersTold, .int t_repeatsTold, .int t_correctionsTold, .int t_mostCorrections, .int t_deepest, .int t_fresh])), (h_t_signs, .inl (cI, 60, .inl t_signs))]) hD hS hA [0, 2] rfl
          refine va_calli (va_runV (As := []) (rest := []) ⟨hx, hb, hml, hown, hts⟩ (cRd_sign l dC dI cI cJ cC cS h_t h_t_signs h_t_letters H.size t_length t_at t_size t_faultPlace t_faultReason t_lettersTold t_repeatsTold t_correctionsTold t_mostCorrections t_deepest t_fresh t_signs o6 ho6) (cwV 0 hts gX4_readItems_X4_sign rfl rfl rfl (by decide +kernel) ⟨by show 0 + 1 ≤ F + 4; omega, by show 8 + (1 + 11) + 0 ≤ L + 83; omega⟩) ⟨fun a U g mk q => by obtain ⟨q0, q1, qP, qK, qN, qD⟩ := q; exact ⟨q0, q1, qP, va_K.moved (u := U) (U := U.calling g mk a) (Vm.Alike.refl U.vm) qK, nwS (u := U) (U := U.calling g mk a) rfl qN, qD⟩, va_recv hK hPc (ci := 3) (q0 := 0) rfl rfl, fun U hU hW => ⟨rfl, by rw [hU], by rw [hU]; exact hPc, va_K.moved hW.alike hK, nwW hW hN, hDc.weaken (fun _ _ _ _ => trivial)⟩⟩ rfl rfl hl.1 rfl (lv_room (Nat.le_of_ble_eq_true rfl)) dX4_readItems_24 ⟨Nat.zero_le _, Nat.zero_le _⟩) hS (fun q _ h => hFc q h) hFc (fun r9 u9 t H1 locs ht hvm hw hB hz1 hk1 hS => ?_)
          have hw := hw.symm
          subst hw
          obtain ⟨hP1, hK1, hD1⟩ := hB
          rw [ht] at hP1
          obtain ⟨hP, hD⟩ := va_join (wr := [(h_t_letters, .inl (cI, 744, .inl t_letters))]) (w1 := [(h_t, .inr (3, [.ref h_t_signs, .ref h_t_letters, .int t_length, .int t_at, .int t_size, .int t_faultPlace, .int t_faultReason, .int t_lettersTold, .int t_repeatsTold, .int t_correctionsTold, .int t_mostCorrections, .int t_deepest, .int t_fresh])), (h_t_signs, .inl (cI, 60, .inl t_signs))]) hP hD [0, 2] [1] rfl rfl (by decide) (by decide) hk1 hFc hP1 hD1
          generalize H1 = H at hP hS ⊢
          have hP : va_P (dC, dI) vwCl [(h_t_letters, .inl (cI, 744, .inl t_letters)), (h_t, .inr (3, [.ref h_t_signs, .ref h_t_letters, .int t_length, .int t_at, .int t_size, .int t_faultPlace, .int t_faultReason, .int t_lettersTold, .int t_repeatsTold, .int t_correctionsTold, .int t_mostCorrections, .int t_deepest, .int t_fresh])), (h_t_signs, .inl (cI, 60, .inl t_signs))] H := hP
          have hD : va_D A [(h_t_letters, .inl (cI, 744, .inl t_letters)), (h_t, .inr (3, [.ref h_t_signs, .ref h_t_letters, .int t_length, .int t_at, .int t_size, .int t_faultPlace, .int t_faultReason, .int t_lettersTold, .int t_repeatsTold, .int t_correctionsTold, .int t_mostCorrections, .int t_deepest, .int t_fresh])), (h_t_signs, .inl (cI, 60, .inl t_signs))] := hD
          obtain ⟨o7, ho7, hres⟩ := bd_of hres
          have hPc := hP.sub (ws' := []) [] rfl
          have hDc := hD.sub (ws' := []) [] (by decide) rfl
          have hFc := va_free (wc := []) hD hS hA [] rfl
          refine va_calli (va_runS (As := [.int o6]) (rest := []) ⟨hx, hb, hml, hown, hts⟩ (cRd_isLetter l dC dI cI cJ cC cS H.size o6 o7 ho7) (va_cwS 1 hts gX4_readItems_X4_isLetter rfl rfl rfl (by decide +kernel) ⟨by show 0 + 1 ≤ F + 4; omega, by show 8 + (1 + 11) + 0 ≤ L + 83; omega⟩) ⟨fun a U g mk q => by obtain ⟨q0, q1, qP, qK, qN, qD⟩ := q; exact ⟨q0, q1, qP, va_K.moved (u := U) (U := U.calling g mk a) (Vm.Alike.refl U.vm) qK, nwS (u := U) (U := U.calling g mk a) rfl qN, qD⟩, fun U hU hW => ⟨rfl, by rw [hU], by rw [hU]; exact hPc, va_K.moved hW.alike hK, nwW hW hN, hDc.weaken (fun _ _ _ _ => trivial)⟩⟩ rfl rfl hl.1 rfl (lv_room (Nat.le_of_ble_eq_true rfl)) dX4_readItems_27 ⟨Nat.zero_le _, Nat.zero_le _⟩) hS (fun q _ h => hFc q h) hFc (fun r9 u9 t H1 locs ht hvm hw hB hz1 hk1 hS => ?_)
          have hw := hw.symm
          subst hw
          obtain ⟨hP1, hK1, hD1⟩ := hB
          rw [ht] at hP1
          obtain ⟨hP, hD⟩ := va_join (wr := [(h_t_letters, .inl (cI, 744, .inl t_letters)), (h_t, .inr (3, [.ref h_t_signs, .ref h_t_letters, .int t_length, .int t_at, .int t_size, .int t_faultPlace, .int t_faultReason, .int t_lettersTold, .int t_repeatsTold, .int t_correctionsTold, .int t_mostCorrections, .int t_deepest, .int t_fresh])), (h_t_signs, .inl (cI, 60, .inl t_signs))]) (w1 := []) hP hD [] [0, 1, 2] rfl rfl (by decide) (by decide) hk1 hFc hP1 hD1
          generalize H1 = H at hP hS ⊢
          have hP : va_P (dC, dI) vwCl [(h_t_letters, .inl (cI, 744, .inl t_letters)), (h_t, .inr (3, [.ref h_t_signs, .ref h_t_letters, .int t_length, .int t_at, .int t_size, .int t_faultPlace, .int t_faultReason, .int t_lettersTold, .int t_repeatsTold, .int t_correctionsTold, .int t_mostCorrections, .int t_deepest, .int t_fresh])), (h_t_signs, .inl (cI, 60, .inl t_signs))] H := hP
          have hD : va_D A [(h_t_letters, .inl (cI, 744, .inl t_letters)), (h_t, .inr (3, [.ref h_t_signs, .ref h_t_letters, .int t_length, .int t_at, .int t_size, .int t_faultPlace, .int t_faultReason, .int t_lettersTold, .int t_repeatsTold, .int t_correctionsTold, .int t_mostCorrections, .int t_deepest, .int t_fresh])), (h_t_signs, .inl (cI, 60, .inl t_signs))] := hD
          refine lv_if_eq (tgt := 41) hx hb dX4_readItems_30 (by decide) (fun c_8 => ?_) (fun c_8 => ?_)
          · have hres := it_of hres c_8
            refine lv_iload_n hx hb dX4_readItems_41 rfl (lv_at hl 3 rfl) ?_
            refine lv_aload_n hx hb dX4_readItems_42 rfl (lv_at hl 0 rfl) ?_
            refine lv_iload_n hx hb dX4_readItems_43 rfl (lv_at hl 1 rfl) ?_
            refine lv_iload_n hx hb dX4_readItems_44 rfl (lv_at hl 2 rfl) ?_
            obtain ⟨o9, ho9, hres⟩ := bd_of hres
            have hPc := hP.sub (ws' := [(h_t, .inr (3, [.ref h_t_signs, .ref h_t_letters, .int t_length, .int t_at, .int t_size, .int t_faultPlace, .int t_faultReason, .int t_lettersTold, .int t_repeatsTold, .int t_correctionsTold, .int t_mostCorrections, .int t_deepest, .int t_fresh])), (h_t_letters, .inl (cI, 744, .inl t_letters)), (h_t_signs, .inl (cI, 60, .inl t_signs))]) [1, 0, 2] rfl
            have hDc := hD.sub (ws' := [(h_t, .inr (3, [.ref h_t_signs, .ref h_t_letters, .int t_length, .int t_at, .int t_size, .int t_faultPlace, .int t_faultReason, .int t_lettersTold, .int t_repeatsTold, .int t_correctionsTold, .int t_mostCorrections, .int t_deepest, .int t_fresh])), (h_t_letters, .inl (cI, 744, .inl t_letters)), (h_t_signs, .inl (cI, 60, .inl t_signs))]) [1, 0, 2] (by decide) rfl
            have hFc := va_free (wc := [(h_t, .inr (3, [.ref h_t_signs, .ref h_t_letters, .int t_length, .int t_at, .int t_size, .int t_faultPlace, .int t_faultReason, .int t_lettersTold, .int t_repeatsTold, .int t_correctionsTold, .int t_mostCorrections, .int t_deepest, .int t_fresh])), (h_t_letters, .inl (cI, 744, .inl t_letters)), (h_t_signs, .inl (cI, 60, .inl t_signs))]) hD hS hA [1, 0, 2] rfl
            refine va_calli (va_runV (As := [.int x1, .int x2]) (rest := [.int x3]) ⟨hx, hb, hml, hown, hts⟩ (hgRd_readRepeat dC dI cI cJ cC cS h_t h_t_signs h_t_letters H.size t_length t_at t_size t_faultPlace t_faultReason t_lettersTold t_repeatsTold t_correctionsTold t_mostCorrections t_deepest t_fresh t_letters t_signs x1 x2 o9.1 o9.2.1 o9.2.2.1 o9.2.2.2.1 o9.2.2.2.2.1 o9.2.2.2.2.2.1 o9.2.2.2.2.2.2.1 o9.2.2.2.2.2.2.2.1 o9.2.2.2.2.2.2.2.2.1 o9.2.2.2.2.2.2.2.2.2 ho9) (cwV 2 hts gX4_readItems_X4_readRepeat rfl rfl rfl (by decide +kernel) ⟨by show F + 1 ≤ F + 4; omega, by show 8 + (8 + 11) + L ≤ L + 83; omega⟩) ⟨fun a U g mk q => by obtain ⟨q0, q1, qP, qK, qN, qD⟩ := q; exact ⟨q0, q1, qP, va_K.moved (u := U) (U := U.calling g mk a) (Vm.Alike.refl U.vm) qK, nwS (u := U) (U := U.calling g mk a) rfl qN, qD⟩, va_recv hK hPc (ci := 3) (q0 := 0) rfl rfl, fun U hU hW => ⟨rfl, by rw [hU], by rw [hU]; exact hPc, va_K.moved hW.alike hK, nwW hW hN, hDc.weaken (fun _ _ _ _ => trivial)⟩⟩ rfl rfl hl.1 rfl (lv_room (Nat.le_of_ble_eq_true rfl)) dX4_readItems_45 ⟨Nat.zero_le _, Nat.zero_le _⟩) hS (fun q _ h => hFc q h) hFc (fun r9 u9 t H1 locs ht hvm hw hB hz1 hk1 hS => ?_)
            have hw := hw.symm
            subst hw
            obtain ⟨hP1, hK1, hD1⟩ := hB
            rw [ht] at hP1
            obtain ⟨hP, hD⟩ := va_join (wr := []) (w1 := [(h_t, .inr (3, [.ref h_t_signs, .ref h_t_letters, .int t_length, .int o9.2.1, .int o9.2.2.1, .int o9.2.2.2.1, .int o9.2.2.2.2.1, .int o9.2.2.2.2.2.1, .int o9.2.2.2.2.2.2.1, .int o9.2.2.2.2.2.2.2.1, .int o9.2.2.2.2.2.2.2.2.1, .int t_deepest, .int t_fresh])), (h_t_letters, .inl (cI, 744, .inl o9.2.2.2.2.2.2.2.2.2)), (h_t_signs, .inl (cI, 60, .inl t_signs))]) hP hD [1, 0, 2] [] rfl rfl (by decide) (by decide) hk1 hFc hP1 hD1
            generalize H1 = H at hP hS ⊢
            have hP : va_P (dC, dI) vwCl [(h_t, .inr (3, [.ref h_t_signs, .ref h_t_letters, .int t_length, .int o9.2.1, .int o9.2.2.1, .int o9.2.2.2.1, .int o9.2.2.2.2.1, .int o9.2.2.2.2.2.1, .int o9.2.2.2.2.2.2.1, .int o9.2.2.2.2.2.2.2.1, .int o9.2.2.2.2.2.2.2.2.1, .int t_deepest, .int t_fresh])), (h_t_letters, .inl (cI, 744, .inl o9.2.2.2.2.2.2.2.2.2)), (h_t_signs, .inl (cI, 60, .inl t_signs))] H := hP
            have hD : va_D A [(h_t, .inr (3, [.ref h_t_signs, .ref h_t_letters, .int t_length, .int o9.2.1, .int o9.2.2.1, .int o9.2.2.2.1, .int o9.2.2.2.2.1, .int o9.2.2.2.2.2.1, .int o9.2.2.2.2.2.2.1, .int o9.2.2.2.2.2.2.2.1, .int o9.2.2.2.2.2.2.2.2.1, .int t_deepest, .int t_fresh])), (h_t_letters, .inl (cI, 744, .inl o9.2.2.2.2.2.2.2.2.2)), (h_t_signs, .inl (cI, 60, .inl t_signs))] := hD
            refine va_mmax hx hb (by rw [hml]; exact hl.1.symm) hown (hts _ kRd_readItems_X4_readItems_0) (hts _ kRd_readItems_X4_readItems_1) (hts _ kRd_readItems_X4_readItems_2) (hts _ kRd_readItems_X4_readItems_3) (by show 1 ≤ F + 4; omega) (Nat.le_trans (m := 21) (Nat.le_of_ble_eq_true rfl) (by show 21 ≤ L + 83; omega)) (Nat.zero_le _) (Nat.zero_le _) dX4_readItems_48 ?_
            refine lv_istore_n (lv' := [(3, .int (if x3 < o9.1 then o9.1 else x3)), (0, .ref h_t), (1, .int x1), (2, .int x2), (4, .int x4)]) hx hb dX4_readItems_51 rfl hl (by decide) rfl (fun ls hl => ?_)
            exact hK52 x2 (if x3 < o9.1 then o9.1 else x3) x4 o9.2.1 o9.2.2.1 o9.2.2.2.1 o9.2.2.2.2.1 o9.2.2.2.2.2.1 o9.2.2.2.2.2.2.1 o9.2.2.2.2.2.2.2.1 o9.2.2.2.2.2.2.2.2.1 o9.2.2.2.2.2.2.2.2.2 H locs ls hres hP hD hS (lv_sub hl [1, 2, 3, 0, 4] rfl)
          · have hres := ie_of hres c_8
            refine lv_aload_n hx hb dX4_readItems_33 rfl (lv_at hl 0 rfl) ?_
            refine lv_iload_n hx hb dX4_readItems_34 rfl (lv_at hl 2 rfl) ?_
            obtain ⟨o10, ho10, hres⟩ := bd_of hres
            have hPc := hP.sub (ws' := [(h_t, .inr (3, [.ref h_t_signs, .ref h_t_letters, .int t_length, .int t_at, .int t_size, .int t_faultPlace, .int t_faultReason, .int t_lettersTold, .int t_repeatsTold, .int t_correctionsTold, .int t_mostCorrections, .int t_deepest, .int t_fresh])), (h_t_letters, .inl (cI, 744, .inl t_letters)), (h_t_signs, .inl (cI, 60, .inl t_signs))]) [1, 0, 2] rfl
            have hDc := hD.sub (ws' := [(h_t, .inr (3, [.ref h_t_signs, .ref h_t_letters, .int t_length, .int t_at, .int t_size, .int t_faultPlace, .int t_faultReason, .int t_lettersTold, .int t_repeatsTold, .int t_correctionsTold, .int t_mostCorrections, .int t_deepest, .int t_fresh])), (h_t_letters, .inl (cI, 744, .inl t_letters)), (h_t_signs, .inl (cI, 60, .inl t_signs))]) [1, 0, 2] (by decide) rfl
            have hFc := va_free (wc := [(h_t, .inr (3, [.ref h_t_signs, .ref h_t_letters, .int t_length, .int t_at, .int t_size, .int t_faultPlace, .int t_faultReason, .int t_lettersTold, .int t_repeatsTold, .int t_correctionsTold, .int t_mostCorrections, .int t_deepest, .int t_fresh])), (h_t_letters, .inl (cI, 744, .inl t_letters)), (h_t_signs, .inl (cI, 60, .inl t_signs))]) hD hS hA [1, 0, 2] rfl
            refine va_callv (va_runV (As := [.int x2]) (rest := []) ⟨hx, hb, hml, hown, hts⟩ (cRd_readLetter l dC dI cI cJ cC cS h_t h_t_signs h_t_letters H.size t_length t_at t_size t_faultPlace t_faultReason t_lettersTold t_repeatsTold t_correctionsTold t_mostCorrections t_deepest t_fresh t_letters t_signs x2 o10.1 o10.2.1 o10.2.2.1 o10.2.2.2.1 o10.2.2.2.2.1 o10.2.2.2.2.2 ho10) (cwV 1 hts gX4_readItems_X4_readLetter rfl rfl rfl (by decide +kernel) ⟨by show 1 + 1 ≤ F + 4; omega, by show 8 + (2 + 11) + 22 ≤ L + 83; omega⟩) ⟨fun a U g mk q => by obtain ⟨q0, q1, qP, qK, qN, qD⟩ := q; exact ⟨q0, q1, qP, va_K.moved (u := U) (U := U.calling g mk a) (Vm.Alike.refl U.vm) qK, nwS (u := U) (U := U.calling g mk a) rfl qN, qD⟩, va_recv hK hPc (ci := 3) (q0 := 0) rfl rfl, fun U hU hW => ⟨rfl, by rw [hU], by rw [hU]; exact hPc, va_K.moved hW.alike hK, nwW hW hN, hDc.weaken (fun _ _ _ _ => trivial)⟩⟩ rfl rfl hl.1 rfl (lv_room (Nat.le_of_ble_eq_true rfl)) dX4_readItems_35 ⟨Nat.zero_le _, Nat.zero_le _⟩) hS (fun q _ h => hFc q h) hFc (fun u9 t H1 locs ht hvm hw hB hz1 hk1 hS => ?_)
            obtain ⟨hP1, hK1, hD1⟩ := hB
            rw [ht] at hP1
            obtain ⟨hP, hD⟩ := va_join (wr := []) (w1 := [(h_t, .inr (3, [.ref h_t_signs, .ref h_t_letters, .int t_length, .int o10.1, .int o10.2.1, .int o10.2.2.1, .int o10.2.2.2.1, .int o10.2.2.2.2.1, .int t_repeatsTold, .int t_correctionsTold, .int t_mostCorrections, .int t_deepest, .int t_fresh])), (h_t_letters, .inl (cI, 744, .inl o10.2.2.2.2.2)), (h_t_signs, .inl (cI, 60, .inl t_signs))]) hP hD [1, 0, 2] [] rfl rfl (by decide) (by decide) hk1 hFc hP1 hD1
            generalize H1 = H at hP hS ⊢
            have hP : va_P (dC, dI) vwCl [(h_t, .inr (3, [.ref h_t_signs, .ref h_t_letters, .int t_length, .int o10.1, .int o10.2.1, .int o10.2.2.1, .int o10.2.2.2.1, .int o10.2.2.2.2.1, .int t_repeatsTold, .int t_correctionsTold, .int t_mostCorrections, .int t_deepest, .int t_fresh])), (h_t_letters, .inl (cI, 744, .inl o10.2.2.2.2.2)), (h_t_signs, .inl (cI, 60, .inl t_signs))] H := hP
            have hD : va_D A [(h_t, .inr (3, [.ref h_t_signs, .ref h_t_letters, .int t_length, .int o10.1, .int o10.2.1, .int o10.2.2.1, .int o10.2.2.2.1, .int o10.2.2.2.2.1, .int t_repeatsTold, .int t_correctionsTold, .int t_mostCorrections, .int t_deepest, .int t_fresh])), (h_t_letters, .inl (cI, 744, .inl o10.2.2.2.2.2)), (h_t_signs, .inl (cI, 60, .inl t_signs))] := hD
            refine lv_goto (tgt := 52) hx hb dX4_readItems_38 (by decide) ?_
            exact hK52 x2 x3 x4 o10.1 o10.2.1 o10.2.2.1 o10.2.2.2.1 o10.2.2.2.2.1 t_repeatsTold t_correctionsTold t_mostCorrections o10.2.2.2.2.2 H locs ls hres hP hD hS (lv_sub hl [0, 1, 2, 3, 4] rfl)
  rw [fRd_readItemsB] at hres
  refine lv_aload_n hx hb dX4_readItems_0 rfl (lv_at hl 0 rfl) ?_
  refine va_get (D := (dC, dI)) (ci := 3) (v := .int t_size) (C := RX4) (T := TX4) (N := 13) hx hb hts iRd_readItems_X4_readItems_5 hown hK hP 0 rfl rfl 4 (by decide) (hts _ kRd_readItems_X4_readItems_7) (fun _ h9 => h9) rfl dX4_readItems_1 ?_
  refine lv_istore_n (lv' := [(2, .int t_size), (0, .ref h_t), (1, .int x1)]) hx hb dX4_readItems_4 rfl hl (by decide) rfl (fun ls hl => ?_)
  refine lv_iconst (v := (0 : Int32)) hx hb dX4_readItems_5 (by decide) ?_
  refine lv_istore_n (lv' := [(3, .int (0 : Int32)), (2, .int t_size), (0, .ref h_t), (1, .int x1)]) hx hb dX4_readItems_6 rfl hl (by decide) rfl (fun ls hl => ?_)
  refine lv_iconst (v := (0 : Int32)) hx hb dX4_readItems_7 (by decide) ?_
  refine lv_istore (lv' := [(4, .int (0 : Int32)), (3, .int (0 : Int32)), (2, .int t_size), (0, .ref h_t), (1, .int x1)]) hx hb dX4_readItems_8 hl (by decide) rfl (fun ls hl => ?_)
  exact hL10 FU t_size (0 : Int32) (0 : Int32) t_at t_size t_faultPlace t_faultReason t_lettersTold t_repeatsTold t_correctionsTold t_mostCorrections t_letters H locs ls hres hP hD hS (lv_sub hl [3, 4, 2, 1, 0] rfl)
def rfRd_readItems : Nat → Nat
  | 0 => 0
  | n + 1 => rfRd_readItems n + 6 + 4
def rlRd_readItems : Nat → Nat
  | 0 => 0
  | n + 1 => rlRd_readItems n + 132 + 83
theorem cRd_readItems (l : Launch) : ∀ (n : Nat) (dC : Nat → ClassId) (dI : Nat → Nat → Nat) (cI cJ cC cS : ClassId) (h_t h_t_signs h_t_letters : Nat) (sz : Nat) (t_length : Int32) (t_at : Int32) (t_size : Int32) (t_faultPlace : Int32) (t_faultReason : Int32) (t_lettersTold : Int32) (t_repeatsTold : Int32) (t_correctionsTold : Int32) (t_mostCorrections : Int32) (t_deepest : Int32) (t_fresh : Int32) (t_letters : Nat → Int32) (t_signs : Nat → Int32) (x1 : Int32) (r : Int32) (y_t_at : Int32) (y_t_size : Int32) (y_t_faultPlace : Int32) (y_t_faultReason : Int32) (y_t_lettersTold : Int32) (y_t_repeatsTold : Int32) (y_t_correctionsTold : Int32) (y_t_mostCorrections : Int32) (y_t_letters : Nat → Int32) (hres : fRd_readItems n t_length t_at t_size t_faultPlace t_faultReason t_lettersTold t_repeatsTold t_correctionsTold t_mostCorrections t_deepest t_fresh t_letters t_signs x1 = some (r, y_t_at, y_t_size, y_t_faultPlace, y_t_faultReason, y_t_lettersTold, y_t_repeatsTold, y_t_correctionsTold, y_t_mostCorrections, y_t_letters)),
    Met l yX4_readItems wsX4_readItems ({ frames := rfRd_readItems n, cells := 0, slots := 0, locals := rlRd_readItems n } : Room) (va_Pc [.ref h_t, .int x1] (fun (U : State) => U.heap.size = sz ∧ va_P (dC, dI) vwCl [(h_t, .inr (3, [.ref h_t_signs, .ref h_t_letters, .int t_length, .int t_at, .int t_size, .int t_faultPlace, .int t_faultReason, .int t_lettersTold, .int t_repeatsTold, .int t_correctionsTold, .int t_mostCorrections, .int t_deepest, .int t_fresh])), (h_t_letters, .inl (cI, 744, .inl t_letters)), (h_t_signs, .inl (cI, 60, .inl t_signs))] U.heap ∧ va_K (dC, dI) vwCl (tyA cI cJ cC cS) U ∧ nwN U ∧ va_D (fun _ => True) [(h_t, .inr (3, [.ref h_t_signs, .ref h_t_letters, .int t_length, .int t_at, .int t_size, .int t_faultPlace, .int t_faultReason, .int t_lettersTold, .int t_repeatsTold, .int t_correctionsTold, .int t_mostCorrections, .int t_deepest, .int t_fresh])), (h_t_letters, .inl (cI, 744, .inl t_letters)), (h_t_signs, .inl (cI, 60, .inl t_signs))])) (va_Qi (fun (r9 : Int32) (_ : Unit) => r9 = r) (fun (_ : Unit) (t : State) => va_P (dC, dI) vwCl [(h_t, .inr (3, [.ref h_t_signs, .ref h_t_letters, .int t_length, .int y_t_at, .int y_t_size, .int y_t_faultPlace, .int y_t_faultReason, .int y_t_lettersTold, .int y_t_repeatsTold, .int y_t_correctionsTold, .int y_t_mostCorrections, .int t_deepest, .int t_fresh])), (h_t_letters, .inl (cI, 744, .inl y_t_letters)), (h_t_signs, .inl (cI, 60, .inl t_signs))] t.heap ∧ va_K (dC, dI) vwCl (tyA cI cJ cC cS) t ∧ va_D (va_A [(h_t, .inr (3, [.ref h_t_signs, .ref h_t_letters, .int t_length, .int t_at, .int t_size, .int t_faultPlace, .int t_faultReason, .int t_lettersTold, .int t_repeatsTold, .int t_correctionsTold, .int t_mostCorrections, .int t_deepest, .int t_fresh])), (h_t_letters, .inl (cI, 744, .inl t_letters)), (h_t_signs, .inl (cI, 60, .inl t_signs))] sz) [(h_t, .inr (3, [.ref h_t_signs, .ref h_t_letters, .int t_length, .int y_t_at, .int y_t_size, .int y_t_faultPlace, .int y_t_faultReason, .int y_t_lettersTold, .int y_t_repeatsTold, .int y_t_correctionsTold, .int y_t_mostCorrections, .int t_deepest, .int t_fresh])), (h_t_letters, .inl (cI, 744, .inl y_t_letters)), (h_t_signs, .inl (cI, 60, .inl t_signs))]) (va_A [(h_t, .inr (3, [.ref h_t_signs, .ref h_t_letters, .int t_length, .int t_at, .int t_size, .int t_faultPlace, .int t_faultReason, .int t_lettersTold, .int t_repeatsTold, .int t_correctionsTold, .int t_mostCorrections, .int t_deepest, .int t_fresh])), (h_t_letters, .inl (cI, 744, .inl t_letters)), (h_t_signs, .inl (cI, 60, .inl t_signs))] sz)) 0 0 (va_A [(h_t, .inr (3, [.ref h_t_signs, .ref h_t_letters, .int t_length, .int t_at, .int t_size, .int t_faultPlace, .int t_faultReason, .int t_lettersTold, .int t_repeatsTold, .int t_correctionsTold, .int t_mostCorrections, .int t_deepest, .int t_fresh])), (h_t_letters, .inl (cI, 744, .inl t_letters)), (h_t_signs, .inl (cI, 60, .inl t_signs))] sz) := by
  intro n
  induction n with
  | zero =>
    intro dC dI cI cJ cC cS h_t h_t_signs h_t_letters sz t_length t_at t_size t_faultPlace t_faultReason t_lettersTold t_repeatsTold t_correctionsTold t_mostCorrections t_deepest t_fresh t_letters t_signs x1 r y_t_at y_t_size y_t_faultPlace y_t_faultReason y_t_lettersTold y_t_repeatsTold y_t_correctionsTold y_t_mostCorrections y_t_letters hres
    cases hres
  | succ n ih =>
    intro dC dI cI cJ cC cS h_t h_t_signs h_t_letters sz t_length t_at t_size t_faultPlace t_faultReason t_lettersTold t_repeatsTold t_correctionsTold t_mostCorrections t_deepest t_fresh t_letters t_signs x1 r y_t_at y_t_size y_t_faultPlace y_t_faultReason y_t_lettersTold y_t_repeatsTold y_t_correctionsTold y_t_mostCorrections y_t_letters hres
    exact cRd_readItemsB l (rfRd_readItems n + 6) (rlRd_readItems n + 132) (fRd_readRepeat (fRd_readItems n)) (fun dC dI cI cJ cC cS h_t h_t_signs h_t_letters sz t_length t_at t_size t_faultPlace t_faultReason t_lettersTold t_repeatsTold t_correctionsTold t_mostCorrections t_deepest t_fresh t_letters t_signs x1 x2 r y_t_at y_t_size y_t_faultPlace y_t_faultReason y_t_lettersTold y_t_repeatsTold y_t_correctionsTold y_t_mostCorrections y_t_letters hres => cRd_readRepeat l (rfRd_readItems n) (rlRd_readItems n) (fRd_readItems n) ih dC dI cI cJ cC cS h_t h_t_signs h_t_letters sz t_length t_at t_size t_faultPlace t_faultReason t_lettersTold t_repeatsTold t_correctionsTold t_mostCorrections t_deepest t_fresh t_letters t_signs x1 x2 r y_t_at y_t_size y_t_faultPlace y_t_faultReason y_t_lettersTold y_t_repeatsTold y_t_correctionsTold y_t_mostCorrections y_t_letters hres) dC dI cI cJ cC cS h_t h_t_signs h_t_letters sz t_length t_at t_size t_faultPlace t_faultReason t_lettersTold t_repeatsTold t_correctionsTold t_mostCorrections t_deepest t_fresh t_letters t_signs x1 r y_t_at y_t_size y_t_faultPlace y_t_faultReason y_t_lettersTold y_t_repeatsTold y_t_correctionsTold y_t_mostCorrections y_t_letters hres

-- Rd_refresh
theorem kRd_refresh_X4_refresh_0 : Cond.fieldLink RX4 49 "RepeatNests$Reader" "fresh" "Z" ∈ wsX4_refresh := by decide +kernel
theorem iRd_refresh_X4_refresh_1 : ∀ w ∈ wsX40, w ∈ wsX4_refresh := by decide +kernel
theorem kRd_refresh_X4_refresh_2 : Cond.fieldLink RX4 22 "RepeatNests$Reader" "at" "I" ∈ wsX4_refresh := by decide +kernel
theorem kRd_refresh_X4_refresh_3 : Cond.fieldLink RX4 25 "RepeatNests$Reader" "size" "I" ∈ wsX4_refresh := by decide +kernel
theorem kRd_refresh_X4_refresh_4 : Cond.fieldLink RX4 28 "RepeatNests$Reader" "faultPlace" "I" ∈ wsX4_refresh := by decide +kernel
theorem kRd_refresh_X4_refresh_5 : Cond.fieldLink RX4 31 "RepeatNests$Reader" "faultReason" "I" ∈ wsX4_refresh := by decide +kernel
theorem kRd_refresh_X4_refresh_6 : Cond.fieldLink RX4 34 "RepeatNests$Reader" "lettersTold" "I" ∈ wsX4_refresh := by decide +kernel
theorem kRd_refresh_X4_refresh_7 : Cond.fieldLink RX4 37 "RepeatNests$Reader" "repeatsTold" "I" ∈ wsX4_refresh := by decide +kernel
theorem kRd_refresh_X4_refresh_8 : Cond.fieldLink RX4 40 "RepeatNests$Reader" "correctionsTold" "I" ∈ wsX4_refresh := by decide +kernel
theorem kRd_refresh_X4_refresh_9 : Cond.fieldLink RX4 43 "RepeatNests$Reader" "mostCorrections" "I" ∈ wsX4_refresh := by decide +kernel
theorem kRd_refresh_X4_refresh_10 : Cond.fieldLink RX4 46 "RepeatNests$Reader" "deepest" "I" ∈ wsX4_refresh := by decide +kernel
set_option maxHeartbeats 4000000 in
set_option maxRecDepth 100000 in
theorem cRd_refresh (l : Launch) (dC : Nat → ClassId) (dI : Nat → Nat → Nat) (cI cJ cC cS : ClassId) (h_t h_t_signs h_t_letters : Nat) (sz : Nat) (t_length : Int32) (t_at : Int32) (t_size : Int32) (t_faultPlace : Int32) (t_faultReason : Int32) (t_lettersTold : Int32) (t_repeatsTold : Int32) (t_correctionsTold : Int32) (t_mostCorrections : Int32) (t_deepest : Int32) (t_fresh : Int32) (t_letters : Nat → Int32) (t_signs : Nat → Int32) (y_t_at : Int32) (y_t_size : Int32) (y_t_faultPlace : Int32) (y_t_faultReason : Int32) (y_t_lettersTold : Int32) (y_t_repeatsTold : Int32) (y_t_correctionsTold : Int32) (y_t_mostCorrections : Int32) (y_t_deepest : Int32) (y_t_fresh : Int32) (y_t_letters : Nat → Int32) (hres : fRd_refresh t_length t_signs t_at t_size t_faultPlace t_faultReason t_lettersTold t_repeatsTold t_correctionsTold t_mostCorrections t_deepest t_fresh t_letters = some (y_t_at, y_t_size, y_t_faultPlace, y_t_faultReason, y_t_lettersTold, y_t_repeatsTold, y_t_correctionsTold, y_t_mostCorrections, y_t_deepest, y_t_fresh, y_t_letters)) :
    Met l yX4_refresh wsX4_refresh ({ frames := 401, cells := 0, slots := 0, locals := 8625 } : Room) (va_Pc [.ref h_t] (fun (U : State) => U.heap.size = sz ∧ va_P (dC, dI) vwCl [(h_t, .inr (3, [.ref h_t_signs, .ref h_t_letters, .int t_length, .int t_at, .int t_size, .int t_faultPlace, .int t_faultReason, .int t_lettersTold, .int t_repeatsTold, .int t_correctionsTold, .int t_mostCorrections, .int t_deepest, .int t_fresh])), (h_t_letters, .inl (cI, 744, .inl t_letters)), (h_t_signs, .inl (cI, 60, .inl t_signs))] U.heap ∧ va_K (dC, dI) vwCl (tyA cI cJ cC cS) U ∧ nwN U ∧ va_D (fun _ => True) [(h_t, .inr (3, [.ref h_t_signs, .ref h_t_letters, .int t_length, .int t_at, .int t_size, .int t_faultPlace, .int t_faultReason, .int t_lettersTold, .int t_repeatsTold, .int t_correctionsTold, .int t_mostCorrections, .int t_deepest, .int t_fresh])), (h_t_letters, .inl (cI, 744, .inl t_letters)), (h_t_signs, .inl (cI, 60, .inl t_signs))])) (va_Qv (fun (_ : Unit) => True) (fun (_ : Unit) (t : State) => va_P (dC, dI) vwCl [(h_t, .inr (3, [.ref h_t_signs, .ref h_t_letters, .int t_length, .int y_t_at, .int y_t_size, .int y_t_faultPlace, .int y_t_faultReason, .int y_t_lettersTold, .int y_t_repeatsTold, .int y_t_correctionsTold, .int y_t_mostCorrections, .int y_t_deepest, .int y_t_fresh])), (h_t_letters, .inl (cI, 744, .inl y_t_letters)), (h_t_signs, .inl (cI, 60, .inl t_signs))] t.heap ∧ va_K (dC, dI) vwCl (tyA cI cJ cC cS) t ∧ va_D (va_A [(h_t, .inr (3, [.ref h_t_signs, .ref h_t_letters, .int t_length, .int t_at, .int t_size, .int t_faultPlace, .int t_faultReason, .int t_lettersTold, .int t_repeatsTold, .int t_correctionsTold, .int t_mostCorrections, .int t_deepest, .int t_fresh])), (h_t_letters, .inl (cI, 744, .inl t_letters)), (h_t_signs, .inl (cI, 60, .inl t_signs))] sz) [(h_t, .inr (3, [.ref h_t_signs, .ref h_t_letters, .int t_length, .int y_t_at, .int y_t_size, .int y_t_faultPlace, .int y_t_faultReason, .int y_t_lettersTold, .int y_t_repeatsTold, .int y_t_correctionsTold, .int y_t_mostCorrections, .int y_t_deepest, .int y_t_fresh])), (h_t_letters, .inl (cI, 744, .inl y_t_letters)), (h_t_signs, .inl (cI, 60, .inl t_signs))]) (va_A [(h_t, .inr (3, [.ref h_t_signs, .ref h_t_letters, .int t_length, .int t_at, .int t_size, .int t_faultPlace, .int t_faultReason, .int t_lettersTold, .int t_repeatsTold, .int t_correctionsTold, .int t_mostCorrections, .int t_deepest, .int t_fresh])), (h_t_letters, .inl (cI, 744, .inl t_letters)), (h_t_signs, .inl (cI, 60, .inl t_signs))] sz)) 0 0 (va_A [(h_t, .inr (3, [.ref h_t_signs, .ref h_t_letters, .int t_length, .int t_at, .int t_size, .int t_faultPlace, .int t_faultReason, .int t_lettersTold, .int t_repeatsTold, .int t_correctionsTold, .int t_mostCorrections, .int t_deepest, .int t_fresh])), (h_t_letters, .inl (cI, 744, .inl t_letters)), (h_t_signs, .inl (cI, 60, .inl t_signs))] sz) := by
  refine Met.ofW (cc := cX4_refresh) (maxL := 1) (ret := none) (by decide) rfl ?_
  intro p e s m args below meth c s₁ B hml hv
  obtain ⟨hargs, hsz, hP, hK, hN, hD0⟩ := hv
  have hx := B.exec
  have hb := B.bytes
  have hr := B.returns
  have hts := atoms_spec (ws := wsX4_refresh) B.pre
  have hown : s.vm.findClass RX4 = some m.cls := findClass_of_methodNamed B.named
  have hlocks := B.notSynchronized
  subst hsz
  have hD := hD0.self (sz := s.heap.size)
  generalize hAe : va_A [(h_t, .inr (3, [.ref h_t_signs, .ref h_t_letters, .int t_length, .int t_at, .int t_size, .int t_faultPlace, .int t_faultReason, .int t_lettersTold, .int t_repeatsTold, .int t_correctionsTold, .int t_mostCorrections, .int t_deepest, .int t_fresh])), (h_t_letters, .inl (cI, 744, .inl t_letters)), (h_t_signs, .inl (cI, 60, .inl t_signs))] s.heap.size = A at hD ⊢
  have hA : ∀ q : Nat, s.heap.size ≤ q → A q := fun q h => by rw [← hAe]; exact Or.inr h
  have hS : va_S A s.heap s.heap [] := va_S.rf
  have hP : va_P (dC, dI) vwCl [(h_t, .inr (3, [.ref h_t_signs, .ref h_t_letters, .int t_length, .int t_at, .int t_size, .int t_faultPlace, .int t_faultReason, .int t_lettersTold, .int t_repeatsTold, .int t_correctionsTold, .int t_mostCorrections, .int t_deepest, .int t_fresh])), (h_t_letters, .inl (cI, 744, .inl t_letters)), (h_t_signs, .inl (cI, 60, .inl t_signs))] s.heap := hP
  have hl := lv_entry [.ref h_t] (n := 1) (Nat.le_of_ble_eq_true rfl)
  rw [show entryFrame m args 1 = entryFrame m ([.ref h_t] : List Value).toArray 1 from by rw [hargs], lg_entry_eq]
  generalize (lg_sl [.ref h_t] ++ List.replicate (1 - (lg_sl [.ref h_t]).length) Slot.unset).toArray = ls at hl ⊢
  have hl : lv_has ls 1 [(0, .ref h_t)] := hl
  generalize hQQ : MQ below (va_Qv (fun (_ : Unit) => True) (fun (_ : Unit) (t : State) => va_P (dC, dI) vwCl [(h_t, .inr (3, [.ref h_t_signs, .ref h_t_letters, .int t_length, .int y_t_at, .int y_t_size, .int y_t_faultPlace, .int y_t_faultReason, .int y_t_lettersTold, .int y_t_repeatsTold, .int y_t_correctionsTold, .int y_t_mostCorrections, .int y_t_deepest, .int y_t_fresh])), (h_t_letters, .inl (cI, 744, .inl y_t_letters)), (h_t_signs, .inl (cI, 60, .inl t_signs))] t.heap ∧ va_K (dC, dI) vwCl (tyA cI cJ cC cS) t ∧ va_D A [(h_t, .inr (3, [.ref h_t_signs, .ref h_t_letters, .int t_length, .int y_t_at, .int y_t_size, .int y_t_faultPlace, .int y_t_faultReason, .int y_t_lettersTold, .int y_t_repeatsTold, .int y_t_correctionsTold, .int y_t_mostCorrections, .int y_t_deepest, .int y_t_fresh])), (h_t_letters, .inl (cI, 744, .inl y_t_letters)), (h_t_signs, .inl (cI, 60, .inl t_signs))]) A) args s 0 0 A = QQ
  obtain ⟨H, hH⟩ : ∃ H : Heap, H = s.heap := ⟨_, rfl⟩
  obtain ⟨locs, hlocs⟩ : ∃ locs : List Loc, locs = [] := ⟨_, rfl⟩
  rw [← hH] at hP
  have hS : va_S A s.heap H locs := by rw [hH, hlocs]; exact hS
  suffices hZ : W p l e (headSpec wsX4_refresh ({ frames := 401, cells := 0, slots := 0, locals := 8625 } : Room)).room s m args below meth c H locs 0 0 QQ (F0 m 0 ls []) by rw [hH, hlocs] at hZ; exact hZ
  clear hH hlocs
  rw [fRd_refresh] at hres
  refine lv_aload_n hx hb dX4_refresh_0 rfl (lv_at hl 0 rfl) ?_
  refine va_get (D := (dC, dI)) (ci := 3) (v := .int t_fresh) (C := RX4) (T := TX4) (N := 13) hx hb hts iRd_refresh_X4_refresh_1 hown hK hP 0 rfl rfl 12 (by decide) (hts _ kRd_refresh_X4_refresh_0) (fun _ h9 => h9) rfl dX4_refresh_1 ?_
  refine lv_if_eq (tgt := 8) hx hb dX4_refresh_4 (by decide) (fun c_1 => ?_) (fun c_1 => ?_)
  · have hres := it_of hres c_1
    refine lv_aload_n hx hb dX4_refresh_8 rfl (lv_at hl 0 rfl) ?_
    refine lv_iconst (v := (1 : Int32)) hx hb dX4_refresh_9 (by decide) ?_
    refine va_put (D := (dC, dI)) (ci := 3) (v := .int (1 : Int32)) (ty := .boolean) (C := RX4) (T := TX4) (N := 13) hx hb hts iRd_refresh_X4_refresh_1 tyX4 tyX4_ok nmX4 hown hK hP hD hS 0 rfl rfl 12 (by decide) (hts _ kRd_refresh_X4_refresh_0) (fun _ h9 => h9) rfl (by decide +kernel) rfl rfl (Nat.le_of_ble_eq_true rfl) dX4_refresh_10 (fun H locs hP hD hS => ?_)
    have hP : va_P (dC, dI) vwCl [(h_t, .inr (3, [.ref h_t_signs, .ref h_t_letters, .int t_length, .int t_at, .int t_size, .int t_faultPlace, .int t_faultReason, .int t_lettersTold, .int t_repeatsTold, .int t_correctionsTold, .int t_mostCorrections, .int t_deepest, .int (1 : Int32)])), (h_t_letters, .inl (cI, 744, .inl t_letters)), (h_t_signs, .inl (cI, 60, .inl t_signs))] H := hP
    have hD : va_D A [(h_t, .inr (3, [.ref h_t_signs, .ref h_t_letters, .int t_length, .int t_at, .int t_size, .int t_faultPlace, .int t_faultReason, .int t_lettersTold, .int t_repeatsTold, .int t_correctionsTold, .int t_mostCorrections, .int t_deepest, .int (1 : Int32)])), (h_t_letters, .inl (cI, 744, .inl t_letters)), (h_t_signs, .inl (cI, 60, .inl t_signs))] := hD
    refine lv_aload_n hx hb dX4_refresh_13 rfl (lv_at hl 0 rfl) ?_
    refine lv_iconst (v := (0 : Int32)) hx hb dX4_refresh_14 (by decide) ?_
    refine va_put (D := (dC, dI)) (ci := 3) (v := .int (0 : Int32)) (ty := .int) (C := RX4) (T := TX4) (N := 13) hx hb hts iRd_refresh_X4_refresh_1 tyX4 tyX4_ok nmX4 hown hK hP hD hS 0 rfl rfl 3 (by decide) (hts _ kRd_refresh_X4_refresh_2) (fun _ h9 => h9) rfl (by decide +kernel) rfl rfl (Nat.le_of_ble_eq_true rfl) dX4_refresh_15 (fun H locs hP hD hS => ?_)
    have hP : va_P (dC, dI) vwCl [(h_t, .inr (3, [.ref h_t_signs, .ref h_t_letters, .int t_length, .int (0 : Int32), .int t_size, .int t_faultPlace, .int t_faultReason, .int t_lettersTold, .int t_repeatsTold, .int t_correctionsTold, .int t_mostCorrections, .int t_deepest, .int (1 : Int32)])), (h_t_letters, .inl (cI, 744, .inl t_letters)), (h_t_signs, .inl (cI, 60, .inl t_signs))] H := hP
    have hD : va_D A [(h_t, .inr (3, [.ref h_t_signs, .ref h_t_letters, .int t_length, .int (0 : Int32), .int t_size, .int t_faultPlace, .int t_faultReason, .int t_lettersTold, .int t_repeatsTold, .int t_correctionsTold, .int t_mostCorrections, .int t_deepest, .int (1 : Int32)])), (h_t_letters, .inl (cI, 744, .inl t_letters)), (h_t_signs, .inl (cI, 60, .inl t_signs))] := hD
    refine lv_aload_n hx hb dX4_refresh_18 rfl (lv_at hl 0 rfl) ?_
    refine lv_iconst (v := (0 : Int32)) hx hb dX4_refresh_19 (by decide) ?_
    refine va_put (D := (dC, dI)) (ci := 3) (v := .int (0 : Int32)) (ty := .int) (C := RX4) (T := TX4) (N := 13) hx hb hts iRd_refresh_X4_refresh_1 tyX4 tyX4_ok nmX4 hown hK hP hD hS 0 rfl rfl 4 (by decide) (hts _ kRd_refresh_X4_refresh_3) (fun _ h9 => h9) rfl (by decide +kernel) rfl rfl (Nat.le_of_ble_eq_true rfl) dX4_refresh_20 (fun H locs hP hD hS => ?_)
    have hP : va_P (dC, dI) vwCl [(h_t, .inr (3, [.ref h_t_signs, .ref h_t_letters, .int t_length, .int (0 : Int32), .int (0 : Int32), .int t_faultPlace, .int t_faultReason, .int t_lettersTold, .int t_repeatsTold, .int t_correctionsTold, .int t_mostCorrections, .int t_deepest, .int (1 : Int32)])), (h_t_letters, .inl (cI, 744, .inl t_letters)), (h_t_signs, .inl (cI, 60, .inl t_signs))] H := hP
    have hD : va_D A [(h_t, .inr (3, [.ref h_t_signs, .ref h_t_letters, .int t_length, .int (0 : Int32), .int (0 : Int32), .int t_faultPlace, .int t_faultReason, .int t_lettersTold, .int t_repeatsTold, .int t_correctionsTold, .int t_mostCorrections, .int t_deepest, .int (1 : Int32)])), (h_t_letters, .inl (cI, 744, .inl t_letters)), (h_t_signs, .inl (cI, 60, .inl t_signs))] := hD
    refine lv_aload_n hx hb dX4_refresh_23 rfl (lv_at hl 0 rfl) ?_
    refine lv_iconst (v := (0 : Int32)) hx hb dX4_refresh_24 (by decide) ?_
    refine va_put (D := (dC, dI)) (ci := 3) (v := .int (0 : Int32)) (ty := .int) (C := RX4) (T := TX4) (N := 13) hx hb hts iRd_refresh_X4_refresh_1 tyX4 tyX4_ok nmX4 hown hK hP hD hS 0 rfl rfl 5 (by decide) (hts _ kRd_refresh_X4_refresh_4) (fun _ h9 => h9) rfl (by decide +kernel) rfl rfl (Nat.le_of_ble_eq_true rfl) dX4_refresh_25 (fun H locs hP hD hS => ?_)
    have hP : va_P (dC, dI) vwCl [(h_t, .inr (3, [.ref h_t_signs, .ref h_t_letters, .int t_length, .int (0 : Int32), .int (0 : Int32), .int (0 : Int32), .int t_faultReason, .int t_lettersTold, .int t_repeatsTold, .int t_correctionsTold, .int t_mostCorrections, .int t_deepest, .int (1 : Int32)])), (h_t_letters, .inl (cI, 744, .inl t_letters)), (h_t_signs, .inl (cI, 60, .inl t_signs))] H := hP
    have hD : va_D A [(h_t, .inr (3, [.ref h_t_signs, .ref h_t_letters, .int t_length, .int (0 : Int32), .int (0 : Int32), .int (0 : Int32), .int t_faultReason, .int t_lettersTold, .int t_repeatsTold, .int t_correctionsTold, .int t_mostCorrections, .int t_deepest, .int (1 : Int32)])), (h_t_letters, .inl (cI, 744, .inl t_letters)), (h_t_signs, .inl (cI, 60, .inl t_signs))] := hD
    refine lv_aload_n hx hb dX4_refresh_28 rfl (lv_at hl 0 rfl) ?_
    refine lv_iconst (v := (0 : Int32)) hx hb dX4_refresh_29 (by decide) ?_
    refine va_put (D := (dC, dI)) (ci := 3) (v := .int (0 : Int32)) (ty := .int) (C := RX4) (T := TX4) (N := 13) hx hb hts iRd_refresh_X4_refresh_1 tyX4 tyX4_ok nmX4 hown hK hP hD hS 0 rfl rfl 6 (by decide) (hts _ kRd_refresh_X4_refresh_5) (fun _ h9 => h9) rfl (by decide +kernel) rfl rfl (Nat.le_of_ble_eq_true rfl) dX4_refresh_30 (fun H locs hP hD hS => ?_)
    have hP : va_P (dC, dI) vwCl [(h_t, .inr (3, [.ref h_t_signs, .ref h_t_letters, .int t_length, .int (0 : Int32), .int (0 : Int32), .int (0 : Int32), .int (0 : Int32), .int t_lettersTold, .int t_repeatsTold, .int t_correctionsTold, .int t_mostCorrections, .int t_deepest, .int (1 : Int32)])), (h_t_letters, .inl (cI, 744, .inl t_letters)), (h_t_signs, .inl (cI, 60, .inl t_signs))] H := hP
    have hD : va_D A [(h_t, .inr (3, [.ref h_t_signs, .ref h_t_letters, .int t_length, .int (0 : Int32), .int (0 : Int32), .int (0 : Int32), .int (0 : Int32), .int t_lettersTold, .int t_repeatsTold, .int t_correctionsTold, .int t_mostCorrections, .int t_deepest, .int (1 : Int32)])), (h_t_letters, .inl (cI, 744, .inl t_letters)), (h_t_signs, .inl (cI, 60, .inl t_signs))] := hD
    refine lv_aload_n hx hb dX4_refresh_33 rfl (lv_at hl 0 rfl) ?_
    refine lv_iconst (v := (0 : Int32)) hx hb dX4_refresh_34 (by decide) ?_
    refine va_put (D := (dC, dI)) (ci := 3) (v := .int (0 : Int32)) (ty := .int) (C := RX4) (T := TX4) (N := 13) hx hb hts iRd_refresh_X4_refresh_1 tyX4 tyX4_ok nmX4 hown hK hP hD hS 0 rfl rfl 7 (by decide) (hts _ kRd_refresh_X4_refresh_6) (fun _ h9 => h9) rfl (by decide +kernel) rfl rfl (Nat.le_of_ble_eq_true rfl) dX4_refresh_35 (fun H locs hP hD hS => ?_)
    have hP : va_P (dC, dI) vwCl [(h_t, .inr (3, [.ref h_t_signs, .ref h_t_letters, .int t_length, .int (0 : Int32), .int (0 : Int32), .int (0 : Int32), .int (0 : Int32), .int (0 : Int32), .int t_repeatsTold, .int t_correctionsTold, .int t_mostCorrections, .int t_deepest, .int (1 : Int32)])), (h_t_letters, .inl (cI, 744, .inl t_letters)), (h_t_signs, .inl (cI, 60, .inl t_signs))] H := hP
    have hD : va_D A [(h_t, .inr (3, [.ref h_t_signs, .ref h_t_letters, .int t_length, .int (0 : Int32), .int (0 : Int32), .int (0 : Int32), .int (0 : Int32), .int (0 : Int32), .int t_repeatsTold, .int t_correctionsTold, .int t_mostCorrections, .int t_deepest, .int (1 : Int32)])), (h_t_letters, .inl (cI, 744, .inl t_letters)), (h_t_signs, .inl (cI, 60, .inl t_signs))] := hD
    refine lv_aload_n hx hb dX4_refresh_38 rfl (lv_at hl 0 rfl) ?_
    refine lv_iconst (v := (0 : Int32)) hx hb dX4_refresh_39 (by decide) ?_
    refine va_put (D := (dC, dI)) (ci := 3) (v := .int (0 : Int32)) (ty := .int) (C := RX4) (T := TX4) (N := 13) hx hb hts iRd_refresh_X4_refresh_1 tyX4 tyX4_ok nmX4 hown hK hP hD hS 0 rfl rfl 8 (by decide) (hts _ kRd_refresh_X4_refresh_7) (fun _ h9 => h9) rfl (by decide +kernel) rfl rfl (Nat.le_of_ble_eq_true rfl) dX4_refresh_40 (fun H locs hP hD hS => ?_)
    have hP : va_P (dC, dI) vwCl [(h_t, .inr (3, [.ref h_t_signs, .ref h_t_letters, .int t_length, .int (0 : Int32), .int (0 : Int32), .int (0 : Int32), .int (0 : Int32), .int (0 : Int32), .int (0 : Int32), .int t_correctionsTold, .int t_mostCorrections, .int t_deepest, .int (1 : Int32)])), (h_t_letters, .inl (cI, 744, .inl t_letters)), (h_t_signs, .inl (cI, 60, .inl t_signs))] H := hP
    have hD : va_D A [(h_t, .inr (3, [.ref h_t_signs, .ref h_t_letters, .int t_length, .int (0 : Int32), .int (0 : Int32), .int (0 : Int32), .int (0 : Int32), .int (0 : Int32), .int (0 : Int32), .int t_correctionsTold, .int t_mostCorrections, .int t_deepest, .int (1 : Int32)])), (h_t_letters, .inl (cI, 744, .inl t_letters)), (h_t_signs, .inl (cI, 60, .inl t_signs))] := hD
    refine lv_aload_n hx hb dX4_refresh_43 rfl (lv_at hl 0 rfl) ?_
    refine lv_iconst (v := (0 : Int32)) hx hb dX4_refresh_44 (by decide) ?_
    refine va_put (D := (dC, dI)) (ci := 3) (v := .int (0 : Int32)) (ty := .int) (C := RX4) (T := TX4) (N := 13) hx hb hts iRd_refresh_X4_refresh_1 tyX4 tyX4_ok nmX4 hown hK hP hD hS 0 rfl rfl 9 (by decide) (hts _ kRd_refresh_X4_refresh_8) (fun _ h9 => h9) rfl (by decide +kernel) rfl rfl (Nat.le_of_ble_eq_true rfl) dX4_refresh_45 (fun H locs hP hD hS => ?_)
    have hP : va_P (dC, dI) vwCl [(h_t, .inr (3, [.ref h_t_signs, .ref h_t_letters, .int t_length, .int (0 : Int32), .int (0 : Int32), .int (0 : Int32), .int (0 : Int32), .int (0 : Int32), .int (0 : Int32), .int (0 : Int32), .int t_mostCorrections, .int t_deepest, .int (1 : Int32)])), (h_t_letters, .inl (cI, 744, .inl t_letters)), (h_t_signs, .inl (cI, 60, .inl t_signs))] H := hP
    have hD : va_D A [(h_t, .inr (3, [.ref h_t_signs, .ref h_t_letters, .int t_length, .int (0 : Int32), .int (0 : Int32), .int (0 : Int32), .int (0 : Int32), .int (0 : Int32), .int (0 : Int32), .int (0 : Int32), .int t_mostCorrections, .int t_deepest, .int (1 : Int32)])), (h_t_letters, .inl (cI, 744, .inl t_letters)), (h_t_signs, .inl (cI, 60, .inl t_signs))] := hD
    refine lv_aload_n hx hb dX4_refresh_48 rfl (lv_at hl 0 rfl) ?_
    refine lv_iconst (v := (0 : Int32)) hx hb dX4_refresh_49 (by decide) ?_
    refine va_put (D := (dC, dI)) (ci := 3) (v := .int (0 : Int32)) (ty := .int) (C := RX4) (T := TX4) (N := 13) hx hb hts iRd_refresh_X4_refresh_1 tyX4 tyX4_ok nmX4 hown hK hP hD hS 0 rfl rfl 10 (by decide) (hts _ kRd_refresh_X4_refresh_9) (fun _ h9 => h9) rfl (by decide +kernel) rfl rfl (Nat.le_of_ble_eq_true rfl) dX4_refresh_50 (fun H locs hP hD hS => ?_)
    have hP : va_P (dC, dI) vwCl [(h_t, .inr (3, [.ref h_t_signs, .ref h_t_letters, .int t_length, .int (0 : Int32), .int (0 : Int32), .int (0 : Int32), .int (0 : Int32), .int (0 : Int32), .int (0 : Int32), .int (0 : Int32), .int (0 : Int32), .int t_deepest, .int (1 : Int32)])), (h_t_letters, .inl (cI, 744, .inl t_letters)), (h_t_signs, .inl (cI, 60, .inl t_signs))] H := hP
    have hD : va_D A [(h_t, .inr (3, [.ref h_t_signs, .ref h_t_letters, .int t_length, .int (0 : Int32), .int (0 : Int32), .int (0 : Int32), .int (0 : Int32), .int (0 : Int32), .int (0 : Int32), .int (0 : Int32), .int (0 : Int32), .int t_deepest, .int (1 : Int32)])), (h_t_letters, .inl (cI, 744, .inl t_letters)), (h_t_signs, .inl (cI, 60, .inl t_signs))] := hD
    refine lv_aload_n hx hb dX4_refresh_53 rfl (lv_at hl 0 rfl) ?_
    refine lv_aload_n hx hb dX4_refresh_54 rfl (lv_at hl 0 rfl) ?_
    refine lv_iconst (v := (0 : Int32)) hx hb dX4_refresh_55 (by decide) ?_
    obtain ⟨o2, ho2, hres⟩ := bd_of hres
    have hPc := hP.sub (ws' := [(h_t, .inr (3, [.ref h_t_signs, .ref h_t_letters, .int t_length, .int (0 : Int32), .int (0 : Int32), .int (0 : Int32), .int (0 : Int32), .int (0 : Int32), .int (0 : Int32), .int (0 : Int32), .int (0 : Int32), .int t_deepest, .int (1 : Int32)])), (h_t_letters, .inl (cI, 744, .inl t_letters)), (h_t_signs, .inl (cI, 60, .inl t_signs))]) [0, 1, 2] rfl
    have hDc := hD.sub (ws' := [(h_t, .inr (3, [.ref h_t_signs, .ref h_t_letters, .int t_length, .int (0 : Int32), .int (0 : Int32), .int (0 : Int32), .int (0 : Int32), .int (0 : Int32), .int (0 : Int32), .int (0 : Int32), .int (0 : Int32), .int t_deepest, .int (1 : Int32)])), (h_t_letters, .inl (cI, 744, .inl t_letters)), (h_t_signs, .inl (cI, 60, .inl t_signs))]) [0, 1, 2] (by decide) rfl
    have hFc := va_free (wc := [(h_t, .inr (3, [.ref h_t_signs, .ref h_t_letters, .int t_length, .int (0 : Int32), .int (0 : Int32), .int (0 : Int32), .int (0 : Int32), .int (0 : Int32), .int (0 : Int32), .int (0 : Int32), .int (0 : Int32), .int t_deepest, .int (1 : Int32)])), (h_t_letters, .inl (cI, 744, .inl t_letters)), (h_t_signs, .inl (cI, 60, .inl t_signs))]) hD hS hA [0, 1, 2] rfl
    refine va_calli (va_runV (As := [.int (0 : Int32)]) (rest := [.ref h_t]) ⟨hx, hb, hml, hown, hts⟩ (cRd_readItems l 40 dC dI cI cJ cC cS h_t h_t_signs h_t_letters H.size t_length (0 : Int32) (0 : Int32) (0 : Int32) (0 : Int32) (0 : Int32) (0 : Int32) (0 : Int32) (0 : Int32) t_deepest (1 : Int32) t_letters t_signs (0 : Int32) o2.1 o2.2.1 o2.2.2.1 o2.2.2.2.1 o2.2.2.2.2.1 o2.2.2.2.2.2.1 o2.2.2.2.2.2.2.1 o2.2.2.2.2.2.2.2.1 o2.2.2.2.2.2.2.2.2.1 o2.2.2.2.2.2.2.2.2.2 ho2) (cwV 1 hts gX4_refresh_X4_readItems rfl rfl rfl (by decide +kernel) ⟨Nat.le_of_ble_eq_true rfl, Nat.le_of_ble_eq_true rfl⟩) ⟨fun a U g mk q => by obtain ⟨q0, q1, qP, qK, qN, qD⟩ := q; exact ⟨q0, q1, qP, va_K.moved (u := U) (U := U.calling g mk a) (Vm.Alike.refl U.vm) qK, nwS (u := U) (U := U.calling g mk a) rfl qN, qD⟩, va_recv hK hPc (ci := 3) (q0 := 0) rfl rfl, fun U hU hW => ⟨rfl, by rw [hU], by rw [hU]; exact hPc, va_K.moved hW.alike hK, nwW hW hN, hDc.weaken (fun _ _ _ _ => trivial)⟩⟩ rfl rfl hl.1 rfl (lv_room (Nat.le_of_ble_eq_true rfl)) dX4_refresh_56 ⟨Nat.zero_le _, Nat.zero_le _⟩) hS (fun q _ h => hFc q h) hFc (fun r9 u9 t H1 locs ht hvm hw hB hz1 hk1 hS => ?_)
    have hw := hw.symm
    subst hw
    obtain ⟨hP1, hK1, hD1⟩ := hB
    rw [ht] at hP1
    obtain ⟨hP, hD⟩ := va_join (wr := []) (w1 := [(h_t, .inr (3, [.ref h_t_signs, .ref h_t_letters, .int t_length, .int o2.2.1, .int o2.2.2.1, .int o2.2.2.2.1, .int o2.2.2.2.2.1, .int o2.2.2.2.2.2.1, .int o2.2.2.2.2.2.2.1, .int o2.2.2.2.2.2.2.2.1, .int o2.2.2.2.2.2.2.2.2.1, .int t_deepest, .int (1 : Int32)])), (h_t_letters, .inl (cI, 744, .inl o2.2.2.2.2.2.2.2.2.2)), (h_t_signs, .inl (cI, 60, .inl t_signs))]) hP hD [0, 1, 2] [] rfl rfl (by decide) (by decide) hk1 hFc hP1 hD1
    generalize H1 = H at hP hS ⊢
    have hP : va_P (dC, dI) vwCl [(h_t, .inr (3, [.ref h_t_signs, .ref h_t_letters, .int t_length, .int o2.2.1, .int o2.2.2.1, .int o2.2.2.2.1, .int o2.2.2.2.2.1, .int o2.2.2.2.2.2.1, .int o2.2.2.2.2.2.2.1, .int o2.2.2.2.2.2.2.2.1, .int o2.2.2.2.2.2.2.2.2.1, .int t_deepest, .int (1 : Int32)])), (h_t_letters, .inl (cI, 744, .inl o2.2.2.2.2.2.2.2.2.2)), (h_t_signs, .inl (cI, 60, .inl t_signs))] H := hP
    have hD : va_D A [(h_t, .inr (3, [.ref h_t_signs, .ref h_t_letters, .int t_length, .int o2.2.1, .int o2.2.2.1, .int o2.2.2.2.1, .int o2.2.2.2.2.1, .int o2.2.2.2.2.2.1, .int o2.2.2.2.2.2.2.1, .int o2.2.2.2.2.2.2.2.1, .int o2.2.2.2.2.2.2.2.2.1, .int t_deepest, .int (1 : Int32)])), (h_t_letters, .inl (cI, 744, .inl o2.2.2.2.2.2.2.2.2.2)), (h_t_signs, .inl (cI, 60, .inl t_signs))] := hD
    refine va_put (D := (dC, dI)) (ci := 3) (v := .int o2.1) (ty := .int) (C := RX4) (T := TX4) (N := 13) hx hb hts iRd_refresh_X4_refresh_1 tyX4 tyX4_ok nmX4 hown hK hP hD hS 0 rfl rfl 11 (by decide) (hts _ kRd_refresh_X4_refresh_10) (fun _ h9 => h9) rfl (by decide +kernel) rfl rfl (Nat.le_of_ble_eq_true rfl) dX4_refresh_59 (fun H locs hP hD hS => ?_)
    have hP : va_P (dC, dI) vwCl [(h_t, .inr (3, [.ref h_t_signs, .ref h_t_letters, .int t_length, .int o2.2.1, .int o2.2.2.1, .int o2.2.2.2.1, .int o2.2.2.2.2.1, .int o2.2.2.2.2.2.1, .int o2.2.2.2.2.2.2.1, .int o2.2.2.2.2.2.2.2.1, .int o2.2.2.2.2.2.2.2.2.1, .int o2.1, .int (1 : Int32)])), (h_t_letters, .inl (cI, 744, .inl o2.2.2.2.2.2.2.2.2.2)), (h_t_signs, .inl (cI, 60, .inl t_signs))] H := hP
    have hD : va_D A [(h_t, .inr (3, [.ref h_t_signs, .ref h_t_letters, .int t_length, .int o2.2.1, .int o2.2.2.1, .int o2.2.2.2.1, .int o2.2.2.2.2.1, .int o2.2.2.2.2.2.1, .int o2.2.2.2.2.2.2.1, .int o2.2.2.2.2.2.2.2.1, .int o2.2.2.2.2.2.2.2.2.1, .int o2.1, .int (1 : Int32)])), (h_t_letters, .inl (cI, 744, .inl o2.2.2.2.2.2.2.2.2.2)), (h_t_signs, .inl (cI, 60, .inl t_signs))] := hD
    obtain ⟨e9_0, e9_1, e9_2, e9_3, e9_4, e9_5, e9_6, e9_7, e9_8, e9_9, e9_10⟩ := tup11 hres
    subst e9_0
    subst e9_1
    subst e9_2
    subst e9_3
    subst e9_4
    subst e9_5
    subst e9_6
    subst e9_7
    subst e9_8
    subst e9_9
    subst e9_10
    rw [← hQQ]
    exact W.vret hx hb hr (fun t ht hW => ⟨⟨(), rfl, trivial, by rw [ht]; exact hP, va_K.moved hW.alike hK, hD⟩, hS.F ht⟩) hS.2.2 dX4_refresh_62
  · have hres := ie_of hres c_1
    obtain ⟨e9_0, e9_1, e9_2, e9_3, e9_4, e9_5, e9_6, e9_7, e9_8, e9_9, e9_10⟩ := tup11 hres
    subst e9_0
    subst e9_1
    subst e9_2
    subst e9_3
    subst e9_4
    subst e9_5
    subst e9_6
    subst e9_7
    subst e9_8
    subst e9_9
    subst e9_10
    rw [← hQQ]
    exact W.vret hx hb hr (fun t ht hW => ⟨⟨(), rfl, trivial, by rw [ht]; exact hP, va_K.moved hW.alike hK, hD⟩, hS.F ht⟩) hS.2.2 dX4_refresh_7

-- Rd_empty
theorem kRd_empty_X4_empty_0 : Cond.fieldLink RX4 18 "RepeatNests$Reader" "length" "I" ∈ wsX4_empty := by decide +kernel
theorem iRd_empty_X4_empty_1 : ∀ w ∈ wsX40, w ∈ wsX4_empty := by decide +kernel
theorem kRd_empty_X4_empty_2 : Cond.fieldLink RX4 49 "RepeatNests$Reader" "fresh" "Z" ∈ wsX4_empty := by decide +kernel
set_option maxHeartbeats 4000000 in
set_option maxRecDepth 100000 in
theorem cRd_empty (l : Launch) (dC : Nat → ClassId) (dI : Nat → Nat → Nat) (cI cJ cC cS : ClassId) (h_t h_t_signs h_t_letters : Nat) (sz : Nat) (t_length : Int32) (t_at : Int32) (t_size : Int32) (t_faultPlace : Int32) (t_faultReason : Int32) (t_lettersTold : Int32) (t_repeatsTold : Int32) (t_correctionsTold : Int32) (t_mostCorrections : Int32) (t_deepest : Int32) (t_fresh : Int32) (y_t_length : Int32) (y_t_fresh : Int32) (hres : fRd_empty = some (y_t_length, y_t_fresh)) :
    Met l yX4_empty wsX4_empty ({ frames := 0, cells := 0, slots := 0, locals := 0 } : Room) (va_Pc [.ref h_t] (fun (U : State) => U.heap.size = sz ∧ va_P (dC, dI) vwCl [(h_t, .inr (3, [.ref h_t_signs, .ref h_t_letters, .int t_length, .int t_at, .int t_size, .int t_faultPlace, .int t_faultReason, .int t_lettersTold, .int t_repeatsTold, .int t_correctionsTold, .int t_mostCorrections, .int t_deepest, .int t_fresh]))] U.heap ∧ va_K (dC, dI) vwCl (tyA cI cJ cC cS) U ∧ nwN U ∧ va_D (fun _ => True) [(h_t, .inr (3, [.ref h_t_signs, .ref h_t_letters, .int t_length, .int t_at, .int t_size, .int t_faultPlace, .int t_faultReason, .int t_lettersTold, .int t_repeatsTold, .int t_correctionsTold, .int t_mostCorrections, .int t_deepest, .int t_fresh]))])) (va_Qv (fun (_ : Unit) => True) (fun (_ : Unit) (t : State) => va_P (dC, dI) vwCl [(h_t, .inr (3, [.ref h_t_signs, .ref h_t_letters, .int y_t_length, .int t_at, .int t_size, .int t_faultPlace, .int t_faultReason, .int t_lettersTold, .int t_repeatsTold, .int t_correctionsTold, .int t_mostCorrections, .int t_deepest, .int y_t_fresh]))] t.heap ∧ va_K (dC, dI) vwCl (tyA cI cJ cC cS) t ∧ va_D (va_A [(h_t, .inr (3, [.ref h_t_signs, .ref h_t_letters, .int t_length, .int t_at, .int t_size, .int t_faultPlace, .int t_faultReason, .int t_lettersTold, .int t_repeatsTold, .int t_correctionsTold, .int t_mostCorrections, .int t_deepest, .int t_fresh]))] sz) [(h_t, .inr (3, [.ref h_t_signs, .ref h_t_letters, .int y_t_length, .int t_at, .int t_size, .int t_faultPlace, .int t_faultReason, .int t_lettersTold, .int t_repeatsTold, .int t_correctionsTold, .int t_mostCorrections, .int t_deepest, .int y_t_fresh]))]) (va_A [(h_t, .inr (3, [.ref h_t_signs, .ref h_t_letters, .int t_length, .int t_at, .int t_size, .int t_faultPlace, .int t_faultReason, .int t_lettersTold, .int t_repeatsTold, .int t_correctionsTold, .int t_mostCorrections, .int t_deepest, .int t_fresh]))] sz)) 0 0 (va_A [(h_t, .inr (3, [.ref h_t_signs, .ref h_t_letters, .int t_length, .int t_at, .int t_size, .int t_faultPlace, .int t_faultReason, .int t_lettersTold, .int t_repeatsTold, .int t_correctionsTold, .int t_mostCorrections, .int t_deepest, .int t_fresh]))] sz) := by
  refine Met.ofW (cc := cX4_empty) (maxL := 1) (ret := none) (by decide) rfl ?_
  intro p e s m args below meth c s₁ B hml hv
  obtain ⟨hargs, hsz, hP, hK, hN, hD0⟩ := hv
  have hx := B.exec
  have hb := B.bytes
  have hr := B.returns
  have hts := atoms_spec (ws := wsX4_empty) B.pre
  have hown : s.vm.findClass RX4 = some m.cls := findClass_of_methodNamed B.named
  have hlocks := B.notSynchronized
  subst hsz
  have hD := hD0.self (sz := s.heap.size)
  generalize hAe : va_A [(h_t, .inr (3, [.ref h_t_signs, .ref h_t_letters, .int t_length, .int t_at, .int t_size, .int t_faultPlace, .int t_faultReason, .int t_lettersTold, .int t_repeatsTold, .int t_correctionsTold, .int t_mostCorrections, .int t_deepest, .int t_fresh]))] s.heap.size = A at hD ⊢
  have hA : ∀ q : Nat, s.heap.size ≤ q → A q := fun q h => by rw [← hAe]; exact Or.inr h
  have hS : va_S A s.heap s.heap [] := va_S.rf
  have hP : va_P (dC, dI) vwCl [(h_t, .inr (3, [.ref h_t_signs, .ref h_t_letters, .int t_length, .int t_at, .int t_size, .int t_faultPlace, .int t_faultReason, .int t_lettersTold, .int t_repeatsTold, .int t_correctionsTold, .int t_mostCorrections, .int t_deepest, .int t_fresh]))] s.heap := hP
  have hl := lv_entry [.ref h_t] (n := 1) (Nat.le_of_ble_eq_true rfl)
  rw [show entryFrame m args 1 = entryFrame m ([.ref h_t] : List Value).toArray 1 from by rw [hargs], lg_entry_eq]
  generalize (lg_sl [.ref h_t] ++ List.replicate (1 - (lg_sl [.ref h_t]).length) Slot.unset).toArray = ls at hl ⊢
  have hl : lv_has ls 1 [(0, .ref h_t)] := hl
  generalize hQQ : MQ below (va_Qv (fun (_ : Unit) => True) (fun (_ : Unit) (t : State) => va_P (dC, dI) vwCl [(h_t, .inr (3, [.ref h_t_signs, .ref h_t_letters, .int y_t_length, .int t_at, .int t_size, .int t_faultPlace, .int t_faultReason, .int t_lettersTold, .int t_repeatsTold, .int t_correctionsTold, .int t_mostCorrections, .int t_deepest, .int y_t_fresh]))] t.heap ∧ va_K (dC, dI) vwCl (tyA cI cJ cC cS) t ∧ va_D A [(h_t, .inr (3, [.ref h_t_signs, .ref h_t_letters, .int y_t_length, .int t_at, .int t_size, .int t_faultPlace, .int t_faultReason, .int t_lettersTold, .int t_repeatsTold, .int t_correctionsTold, .int t_mostCorrections, .int t_deepest, .int y_t_fresh]))]) A) args s 0 0 A = QQ
  obtain ⟨H, hH⟩ : ∃ H : Heap, H = s.heap := ⟨_, rfl⟩
  obtain ⟨locs, hlocs⟩ : ∃ locs : List Loc, locs = [] := ⟨_, rfl⟩
  rw [← hH] at hP
  have hS : va_S A s.heap H locs := by rw [hH, hlocs]; exact hS
  suffices hZ : W p l e (headSpec wsX4_empty ({ frames := 0, cells := 0, slots := 0, locals := 0 } : Room)).room s m args below meth c H locs 0 0 QQ (F0 m 0 ls []) by rw [hH, hlocs] at hZ; exact hZ
  clear hH hlocs
  rw [fRd_empty] at hres
  refine lv_aload_n hx hb dX4_empty_0 rfl (lv_at hl 0 rfl) ?_
  refine lv_iconst (v := (0 : Int32)) hx hb dX4_empty_1 (by decide) ?_
  refine va_put (D := (dC, dI)) (ci := 3) (v := .int (0 : Int32)) (ty := .int) (C := RX4) (T := TX4) (N := 13) hx hb hts iRd_empty_X4_empty_1 tyX4 tyX4_ok nmX4 hown hK hP hD hS 0 rfl rfl 2 (by decide) (hts _ kRd_empty_X4_empty_0) (fun _ h9 => h9) rfl (by decide +kernel) rfl rfl (Nat.le_of_ble_eq_true rfl) dX4_empty_2 (fun H locs hP hD hS => ?_)
  have hP : va_P (dC, dI) vwCl [(h_t, .inr (3, [.ref h_t_signs, .ref h_t_letters, .int (0 : Int32), .int t_at, .int t_size, .int t_faultPlace, .int t_faultReason, .int t_lettersTold, .int t_repeatsTold, .int t_correctionsTold, .int t_mostCorrections, .int t_deepest, .int t_fresh]))] H := hP
  have hD : va_D A [(h_t, .inr (3, [.ref h_t_signs, .ref h_t_letters, .int (0 : Int32), .int t_at, .int t_size, .int t_faultPlace, .int t_faultReason, .int t_lettersTold, .int t_repeatsTold, .int t_correctionsTold, .int t_mostCorrections, .int t_deepest, .int t_fresh]))] := hD
  refine lv_aload_n hx hb dX4_empty_5 rfl (lv_at hl 0 rfl) ?_
  refine lv_iconst (v := (0 : Int32)) hx hb dX4_empty_6 (by decide) ?_
  refine va_put (D := (dC, dI)) (ci := 3) (v := .int (0 : Int32)) (ty := .boolean) (C := RX4) (T := TX4) (N := 13) hx hb hts iRd_empty_X4_empty_1 tyX4 tyX4_ok nmX4 hown hK hP hD hS 0 rfl rfl 12 (by decide) (hts _ kRd_empty_X4_empty_2) (fun _ h9 => h9) rfl (by decide +kernel) rfl rfl (Nat.le_of_ble_eq_true rfl) dX4_empty_7 (fun H locs hP hD hS => ?_)
  have hP : va_P (dC, dI) vwCl [(h_t, .inr (3, [.ref h_t_signs, .ref h_t_letters, .int (0 : Int32), .int t_at, .int t_size, .int t_faultPlace, .int t_faultReason, .int t_lettersTold, .int t_repeatsTold, .int t_correctionsTold, .int t_mostCorrections, .int t_deepest, .int (0 : Int32)]))] H := hP
  have hD : va_D A [(h_t, .inr (3, [.ref h_t_signs, .ref h_t_letters, .int (0 : Int32), .int t_at, .int t_size, .int t_faultPlace, .int t_faultReason, .int t_lettersTold, .int t_repeatsTold, .int t_correctionsTold, .int t_mostCorrections, .int t_deepest, .int (0 : Int32)]))] := hD
  obtain ⟨e9_0, e9_1⟩ := tup2 hres
  subst e9_0
  subst e9_1
  rw [← hQQ]
  exact W.vret hx hb hr (fun t ht hW => ⟨⟨(), rfl, trivial, by rw [ht]; exact hP, va_K.moved hW.alike hK, hD⟩, hS.F ht⟩) hS.2.2 dX4_empty_10

-- Rd_describes
theorem kRd_describes_X4_describes_0 : Cond.fieldLink RX4 25 "RepeatNests$Reader" "size" "I" ∈ wsX4_describes := by decide +kernel
theorem iRd_describes_X4_describes_1 : ∀ w ∈ wsX40, w ∈ wsX4_describes := by decide +kernel
theorem iRd_describes_X4_describes_2 : ∀ w ∈ wsX70, w ∈ wsX4_describes := by decide +kernel
set_option maxHeartbeats 4000000 in
set_option maxRecDepth 100000 in
theorem cRd_describes (l : Launch) (dC : Nat → ClassId) (dI : Nat → Nat → Nat) (cI cJ cC cS : ClassId) (h_t h_t_signs h_t_letters h_u h_u_letters h_u_settings : Nat) (sz : Nat) (t_length : Int32) (t_at : Int32) (t_size : Int32) (t_faultPlace : Int32) (t_faultReason : Int32) (t_lettersTold : Int32) (t_repeatsTold : Int32) (t_correctionsTold : Int32) (t_mostCorrections : Int32) (t_deepest : Int32) (t_fresh : Int32) (t_letters : Nat → Int32) (u_size : Int32) (u_letters : Nat → Int32) (r : Int32) (hres : fRd_describes t_size t_letters u_size u_letters = some r) :
    Met l yX4_describes wsX4_describes ({ frames := 1, cells := 0, slots := 0, locals := 21 } : Room) (va_Pc [.ref h_t, .ref h_u] (fun (U : State) => U.heap.size = sz ∧ va_P (dC, dI) vwCl [(h_t, .inr (3, [.ref h_t_signs, .ref h_t_letters, .int t_length, .int t_at, .int t_size, .int t_faultPlace, .int t_faultReason, .int t_lettersTold, .int t_repeatsTold, .int t_correctionsTold, .int t_mostCorrections, .int t_deepest, .int t_fresh])), (h_t_letters, .inl (cI, 744, .inl t_letters)), (h_u, .inr (6, [.ref h_u_letters, .ref h_u_settings, .int u_size])), (h_u_letters, .inl (cI, 24, .inl u_letters))] U.heap ∧ va_K (dC, dI) vwCl (tyA cI cJ cC cS) U ∧ nwN U ∧ va_D (fun _ => True) [(h_t, .inr (3, [.ref h_t_signs, .ref h_t_letters, .int t_length, .int t_at, .int t_size, .int t_faultPlace, .int t_faultReason, .int t_lettersTold, .int t_repeatsTold, .int t_correctionsTold, .int t_mostCorrections, .int t_deepest, .int t_fresh])), (h_t_letters, .inl (cI, 744, .inl t_letters)), (h_u, .inr (6, [.ref h_u_letters, .ref h_u_settings, .int u_size])), (h_u_letters, .inl (cI, 24, .inl u_letters))])) (va_Qi (fun (r9 : Int32) (_ : Unit) => r9 = r) (fun (_ : Unit) (t : State) => va_P (dC, dI) vwCl [(h_t, .inr (3, [.ref h_t_signs, .ref h_t_letters, .int t_length, .int t_at, .int t_size, .int t_faultPlace, .int t_faultReason, .int t_lettersTold, .int t_repeatsTold, .int t_correctionsTold, .int t_mostCorrections, .int t_deepest, .int t_fresh])), (h_t_letters, .inl (cI, 744, .inl t_letters)), (h_u, .inr (6, [.ref h_u_letters, .ref h_u_settings, .int u_size])), (h_u_letters, .inl (cI, 24, .inl u_letters))] t.heap ∧ va_K (dC, dI) vwCl (tyA cI cJ cC cS) t ∧ va_D (va_A [(h_t, .inr (3, [.ref h_t_signs, .ref h_t_letters, .int t_length, .int t_at, .int t_size, .int t_faultPlace, .int t_faultReason, .int t_lettersTold, .int t_repeatsTold, .int t_correctionsTold, .int t_mostCorrections, .int t_deepest, .int t_fresh])), (h_t_letters, .inl (cI, 744, .inl t_letters)), (h_u, .inr (6, [.ref h_u_letters, .ref h_u_settings, .int u_size])), (h_u_letters, .inl (cI, 24, .inl u_letters))] sz) [(h_t, .inr (3, [.ref h_t_signs, .ref h_t_letters, .int t_length, .int t_at, .int t_size, .int t_faultPlace, .int t_faultReason, .int t_lettersTold, .int t_repeatsTold, .int t_correctionsTold, .int t_mostCorrections, .int t_deepest, .int t_fresh])), (h_t_letters, .inl (cI, 744, .inl t_letters)), (h_u, .inr (6, [.ref h_u_letters, .ref h_u_settings, .int u_size])), (h_u_letters, .inl (cI, 24, .inl u_letters))]) (va_A [(h_t, .inr (3, [.ref h_t_signs, .ref h_t_letters, .int t_length, .int t_at, .int t_size, .int t_faultPlace, .int t_faultReason, .int t_lettersTold, .int t_repeatsTold, .int t_correctionsTold, .int t_mostCorrections, .int t_deepest, .int t_fresh])), (h_t_letters, .inl (cI, 744, .inl t_letters)), (h_u, .inr (6, [.ref h_u_letters, .ref h_u_settings, .int u_size])), (h_u_letters, .inl (cI, 24, .inl u_letters))] sz)) 0 0 (va_A [(h_t, .inr (3, [.ref h_t_signs, .ref h_t_letters, .int t_length, .int t_at, .int t_size, .int t_faultPlace, .int t_faultReason, .int t_lettersTold, .int t_repeatsTold, .int t_correctionsTold, .int t_mostCorrections, .int t_deepest, .int t_fresh])), (h_t_letters, .inl (cI, 744, .inl t_letters)), (h_u, .inr (6, [.ref h_u_letters, .ref h_u_settings, .int u_size])), (h_u_letters, .inl (cI, 24, .inl u_letters))] sz) := by
  refine Met.ofW (cc := cX4_describes) (maxL := 3) (ret := (some .boolean)) (by decide) rfl ?_
  intro p e s m args below meth c s₁ B hml hv
  obtain ⟨hargs, hsz, hP, hK, hN, hD0⟩ := hv
  have hx := B.exec
  have hb := B.bytes
  have hr := B.returns
  have hts := atoms_spec (ws := wsX4_describes) B.pre
  have hown : s.vm.findClass RX4 = some m.cls := findClass_of_methodNamed B.named
  have hlocks := B.notSynchronized
  subst hsz
  have hD := hD0.self (sz := s.heap.size)
  generalize hAe : va_A [(h_t, .inr (3, [.ref h_t_signs, .ref h_t_letters, .int t_length, .int t_at, .int t_size, .int t_faultPlace, .int t_faultReason, .int t_lettersTold, .int t_repeatsTold, .int t_correctionsTold, .int t_mostCorrections, .int t_deepest, .int t_fresh])), (h_t_letters, .inl (cI, 744, .inl t_letters)), (h_u, .inr (6, [.ref h_u_letters, .ref h_u_settings, .int u_size])), (h_u_letters, .inl (cI, 24, .inl u_letters))] s.heap.size = A at hD ⊢
  have hA : ∀ q : Nat, s.heap.size ≤ q → A q := fun q h => by rw [← hAe]; exact Or.inr h
  have hS : va_S A s.heap s.heap [] := va_S.rf
  have hP : va_P (dC, dI) vwCl [(h_t, .inr (3, [.ref h_t_signs, .ref h_t_letters, .int t_length, .int t_at, .int t_size, .int t_faultPlace, .int t_faultReason, .int t_lettersTold, .int t_repeatsTold, .int t_correctionsTold, .int t_mostCorrections, .int t_deepest, .int t_fresh])), (h_t_letters, .inl (cI, 744, .inl t_letters)), (h_u, .inr (6, [.ref h_u_letters, .ref h_u_settings, .int u_size])), (h_u_letters, .inl (cI, 24, .inl u_letters))] s.heap := hP
  have hl := lv_entry [.ref h_t, .ref h_u] (n := 3) (Nat.le_of_ble_eq_true rfl)
  rw [show entryFrame m args 3 = entryFrame m ([.ref h_t, .ref h_u] : List Value).toArray 3 from by rw [hargs], lg_entry_eq]
  generalize (lg_sl [.ref h_t, .ref h_u] ++ List.replicate (3 - (lg_sl [.ref h_t, .ref h_u]).length) Slot.unset).toArray = ls at hl ⊢
  have hl : lv_has ls 3 [(0, .ref h_t), (1, .ref h_u)] := hl
  generalize hQQ : MQ below (va_Qi (fun (r9 : Int32) (_ : Unit) => r9 = r) (fun (_ : Unit) (t : State) => va_P (dC, dI) vwCl [(h_t, .inr (3, [.ref h_t_signs, .ref h_t_letters, .int t_length, .int t_at, .int t_size, .int t_faultPlace, .int t_faultReason, .int t_lettersTold, .int t_repeatsTold, .int t_correctionsTold, .int t_mostCorrections, .int t_deepest, .int t_fresh])), (h_t_letters, .inl (cI, 744, .inl t_letters)), (h_u, .inr (6, [.ref h_u_letters, .ref h_u_settings, .int u_size])), (h_u_letters, .inl (cI, 24, .inl u_letters))] t.heap ∧ va_K (dC, dI) vwCl (tyA cI cJ cC cS) t ∧ va_D A [(h_t, .inr (3, [.ref h_t_signs, .ref h_t_letters, .int t_length, .int t_at, .int t_size, .int t_faultPlace, .int t_faultReason, .int t_lettersTold, .int t_repeatsTold, .int t_correctionsTold, .int t_mostCorrections, .int t_deepest, .int t_fresh])), (h_t_letters, .inl (cI, 744, .inl t_letters)), (h_u, .inr (6, [.ref h_u_letters, .ref h_u_settings, .int u_size])), (h_u_letters, .inl (cI, 24, .inl u_letters))]) A) args s 0 0 A = QQ
  obtain ⟨H, hH⟩ : ∃ H : Heap, H = s.heap := ⟨_, rfl⟩
  obtain ⟨locs, hlocs⟩ : ∃ locs : List Loc, locs = [] := ⟨_, rfl⟩
  rw [← hH] at hP
  have hS : va_S A s.heap H locs := by rw [hH, hlocs]; exact hS
  suffices hZ : W p l e (headSpec wsX4_describes ({ frames := 1, cells := 0, slots := 0, locals := 21 } : Room)).room s m args below meth c H locs 0 0 QQ (F0 m 0 ls []) by rw [hH, hlocs] at hZ; exact hZ
  clear hH hlocs
  have hL15 : ∀ (n15 : Nat) , ∀ (x2 : Int32) (H : Heap) (locs : List Loc) (ls : Array Slot), fRd_describes_15 t_size t_letters u_size u_letters n15 x2 = some r → va_P (dC, dI) vwCl [(h_t, .inr (3, [.ref h_t_signs, .ref h_t_letters, .int t_length, .int t_at, .int t_size, .int t_faultPlace, .int t_faultReason, .int t_lettersTold, .int t_repeatsTold, .int t_correctionsTold, .int t_mostCorrections, .int t_deepest, .int t_fresh])), (h_t_letters, .inl (cI, 744, .inl t_letters)), (h_u, .inr (6, [.ref h_u_letters, .ref h_u_settings, .int u_size])), (h_u_letters, .inl (cI, 24, .inl u_letters))] H → va_D A [(h_t, .inr (3, [.ref h_t_signs, .ref h_t_letters, .int t_length, .int t_at, .int t_size, .int t_faultPlace, .int t_faultReason, .int t_lettersTold, .int t_repeatsTold, .int t_correctionsTold, .int t_mostCorrections, .int t_deepest, .int t_fresh])), (h_t_letters, .inl (cI, 744, .inl t_letters)), (h_u, .inr (6, [.ref h_u_letters, .ref h_u_settings, .int u_size])), (h_u_letters, .inl (cI, 24, .inl u_letters))] → va_S A s.heap H locs → lv_has ls 3 [(0, .ref h_t), (1, .ref h_u), (2, .int x2)] → W p l e (headSpec wsX4_describes ({ frames := 1, cells := 0, slots := 0, locals := 21 } : Room)).room s m args below meth c H locs 0 0 QQ (F0 m 15 ls []) := by
    intro n15
    induction n15 with
    | zero =>
      intro x2 H locs ls hres
      rw [fRd_describes_15] at hres
      cases hres
    | succ n15 ih15 =>
      intro x2 H locs ls hres hP hD hS hl
      rw [fRd_describes_15] at hres
      refine lv_iload_n hx hb dX4_describes_15 rfl (lv_at hl 2 rfl) ?_
      refine lv_aload_n hx hb dX4_describes_16 rfl (lv_at hl 0 rfl) ?_
      refine va_get (D := (dC, dI)) (ci := 3) (v := .int t_size) (C := RX4) (T := TX4) (N := 13) hx hb hts iRd_describes_X4_describes_1 hown hK hP 0 rfl rfl 4 (by decide) (hts _ kRd_describes_X4_describes_0) (fun _ h9 => h9) rfl dX4_describes_17 ?_
      refine lv_icmp_ge (tgt := 44) hx hb dX4_describes_20 (by decide) (fun c_1 => ?_) (fun c_1 => ?_)
      · have hres := it_of hres c_1
        refine lv_iconst (v := (1 : Int32)) hx hb dX4_describes_44 (by decide) ?_
        have e9_0 := Option.some.inj hres
        subst e9_0
        rw [← hQQ]
        exact W.zret (v := (1 : Int32)) hx hb hr rfl (fun t ht hW => ⟨⟨(1 : Int32), (), rfl, rfl, by rw [ht]; exact hP, va_K.moved hW.alike hK, hD⟩, hS.F ht⟩) hS.2.2 dX4_describes_45
      · have hres := ie_of hres c_1
        refine lv_aload_n hx hb dX4_describes_23 rfl (lv_at hl 0 rfl) ?_
        refine lv_iload_n hx hb dX4_describes_24 rfl (lv_at hl 2 rfl) ?_
        obtain ⟨o2, ho2, hres⟩ := bd_of hres
        have hPc := hP.sub (ws' := [(h_t, .inr (3, [.ref h_t_signs, .ref h_t_letters, .int t_length, .int t_at, .int t_size, .int t_faultPlace, .int t_faultReason, .int t_lettersTold, .int t_repeatsTold, .int t_correctionsTold, .int t_mostCorrections, .int t_deepest, .int t_fresh])), (h_t_letters, .inl (cI, 744, .inl t_letters))]) [0, 1] rfl
        have hDc := hD.sub (ws' := [(h_t, .inr (3, [.ref h_t_signs, .ref h_t_letters, .int t_length, .int t_at, .int t_size, .int t_faultPlace, .int t_faultReason, .int t_lettersTold, .int t_repeatsTold, .int t_correctionsTold, .int t_mostCorrections, .int t_deepest, .int t_fresh])), (h_t_letters, .inl (cI, 744, .inl t_letters))]) [0, 1] (by decide) rfl
        have hFc := va_free (wc := [(h_t, .inr (3, [.ref h_t_signs, .ref h_t_letters, .int t_length, .int t_at, .int t_size, .int t_faultPlace, .int t_faultReason, .int t_lettersTold, .int t_repeatsTold, .int t_correctionsTold, .int t_mostCorrections, .int t_deepest, .int t_fresh])), (h_t_letters, .inl (cI, 744, .inl t_letters))]) hD hS hA [0, 1] rfl
        refine va_calli (va_runV (As := [.int x2]) (rest := []) ⟨hx, hb, hml, hown, hts⟩ (cRd_letter l dC dI cI cJ cC cS h_t h_t_signs h_t_letters H.size t_length t_at t_size t_faultPlace t_faultReason t_lettersTold t_repeatsTold t_correctionsTold t_mostCorrections t_deepest t_fresh t_letters x2 o2 ho2) (cwV 1 hts gX4_describes_X4_letter rfl rfl rfl (by decide +kernel) ⟨Nat.le_of_ble_eq_true rfl, Nat.le_of_ble_eq_true rfl⟩) ⟨fun a U g mk q => by obtain ⟨q0, q1, qP, qK, qN, qD⟩ := q; exact ⟨q0, q1, qP, va_K.moved (u := U) (U := U.calling g mk a) (Vm.Alike.refl U.vm) qK, nwS (u := U) (U := U.calling g mk a) rfl qN, qD⟩, va_recv hK hPc (ci := 3) (q0 := 0) rfl rfl, fun U hU hW => ⟨rfl, by rw [hU], by rw [hU]; exact hPc, va_K.moved hW.alike hK, nwW hW hN, hDc.weaken (fun _ _ _ _ => trivial)⟩⟩ rfl rfl hl.1 rfl (lv_room (Nat.le_of_ble_eq_true rfl)) dX4_describes_25 ⟨Nat.zero_le _, Nat.zero_le _⟩) hS (fun q _ h => hFc q h) hFc (fun r9 u9 t H1 locs ht hvm hw hB hz1 hk1 hS => ?_)
        have hw := hw.symm
        subst hw
        obtain ⟨hP1, hK1, hD1⟩ := hB
        rw [ht] at hP1
        obtain ⟨hP, hD⟩ := va_join (wr := [(h_u, .inr (6, [.ref h_u_letters, .ref h_u_settings, .int u_size])), (h_u_letters, .inl (cI, 24, .inl u_letters))]) (w1 := [(h_t, .inr (3, [.ref h_t_signs, .ref h_t_letters, .int t_length, .int t_at, .int t_size, .int t_faultPlace, .int t_faultReason, .int t_lettersTold, .int t_repeatsTold, .int t_correctionsTold, .int t_mostCorrections, .int t_deepest, .int t_fresh])), (h_t_letters, .inl (cI, 744, .inl t_letters))]) hP hD [0, 1] [2, 3] rfl rfl (by decide) (by decide) hk1 hFc hP1 hD1
        generalize H1 = H at hP hS ⊢
        have hP : va_P (dC, dI) vwCl [(h_u, .inr (6, [.ref h_u_letters, .ref h_u_settings, .int u_size])), (h_u_letters, .inl (cI, 24, .inl u_letters)), (h_t, .inr (3, [.ref h_t_signs, .ref h_t_letters, .int t_length, .int t_at, .int t_size, .int t_faultPlace, .int t_faultReason, .int t_lettersTold, .int t_repeatsTold, .int t_correctionsTold, .int t_mostCorrections, .int t_deepest, .int t_fresh])), (h_t_letters, .inl (cI, 744, .inl t_letters))] H := hP
        have hD : va_D A [(h_u, .inr (6, [.ref h_u_letters, .ref h_u_settings, .int u_size])), (h_u_letters, .inl (cI, 24, .inl u_letters)), (h_t, .inr (3, [.ref h_t_signs, .ref h_t_letters, .int t_length, .int t_at, .int t_size, .int t_faultPlace, .int t_faultReason, .int t_lettersTold, .int t_repeatsTold, .int t_correctionsTold, .int t_mostCorrections, .int t_deepest, .int t_fresh])), (h_t_letters, .inl (cI, 744, .inl t_letters))] := hD
        refine lv_aload_n hx hb dX4_describes_28 rfl (lv_at hl 1 rfl) ?_
        refine lv_iload_n hx hb dX4_describes_29 rfl (lv_at hl 2 rfl) ?_
        obtain ⟨o3, ho3, hres⟩ := bd_of hres
        have hPc := hP.sub (ws' := [(h_u, .inr (6, [.ref h_u_letters, .ref h_u_settings, .int u_size])), (h_u_letters, .inl (cI, 24, .inl u_letters))]) [0, 1] rfl
        have hDc := hD.sub (ws' := [(h_u, .inr (6, [.ref h_u_letters, .ref h_u_settings, .int u_size])), (h_u_letters, .inl (cI, 24, .inl u_letters))]) [0, 1] (by decide) rfl
        have hFc := va_free (wc := [(h_u, .inr (6, [.ref h_u_letters, .ref h_u_settings, .int u_size])), (h_u_letters, .inl (cI, 24, .inl u_letters))]) hD hS hA [0, 1] rfl
        refine va_calli (va_runV (As := [.int x2]) (rest := [.int o2]) ⟨hx, hb, hml, hown, hts⟩ (cSt_letter l dC dI cI cJ cC cS h_u h_u_letters h_u_settings H.size u_size u_letters x2 o3 ho3) (cwV 1 hts gX4_describes_X7_letter rfl rfl rfl (by decide +kernel) ⟨Nat.le_of_ble_eq_true rfl, Nat.le_of_ble_eq_true rfl⟩) ⟨fun a U g mk q => by obtain ⟨q0, q1, qP, qK, qN, qD⟩ := q; exact ⟨q0, q1, qP, va_K.moved (u := U) (U := U.calling g mk a) (Vm.Alike.refl U.vm) qK, nwS (u := U) (U := U.calling g mk a) rfl qN, qD⟩, va_recv hK hPc (ci := 6) (q0 := 0) rfl rfl, fun U hU hW => ⟨rfl, by rw [hU], by rw [hU]; exact hPc, va_K.moved hW.alike hK, nwW hW hN, hDc.weaken (fun _ _ _ _ => trivial)⟩⟩ rfl rfl hl.1 rfl (lv_room (Nat.le_of_ble_eq_true rfl)) dX4_describes_30 ⟨Nat.zero_le _, Nat.zero_le _⟩) hS (fun q _ h => hFc q h) hFc (fun r9 u9 t H1 locs ht hvm hw hB hz1 hk1 hS => ?_)
        have hw := hw.symm
        subst hw
        obtain ⟨hP1, hK1, hD1⟩ := hB
        rw [ht] at hP1
        obtain ⟨hP, hD⟩ := va_join (wr := [(h_t, .inr (3, [.ref h_t_signs, .ref h_t_letters, .int t_length, .int t_at, .int t_size, .int t_faultPlace, .int t_faultReason, .int t_lettersTold, .int t_repeatsTold, .int t_correctionsTold, .int t_mostCorrections, .int t_deepest, .int t_fresh])), (h_t_letters, .inl (cI, 744, .inl t_letters))]) (w1 := [(h_u, .inr (6, [.ref h_u_letters, .ref h_u_settings, .int u_size])), (h_u_letters, .inl (cI, 24, .inl u_letters))]) hP hD [0, 1] [2, 3] rfl rfl (by decide) (by decide) hk1 hFc hP1 hD1
        generalize H1 = H at hP hS ⊢
        have hP : va_P (dC, dI) vwCl [(h_t, .inr (3, [.ref h_t_signs, .ref h_t_letters, .int t_length, .int t_at, .int t_size, .int t_faultPlace, .int t_faultReason, .int t_lettersTold, .int t_repeatsTold, .int t_correctionsTold, .int t_mostCorrections, .int t_deepest, .int t_fresh])), (h_t_letters, .inl (cI, 744, .inl t_letters)), (h_u, .inr (6, [.ref h_u_letters, .ref h_u_settings, .int u_size])), (h_u_letters, .inl (cI, 24, .inl u_letters))] H := hP
        have hD : va_D A [(h_t, .inr (3, [.ref h_t_signs, .ref h_t_letters, .int t_length, .int t_at, .int t_size, .int t_faultPlace, .int t_faultReason, .int t_lettersTold, .int t_repeatsTold, .int t_correctionsTold, .int t_mostCorrections, .int t_deepest, .int t_fresh])), (h_t_letters, .inl (cI, 744, .inl t_letters)), (h_u, .inr (6, [.ref h_u_letters, .ref h_u_settings, .int u_size])), (h_u_letters, .inl (cI, 24, .inl u_letters))] := hD
        refine lv_icmp_eq (tgt := 38) hx hb dX4_describes_33 (by decide) (fun c_4 => ?_) (fun c_4 => ?_)
        · have hres := it_of hres c_4
          refine lv_iinc (v := (x2 + 1)) (lv' := [(2, .int (x2 + 1)), (0, .ref h_t), (1, .ref h_u)]) hx hb dX4_describes_38 hl (k := 2) rfl rfl (by decide) rfl (fun ls hl => ?_)
          refine lv_goto (tgt := 15) hx hb dX4_describes_41 (by decide) ?_
          exact ih15 (x2 + 1) H locs ls hres hP hD hS (lv_sub hl [1, 2, 0] rfl)
        · have hres := ie_of hres c_4
          refine lv_iconst (v := (0 : Int32)) hx hb dX4_describes_36 (by decide) ?_
          have e9_0 := Option.some.inj hres
          subst e9_0
          rw [← hQQ]
          exact W.zret (v := (0 : Int32)) hx hb hr rfl (fun t ht hW => ⟨⟨(0 : Int32), (), rfl, rfl, by rw [ht]; exact hP, va_K.moved hW.alike hK, hD⟩, hS.F ht⟩) hS.2.2 dX4_describes_37
  rw [fRd_describes] at hres
  refine lv_aload_n hx hb dX4_describes_0 rfl (lv_at hl 0 rfl) ?_
  refine va_get (D := (dC, dI)) (ci := 3) (v := .int t_size) (C := RX4) (T := TX4) (N := 13) hx hb hts iRd_describes_X4_describes_1 hown hK hP 0 rfl rfl 4 (by decide) (hts _ kRd_describes_X4_describes_0) (fun _ h9 => h9) rfl dX4_describes_1 ?_
  refine lv_aload_n hx hb dX4_describes_4 rfl (lv_at hl 1 rfl) ?_
  refine va_getN (D := (dC, dI)) (ci := 6) (v := .int u_size) (C := RX7) (T := TX7) (N := 3) hx hb hts iRd_describes_X4_describes_2 hown hK hP 2 rfl rfl 2 (by decide) (nwU hN (by decide +kernel : Cond.fieldLinkNest "RepeatNests$Reader" 63 "RepeatNests$State" "size" "I" "RepeatNests" ∈ nwAll)) (fun _ h9 => h9) rfl dX4_describes_5 ?_
  refine lv_icmp_eq (tgt := 13) hx hb dX4_describes_8 (by decide) (fun c_5 => ?_) (fun c_5 => ?_)
  · have hres := it_of hres c_5
    refine lv_iconst (v := (0 : Int32)) hx hb dX4_describes_13 (by decide) ?_
    refine lv_istore_n (lv' := [(2, .int (0 : Int32)), (0, .ref h_t), (1, .ref h_u)]) hx hb dX4_describes_14 rfl hl (by decide) rfl (fun ls hl => ?_)
    exact hL15 FU (0 : Int32) H locs ls hres hP hD hS (lv_sub hl [1, 2, 0] rfl)
  · have hres := ie_of hres c_5
    refine lv_iconst (v := (0 : Int32)) hx hb dX4_describes_11 (by decide) ?_
    have e9_0 := Option.some.inj hres
    subst e9_0
    rw [← hQQ]
    exact W.zret (v := (0 : Int32)) hx hb hr rfl (fun t ht hW => ⟨⟨(0 : Int32), (), rfl, rfl, by rw [ht]; exact hP, va_K.moved hW.alike hK, hD⟩, hS.F ht⟩) hS.2.2 dX4_describes_12

-- Rd_measure
theorem kRd_measure_X4_measure_0 : Cond.fieldLink RX4 34 "RepeatNests$Reader" "lettersTold" "I" ∈ wsX4_measure := by decide +kernel
theorem iRd_measure_X4_measure_1 : ∀ w ∈ wsX40, w ∈ wsX4_measure := by decide +kernel
theorem kRd_measure_X4_measure_2 : Cond.fieldLink RX4 37 "RepeatNests$Reader" "repeatsTold" "I" ∈ wsX4_measure := by decide +kernel
theorem kRd_measure_X4_measure_3 : Cond.fieldLink RX4 40 "RepeatNests$Reader" "correctionsTold" "I" ∈ wsX4_measure := by decide +kernel
theorem kRd_measure_X4_measure_4 : Cond.fieldLink RX4 25 "RepeatNests$Reader" "size" "I" ∈ wsX4_measure := by decide +kernel
theorem kRd_measure_X4_measure_5 : Cond.fieldLink RX4 46 "RepeatNests$Reader" "deepest" "I" ∈ wsX4_measure := by decide +kernel
theorem kRd_measure_X4_measure_6 : Cond.fieldLink RX4 43 "RepeatNests$Reader" "mostCorrections" "I" ∈ wsX4_measure := by decide +kernel
set_option maxHeartbeats 4000000 in
set_option maxRecDepth 100000 in
theorem cRd_measure (l : Launch) (dC : Nat → ClassId) (dI : Nat → Nat → Nat) (cI cJ cC cS : ClassId) (h_t h_t_signs h_t_letters h_u h_u_letters h_u_settings : Nat) (sz : Nat) (t_length : Int32) (t_at : Int32) (t_size : Int32) (t_faultPlace : Int32) (t_faultReason : Int32) (t_lettersTold : Int32) (t_repeatsTold : Int32) (t_correctionsTold : Int32) (t_mostCorrections : Int32) (t_deepest : Int32) (t_fresh : Int32) (t_letters : Nat → Int32) (u_size : Int32) (u_letters : Nat → Int32) (u_settings : Nat → Int32) (x1 : Int32) (r : Int32) (hres : fRd_measure t_size t_lettersTold t_repeatsTold t_correctionsTold t_mostCorrections t_deepest t_letters u_size u_letters u_settings x1 = some r) :
    Met l yX4_measure wsX4_measure ({ frames := 2, cells := 0, slots := 0, locals := 43 } : Room) (va_Pc [.ref h_t, .int x1, .ref h_u] (fun (U : State) => U.heap.size = sz ∧ va_P (dC, dI) vwCl [(h_t, .inr (3, [.ref h_t_signs, .ref h_t_letters, .int t_length, .int t_at, .int t_size, .int t_faultPlace, .int t_faultReason, .int t_lettersTold, .int t_repeatsTold, .int t_correctionsTold, .int t_mostCorrections, .int t_deepest, .int t_fresh])), (h_t_letters, .inl (cI, 744, .inl t_letters)), (h_u, .inr (6, [.ref h_u_letters, .ref h_u_settings, .int u_size])), (h_u_letters, .inl (cI, 24, .inl u_letters)), (h_u_settings, .inl (cI, 5, .inl u_settings))] U.heap ∧ va_K (dC, dI) vwCl (tyA cI cJ cC cS) U ∧ nwN U ∧ va_D (fun _ => True) [(h_t, .inr (3, [.ref h_t_signs, .ref h_t_letters, .int t_length, .int t_at, .int t_size, .int t_faultPlace, .int t_faultReason, .int t_lettersTold, .int t_repeatsTold, .int t_correctionsTold, .int t_mostCorrections, .int t_deepest, .int t_fresh])), (h_t_letters, .inl (cI, 744, .inl t_letters)), (h_u, .inr (6, [.ref h_u_letters, .ref h_u_settings, .int u_size])), (h_u_letters, .inl (cI, 24, .inl u_letters)), (h_u_settings, .inl (cI, 5, .inl u_settings))])) (va_Qi (fun (r9 : Int32) (_ : Unit) => r9 = r) (fun (_ : Unit) (t : State) => va_P (dC, dI) vwCl [(h_t, .inr (3, [.ref h_t_signs, .ref h_t_letters, .int t_length, .int t_at, .int t_size, .int t_faultPlace, .int t_faultReason, .int t_lettersTold, .int t_repeatsTold, .int t_correctionsTold, .int t_mostCorrections, .int t_deepest, .int t_fresh])), (h_t_letters, .inl (cI, 744, .inl t_letters)), (h_u, .inr (6, [.ref h_u_letters, .ref h_u_settings, .int u_size])), (h_u_letters, .inl (cI, 24, .inl u_letters)), (h_u_settings, .inl (cI, 5, .inl u_settings))] t.heap ∧ va_K (dC, dI) vwCl (tyA cI cJ cC cS) t ∧ va_D (va_A [(h_t, .inr (3, [.ref h_t_signs, .ref h_t_letters, .int t_length, .int t_at, .int t_size, .int t_faultPlace, .int t_faultReason, .int t_lettersTold, .int t_repeatsTold, .int t_correctionsTold, .int t_mostCorrections, .int t_deepest, .int t_fresh])), (h_t_letters, .inl (cI, 744, .inl t_letters)), (h_u, .inr (6, [.ref h_u_letters, .ref h_u_settings, .int u_size])), (h_u_letters, .inl (cI, 24, .inl u_letters)), (h_u_settings, .inl (cI, 5, .inl u_settings))] sz) [(h_t, .inr (3, [.ref h_t_signs, .ref h_t_letters, .int t_length, .int t_at, .int t_size, .int t_faultPlace, .int t_faultReason, .int t_lettersTold, .int t_repeatsTold, .int t_correctionsTold, .int t_mostCorrections, .int t_deepest, .int t_fresh])), (h_t_letters, .inl (cI, 744, .inl t_letters)), (h_u, .inr (6, [.ref h_u_letters, .ref h_u_settings, .int u_size])), (h_u_letters, .inl (cI, 24, .inl u_letters)), (h_u_settings, .inl (cI, 5, .inl u_settings))]) (va_A [(h_t, .inr (3, [.ref h_t_signs, .ref h_t_letters, .int t_length, .int t_at, .int t_size, .int t_faultPlace, .int t_faultReason, .int t_lettersTold, .int t_repeatsTold, .int t_correctionsTold, .int t_mostCorrections, .int t_deepest, .int t_fresh])), (h_t_letters, .inl (cI, 744, .inl t_letters)), (h_u, .inr (6, [.ref h_u_letters, .ref h_u_settings, .int u_size])), (h_u_letters, .inl (cI, 24, .inl u_letters)), (h_u_settings, .inl (cI, 5, .inl u_settings))] sz)) 0 0 (va_A [(h_t, .inr (3, [.ref h_t_signs, .ref h_t_letters, .int t_length, .int t_at, .int t_size, .int t_faultPlace, .int t_faultReason, .int t_lettersTold, .int t_repeatsTold, .int t_correctionsTold, .int t_mostCorrections, .int t_deepest, .int t_fresh])), (h_t_letters, .inl (cI, 744, .inl t_letters)), (h_u, .inr (6, [.ref h_u_letters, .ref h_u_settings, .int u_size])), (h_u_letters, .inl (cI, 24, .inl u_letters)), (h_u_settings, .inl (cI, 5, .inl u_settings))] sz) := by
  refine Met.ofW (cc := cX4_measure) (maxL := 3) (ret := (some .int)) (by decide) rfl ?_
  intro p e s m args below meth c s₁ B hml hv
  obtain ⟨hargs, hsz, hP, hK, hN, hD0⟩ := hv
  have hx := B.exec
  have hb := B.bytes
  have hr := B.returns
  have hts := atoms_spec (ws := wsX4_measure) B.pre
  have hown : s.vm.findClass RX4 = some m.cls := findClass_of_methodNamed B.named
  have hlocks := B.notSynchronized
  subst hsz
  have hD := hD0.self (sz := s.heap.size)
  generalize hAe : va_A [(h_t, .inr (3, [.ref h_t_signs, .ref h_t_letters, .int t_length, .int t_at, .int t_size, .int t_faultPlace, .int t_faultReason, .int t_lettersTold, .int t_repeatsTold, .int t_correctionsTold, .int t_mostCorrections, .int t_deepest, .int t_fresh])), (h_t_letters, .inl (cI, 744, .inl t_letters)), (h_u, .inr (6, [.ref h_u_letters, .ref h_u_settings, .int u_size])), (h_u_letters, .inl (cI, 24, .inl u_letters)), (h_u_settings, .inl (cI, 5, .inl u_settings))] s.heap.size = A at hD ⊢
  have hA : ∀ q : Nat, s.heap.size ≤ q → A q := fun q h => by rw [← hAe]; exact Or.inr h
  have hS : va_S A s.heap s.heap [] := va_S.rf
  have hP : va_P (dC, dI) vwCl [(h_t, .inr (3, [.ref h_t_signs, .ref h_t_letters, .int t_length, .int t_at, .int t_size, .int t_faultPlace, .int t_faultReason, .int t_lettersTold, .int t_repeatsTold, .int t_correctionsTold, .int t_mostCorrections, .int t_deepest, .int t_fresh])), (h_t_letters, .inl (cI, 744, .inl t_letters)), (h_u, .inr (6, [.ref h_u_letters, .ref h_u_settings, .int u_size])), (h_u_letters, .inl (cI, 24, .inl u_letters)), (h_u_settings, .inl (cI, 5, .inl u_settings))] s.heap := hP
  have hl := lv_entry [.ref h_t, .int x1, .ref h_u] (n := 3) (Nat.le_of_ble_eq_true rfl)
  rw [show entryFrame m args 3 = entryFrame m ([.ref h_t, .int x1, .ref h_u] : List Value).toArray 3 from by rw [hargs], lg_entry_eq]
  generalize (lg_sl [.ref h_t, .int x1, .ref h_u] ++ List.replicate (3 - (lg_sl [.ref h_t, .int x1, .ref h_u]).length) Slot.unset).toArray = ls at hl ⊢
  have hl : lv_has ls 3 [(0, .ref h_t), (1, .int x1), (2, .ref h_u)] := hl
  generalize hQQ : MQ below (va_Qi (fun (r9 : Int32) (_ : Unit) => r9 = r) (fun (_ : Unit) (t : State) => va_P (dC, dI) vwCl [(h_t, .inr (3, [.ref h_t_signs, .ref h_t_letters, .int t_length, .int t_at, .int t_size, .int t_faultPlace, .int t_faultReason, .int t_lettersTold, .int t_repeatsTold, .int t_correctionsTold, .int t_mostCorrections, .int t_deepest, .int t_fresh])), (h_t_letters, .inl (cI, 744, .inl t_letters)), (h_u, .inr (6, [.ref h_u_letters, .ref h_u_settings, .int u_size])), (h_u_letters, .inl (cI, 24, .inl u_letters)), (h_u_settings, .inl (cI, 5, .inl u_settings))] t.heap ∧ va_K (dC, dI) vwCl (tyA cI cJ cC cS) t ∧ va_D A [(h_t, .inr (3, [.ref h_t_signs, .ref h_t_letters, .int t_length, .int t_at, .int t_size, .int t_faultPlace, .int t_faultReason, .int t_lettersTold, .int t_repeatsTold, .int t_correctionsTold, .int t_mostCorrections, .int t_deepest, .int t_fresh])), (h_t_letters, .inl (cI, 744, .inl t_letters)), (h_u, .inr (6, [.ref h_u_letters, .ref h_u_settings, .int u_size])), (h_u_letters, .inl (cI, 24, .inl u_letters)), (h_u_settings, .inl (cI, 5, .inl u_settings))]) A) args s 0 0 A = QQ
  obtain ⟨H, hH⟩ : ∃ H : Heap, H = s.heap := ⟨_, rfl⟩
  obtain ⟨locs, hlocs⟩ : ∃ locs : List Loc, locs = [] := ⟨_, rfl⟩
  rw [← hH] at hP
  have hS : va_S A s.heap H locs := by rw [hH, hlocs]; exact hS
  suffices hZ : W p l e (headSpec wsX4_measure ({ frames := 2, cells := 0, slots := 0, locals := 43 } : Room)).room s m args below meth c H locs 0 0 QQ (F0 m 0 ls []) by rw [hH, hlocs] at hZ; exact hZ
  clear hH hlocs
  rw [fRd_measure] at hres
  refine lv_iload_n hx hb dX4_measure_0 rfl (lv_at hl 1 rfl) ?_
  by_cases c_1 : x1 = (0 : Int32)
  · have hres := it_of hres c_1
    refine lv_tableIn (off := 35) (tgt := 36) hx hb dX4_measure_1 (by rw [c_1]; decide) (by rw [c_1]; decide) (by rw [c_1]; rfl) (by decide) ?_
    refine lv_aload_n hx hb dX4_measure_36 rfl (lv_at hl 0 rfl) ?_
    refine va_get (D := (dC, dI)) (ci := 3) (v := .int t_lettersTold) (C := RX4) (T := TX4) (N := 13) hx hb hts iRd_measure_X4_measure_1 hown hK hP 0 rfl rfl 7 (by decide) (hts _ kRd_measure_X4_measure_0) (fun _ h9 => h9) rfl dX4_measure_37 ?_
    refine lv_aload_n hx hb dX4_measure_40 rfl (lv_at hl 2 rfl) ?_
    refine lv_iconst (v := (0 : Int32)) hx hb dX4_measure_41 (by decide) ?_
    obtain ⟨o2, ho2, hres⟩ := bd_of hres
    have hPc := hP.sub (ws' := [(h_u, .inr (6, [.ref h_u_letters, .ref h_u_settings, .int u_size])), (h_u_settings, .inl (cI, 5, .inl u_settings))]) [2, 4] rfl
    have hDc := hD.sub (ws' := [(h_u, .inr (6, [.ref h_u_letters, .ref h_u_settings, .int u_size])), (h_u_settings, .inl (cI, 5, .inl u_settings))]) [2, 4] (by decide) rfl
    have hFc := va_free (wc := [(h_u, .inr (6, [.ref h_u_letters, .ref h_u_settings, .int u_size])), (h_u_settings, .inl (cI, 5, .inl u_settings))]) hD hS hA [2, 4] rfl
    refine va_calli (va_runV (As := [.int (0 : Int32)]) (rest := [.int t_lettersTold]) ⟨hx, hb, hml, hown, hts⟩ (cSt_setting l dC dI cI cJ cC cS h_u h_u_letters h_u_settings H.size u_size u_settings (0 : Int32) o2 ho2) (cwV 1 hts gX4_measure_X7_setting rfl rfl rfl (by decide +kernel) ⟨Nat.le_of_ble_eq_true rfl, Nat.le_of_ble_eq_true rfl⟩) ⟨fun a U g mk q => by obtain ⟨q0, q1, qP, qK, qN, qD⟩ := q; exact ⟨q0, q1, qP, va_K.moved (u := U) (U := U.calling g mk a) (Vm.Alike.refl U.vm) qK, nwS (u := U) (U := U.calling g mk a) rfl qN, qD⟩, va_recv hK hPc (ci := 6) (q0 := 0) rfl rfl, fun U hU hW => ⟨rfl, by rw [hU], by rw [hU]; exact hPc, va_K.moved hW.alike hK, nwW hW hN, hDc.weaken (fun _ _ _ _ => trivial)⟩⟩ rfl rfl hl.1 rfl (lv_room (Nat.le_of_ble_eq_true rfl)) dX4_measure_42 ⟨Nat.zero_le _, Nat.zero_le _⟩) hS (fun q _ h => hFc q h) hFc (fun r9 u9 t H1 locs ht hvm hw hB hz1 hk1 hS => ?_)
    have hw := hw.symm
    subst hw
    obtain ⟨hP1, hK1, hD1⟩ := hB
    rw [ht] at hP1
    obtain ⟨hP, hD⟩ := va_join (wr := [(h_t, .inr (3, [.ref h_t_signs, .ref h_t_letters, .int t_length, .int t_at, .int t_size, .int t_faultPlace, .int t_faultReason, .int t_lettersTold, .int t_repeatsTold, .int t_correctionsTold, .int t_mostCorrections, .int t_deepest, .int t_fresh])), (h_t_letters, .inl (cI, 744, .inl t_letters)), (h_u_letters, .inl (cI, 24, .inl u_letters))]) (w1 := [(h_u, .inr (6, [.ref h_u_letters, .ref h_u_settings, .int u_size])), (h_u_settings, .inl (cI, 5, .inl u_settings))]) hP hD [2, 4] [0, 1, 3] rfl rfl (by decide) (by decide) hk1 hFc hP1 hD1
    generalize H1 = H at hP hS ⊢
    have hP : va_P (dC, dI) vwCl [(h_t, .inr (3, [.ref h_t_signs, .ref h_t_letters, .int t_length, .int t_at, .int t_size, .int t_faultPlace, .int t_faultReason, .int t_lettersTold, .int t_repeatsTold, .int t_correctionsTold, .int t_mostCorrections, .int t_deepest, .int t_fresh])), (h_t_letters, .inl (cI, 744, .inl t_letters)), (h_u_letters, .inl (cI, 24, .inl u_letters)), (h_u, .inr (6, [.ref h_u_letters, .ref h_u_settings, .int u_size])), (h_u_settings, .inl (cI, 5, .inl u_settings))] H := hP
    have hD : va_D A [(h_t, .inr (3, [.ref h_t_signs, .ref h_t_letters, .int t_length, .int t_at, .int t_size, .int t_faultPlace, .int t_faultReason, .int t_lettersTold, .int t_repeatsTold, .int t_correctionsTold, .int t_mostCorrections, .int t_deepest, .int t_fresh])), (h_t_letters, .inl (cI, 744, .inl t_letters)), (h_u_letters, .inl (cI, 24, .inl u_letters)), (h_u, .inr (6, [.ref h_u_letters, .ref h_u_settings, .int u_size])), (h_u_settings, .inl (cI, 5, .inl u_settings))] := hD
    refine lv_imul hx hb dX4_measure_45 ?_
    refine lv_aload_n hx hb dX4_measure_46 rfl (lv_at hl 0 rfl) ?_
    refine va_get (D := (dC, dI)) (ci := 3) (v := .int t_repeatsTold) (C := RX4) (T := TX4) (N := 13) hx hb hts iRd_measure_X4_measure_1 hown hK hP 0 rfl rfl 8 (by decide) (hts _ kRd_measure_X4_measure_2) (fun _ h9 => h9) rfl dX4_measure_47 ?_
    refine lv_aload_n hx hb dX4_measure_50 rfl (lv_at hl 2 rfl) ?_
    refine lv_iconst (v := (1 : Int32)) hx hb dX4_measure_51 (by decide) ?_
    obtain ⟨o3, ho3, hres⟩ := bd_of hres
    have hPc := hP.sub (ws' := [(h_u, .inr (6, [.ref h_u_letters, .ref h_u_settings, .int u_size])), (h_u_settings, .inl (cI, 5, .inl u_settings))]) [3, 4] rfl
    have hDc := hD.sub (ws' := [(h_u, .inr (6, [.ref h_u_letters, .ref h_u_settings, .int u_size])), (h_u_settings, .inl (cI, 5, .inl u_settings))]) [3, 4] (by decide) rfl
    have hFc := va_free (wc := [(h_u, .inr (6, [.ref h_u_letters, .ref h_u_settings, .int u_size])), (h_u_settings, .inl (cI, 5, .inl u_settings))]) hD hS hA [3, 4] rfl
    refine va_calli (va_runV (As := [.int (1 : Int32)]) (rest := [.int t_repeatsTold, .int (t_lettersTold * o2)]) ⟨hx, hb, hml, hown, hts⟩ (cSt_setting l dC dI cI cJ cC cS h_u h_u_letters h_u_settings H.size u_size u_settings (1 : Int32) o3 ho3) (cwV 1 hts gX4_measure_X7_setting rfl rfl rfl (by decide +kernel) ⟨Nat.le_of_ble_eq_true rfl, Nat.le_of_ble_eq_true rfl⟩) ⟨fun a U g mk q => by obtain ⟨q0, q1, qP, qK, qN, qD⟩ := q; exact ⟨q0, q1, qP, va_K.moved (u := U) (U := U.calling g mk a) (Vm.Alike.refl U.vm) qK, nwS (u := U) (U := U.calling g mk a) rfl qN, qD⟩, va_recv hK hPc (ci := 6) (q0 := 0) rfl rfl, fun U hU hW => ⟨rfl, by rw [hU], by rw [hU]; exact hPc, va_K.moved hW.alike hK, nwW hW hN, hDc.weaken (fun _ _ _ _ => trivial)⟩⟩ rfl rfl hl.1 rfl (lv_room (Nat.le_of_ble_eq_true rfl)) dX4_measure_52 ⟨Nat.zero_le _, Nat.zero_le _⟩) hS (fun q _ h => hFc q h) hFc (fun r9 u9 t H1 locs ht hvm hw hB hz1 hk1 hS => ?_)
    have hw := hw.symm
    subst hw
    obtain ⟨hP1, hK1, hD1⟩ := hB
    rw [ht] at hP1
    obtain ⟨hP, hD⟩ := va_join (wr := [(h_t, .inr (3, [.ref h_t_signs, .ref h_t_letters, .int t_length, .int t_at, .int t_size, .int t_faultPlace, .int t_faultReason, .int t_lettersTold, .int t_repeatsTold, .int t_correctionsTold, .int t_mostCorrections, .int t_deepest, .int t_fresh])), (h_t_letters, .inl (cI, 744, .inl t_letters)), (h_u_letters, .inl (cI, 24, .inl u_letters))]) (w1 := [(h_u, .inr (6, [.ref h_u_letters, .ref h_u_settings, .int u_size])), (h_u_settings, .inl (cI, 5, .inl u_settings))]) hP hD [3, 4] [0, 1, 2] rfl rfl (by decide) (by decide) hk1 hFc hP1 hD1
    generalize H1 = H at hP hS ⊢
    have hP : va_P (dC, dI) vwCl [(h_t, .inr (3, [.ref h_t_signs, .ref h_t_letters, .int t_length, .int t_at, .int t_size, .int t_faultPlace, .int t_faultReason, .int t_lettersTold, .int t_repeatsTold, .int t_correctionsTold, .int t_mostCorrections, .int t_deepest, .int t_fresh])), (h_t_letters, .inl (cI, 744, .inl t_letters)), (h_u_letters, .inl (cI, 24, .inl u_letters)), (h_u, .inr (6, [.ref h_u_letters, .ref h_u_settings, .int u_size])), (h_u_settings, .inl (cI, 5, .inl u_settings))] H := hP
    have hD : va_D A [(h_t, .inr (3, [.ref h_t_signs, .ref h_t_letters, .int t_length, .int t_at, .int t_size, .int t_faultPlace, .int t_faultReason, .int t_lettersTold, .int t_repeatsTold, .int t_correctionsTold, .int t_mostCorrections, .int t_deepest, .int t_fresh])), (h_t_letters, .inl (cI, 744, .inl t_letters)), (h_u_letters, .inl (cI, 24, .inl u_letters)), (h_u, .inr (6, [.ref h_u_letters, .ref h_u_settings, .int u_size])), (h_u_settings, .inl (cI, 5, .inl u_settings))] := hD
    refine lv_imul hx hb dX4_measure_55 ?_
    refine lv_iadd hx hb dX4_measure_56 ?_
    refine lv_aload_n hx hb dX4_measure_57 rfl (lv_at hl 0 rfl) ?_
    refine va_get (D := (dC, dI)) (ci := 3) (v := .int t_correctionsTold) (C := RX4) (T := TX4) (N := 13) hx hb hts iRd_measure_X4_measure_1 hown hK hP 0 rfl rfl 9 (by decide) (hts _ kRd_measure_X4_measure_3) (fun _ h9 => h9) rfl dX4_measure_58 ?_
    refine lv_aload_n hx hb dX4_measure_61 rfl (lv_at hl 2 rfl) ?_
    refine lv_iconst (v := (2 : Int32)) hx hb dX4_measure_62 (by decide) ?_
    obtain ⟨o4, ho4, hres⟩ := bd_of hres
    have hPc := hP.sub (ws' := [(h_u, .inr (6, [.ref h_u_letters, .ref h_u_settings, .int u_size])), (h_u_settings, .inl (cI, 5, .inl u_settings))]) [3, 4] rfl
    have hDc := hD.sub (ws' := [(h_u, .inr (6, [.ref h_u_letters, .ref h_u_settings, .int u_size])), (h_u_settings, .inl (cI, 5, .inl u_settings))]) [3, 4] (by decide) rfl
    have hFc := va_free (wc := [(h_u, .inr (6, [.ref h_u_letters, .ref h_u_settings, .int u_size])), (h_u_settings, .inl (cI, 5, .inl u_settings))]) hD hS hA [3, 4] rfl
    refine va_calli (va_runV (As := [.int (2 : Int32)]) (rest := [.int t_correctionsTold, .int ((t_lettersTold * o2) + (t_repeatsTold * o3))]) ⟨hx, hb, hml, hown, hts⟩ (cSt_setting l dC dI cI cJ cC cS h_u h_u_letters h_u_settings H.size u_size u_settings (2 : Int32) o4 ho4) (cwV 1 hts gX4_measure_X7_setting rfl rfl rfl (by decide +kernel) ⟨Nat.le_of_ble_eq_true rfl, Nat.le_of_ble_eq_true rfl⟩) ⟨fun a U g mk q => by obtain ⟨q0, q1, qP, qK, qN, qD⟩ := q; exact ⟨q0, q1, qP, va_K.moved (u := U) (U := U.calling g mk a) (Vm.Alike.refl U.vm) qK, nwS (u := U) (U := U.calling g mk a) rfl qN, qD⟩, va_recv hK hPc (ci := 6) (q0 := 0) rfl rfl, fun U hU hW => ⟨rfl, by rw [hU], by rw [hU]; exact hPc, va_K.moved hW.alike hK, nwW hW hN, hDc.weaken (fun _ _ _ _ => trivial)⟩⟩ rfl rfl hl.1 rfl (lv_room (Nat.le_of_ble_eq_true rfl)) dX4_measure_63 ⟨Nat.zero_le _, Nat.zero_le _⟩) hS (fun q _ h => hFc q h) hFc (fun r9 u9 t H1 locs ht hvm hw hB hz1 hk1 hS => ?_)
    have hw := hw.symm
    subst hw
    obtain ⟨hP1, hK1, hD1⟩ := hB
    rw [ht] at hP1
    obtain ⟨hP, hD⟩ := va_join (wr := [(h_t, .inr (3, [.ref h_t_signs, .ref h_t_letters, .int t_length, .int t_at, .int t_size, .int t_faultPlace, .int t_faultReason, .int t_lettersTold, .int t_repeatsTold, .int t_correctionsTold, .int t_mostCorrections, .int t_deepest, .int t_fresh])), (h_t_letters, .inl (cI, 744, .inl t_letters)), (h_u_letters, .inl (cI, 24, .inl u_letters))]) (w1 := [(h_u, .inr (6, [.ref h_u_letters, .ref h_u_settings, .int u_size])), (h_u_settings, .inl (cI, 5, .inl u_settings))]) hP hD [3, 4] [0, 1, 2] rfl rfl (by decide) (by decide) hk1 hFc hP1 hD1
    generalize H1 = H at hP hS ⊢
    have hP : va_P (dC, dI) vwCl [(h_t, .inr (3, [.ref h_t_signs, .ref h_t_letters, .int t_length, .int t_at, .int t_size, .int t_faultPlace, .int t_faultReason, .int t_lettersTold, .int t_repeatsTold, .int t_correctionsTold, .int t_mostCorrections, .int t_deepest, .int t_fresh])), (h_t_letters, .inl (cI, 744, .inl t_letters)), (h_u_letters, .inl (cI, 24, .inl u_letters)), (h_u, .inr (6, [.ref h_u_letters, .ref h_u_settings, .int u_size])), (h_u_settings, .inl (cI, 5, .inl u_settings))] H := hP
    have hD : va_D A [(h_t, .inr (3, [.ref h_t_signs, .ref h_t_letters, .int t_length, .int t_at, .int t_size, .int t_faultPlace, .int t_faultReason, .int t_lettersTold, .int t_repeatsTold, .int t_correctionsTold, .int t_mostCorrections, .int t_deepest, .int t_fresh])), (h_t_letters, .inl (cI, 744, .inl t_letters)), (h_u_letters, .inl (cI, 24, .inl u_letters)), (h_u, .inr (6, [.ref h_u_letters, .ref h_u_settings, .int u_size])), (h_u_settings, .inl (cI, 5, .inl u_settings))] := hD
    refine lv_imul hx hb dX4_measure_66 ?_
    refine lv_iadd hx hb dX4_measure_67 ?_
    have e9_0 := Option.some.inj hres
    subst e9_0
    rw [← hQQ]
    exact W.iret (v := (((t_lettersTold * o2) + (t_repeatsTold * o3)) + (t_correctionsTold * o4))) hx hb hr (fun t ht hW => ⟨⟨(((t_lettersTold * o2) + (t_repeatsTold * o3)) + (t_correctionsTold * o4)), (), rfl, rfl, by rw [ht]; exact hP.sub [0, 1, 3, 2, 4] rfl, va_K.moved hW.alike hK, hD.sub [0, 1, 3, 2, 4] (by decide) rfl⟩, hS.F ht⟩) hS.2.2 dX4_measure_68
  · have hres := ie_of hres c_1
    by_cases c_5 : x1 = (1 : Int32)
    · have hres := it_of hres c_5
      refine lv_tableIn (off := 68) (tgt := 69) hx hb dX4_measure_1 (by rw [c_5]; decide) (by rw [c_5]; decide) (by rw [c_5]; rfl) (by decide) ?_
      refine lv_aload_n hx hb dX4_measure_69 rfl (lv_at hl 0 rfl) ?_
      refine va_get (D := (dC, dI)) (ci := 3) (v := .int t_size) (C := RX4) (T := TX4) (N := 13) hx hb hts iRd_measure_X4_measure_1 hown hK hP 0 rfl rfl 4 (by decide) (hts _ kRd_measure_X4_measure_4) (fun _ h9 => h9) rfl dX4_measure_70 ?_
      have e9_0 := Option.some.inj hres
      subst e9_0
      rw [← hQQ]
      exact W.iret (v := t_size) hx hb hr (fun t ht hW => ⟨⟨t_size, (), rfl, rfl, by rw [ht]; exact hP, va_K.moved hW.alike hK, hD⟩, hS.F ht⟩) hS.2.2 dX4_measure_73
    · have hres := ie_of hres c_5
      by_cases c_6 : x1 = (2 : Int32)
      · have hres := it_of hres c_6
        refine lv_tableIn (off := 73) (tgt := 74) hx hb dX4_measure_1 (by rw [c_6]; decide) (by rw [c_6]; decide) (by rw [c_6]; rfl) (by decide) ?_
        refine lv_aload_n hx hb dX4_measure_74 rfl (lv_at hl 0 rfl) ?_
        refine va_get (D := (dC, dI)) (ci := 3) (v := .int t_deepest) (C := RX4) (T := TX4) (N := 13) hx hb hts iRd_measure_X4_measure_1 hown hK hP 0 rfl rfl 11 (by decide) (hts _ kRd_measure_X4_measure_5) (fun _ h9 => h9) rfl dX4_measure_75 ?_
        have e9_0 := Option.some.inj hres
        subst e9_0
        rw [← hQQ]
        exact W.iret (v := t_deepest) hx hb hr (fun t ht hW => ⟨⟨t_deepest, (), rfl, rfl, by rw [ht]; exact hP, va_K.moved hW.alike hK, hD⟩, hS.F ht⟩) hS.2.2 dX4_measure_78
      · have hres := ie_of hres c_6
        by_cases c_7 : x1 = (3 : Int32)
        · have hres := it_of hres c_7
          refine lv_tableIn (off := 78) (tgt := 79) hx hb dX4_measure_1 (by rw [c_7]; decide) (by rw [c_7]; decide) (by rw [c_7]; rfl) (by decide) ?_
          refine lv_aload_n hx hb dX4_measure_79 rfl (lv_at hl 0 rfl) ?_
          refine va_get (D := (dC, dI)) (ci := 3) (v := .int t_correctionsTold) (C := RX4) (T := TX4) (N := 13) hx hb hts iRd_measure_X4_measure_1 hown hK hP 0 rfl rfl 9 (by decide) (hts _ kRd_measure_X4_measure_3) (fun _ h9 => h9) rfl dX4_measure_80 ?_
          have e9_0 := Option.some.inj hres
          subst e9_0
          rw [← hQQ]
          exact W.iret (v := t_correctionsTold) hx hb hr (fun t ht hW => ⟨⟨t_correctionsTold, (), rfl, rfl, by rw [ht]; exact hP, va_K.moved hW.alike hK, hD⟩, hS.F ht⟩) hS.2.2 dX4_measure_83
        · have hres := ie_of hres c_7
          by_cases c_8 : x1 = (4 : Int32)
          · have hres := it_of hres c_8
            refine lv_tableIn (off := 83) (tgt := 84) hx hb dX4_measure_1 (by rw [c_8]; decide) (by rw [c_8]; decide) (by rw [c_8]; rfl) (by decide) ?_
            refine lv_aload_n hx hb dX4_measure_84 rfl (lv_at hl 0 rfl) ?_
            refine va_get (D := (dC, dI)) (ci := 3) (v := .int t_mostCorrections) (C := RX4) (T := TX4) (N := 13) hx hb hts iRd_measure_X4_measure_1 hown hK hP 0 rfl rfl 10 (by decide) (hts _ kRd_measure_X4_measure_6) (fun _ h9 => h9) rfl dX4_measure_85 ?_
            have e9_0 := Option.some.inj hres
            subst e9_0
            rw [← hQQ]
            exact W.iret (v := t_mostCorrections) hx hb hr (fun t ht hW => ⟨⟨t_mostCorrections, (), rfl, rfl, by rw [ht]; exact hP, va_K.moved hW.alike hK, hD⟩, hS.F ht⟩) hS.2.2 dX4_measure_88
          · have hres := ie_of hres c_8
            refine lv_tableOut (tgt := 89) hx hb dX4_measure_1 (tab_out (lo := 0) (hi := 4) (fun k h1 h2 => by rcases (show k = 0 ∨ k = 1 ∨ k = 2 ∨ k = 3 ∨ k = 4 by omega) with rfl | rfl | rfl | rfl | rfl <;> assumption)) (by decide) ?_
            refine lv_aload_n hx hb dX4_measure_89 rfl (lv_at hl 0 rfl) ?_
            refine lv_aload_n hx hb dX4_measure_90 rfl (lv_at hl 2 rfl) ?_
            obtain ⟨o9, ho9, hres⟩ := bd_of hres
            have hPc := hP.sub (ws' := [(h_t, .inr (3, [.ref h_t_signs, .ref h_t_letters, .int t_length, .int t_at, .int t_size, .int t_faultPlace, .int t_faultReason, .int t_lettersTold, .int t_repeatsTold, .int t_correctionsTold, .int t_mostCorrections, .int t_deepest, .int t_fresh])), (h_t_letters, .inl (cI, 744, .inl t_letters)), (h_u, .inr (6, [.ref h_u_letters, .ref h_u_settings, .int u_size])), (h_u_letters, .inl (cI, 24, .inl u_letters))]) [0, 1, 2, 3] rfl
            have hDc := hD.sub (ws' := [(h_t, .inr (3, [.ref h_t_signs, .ref h_t_letters, .int t_length, .int t_at, .int t_size, .int t_faultPlace, .int t_faultReason, .int t_lettersTold, .int t_repeatsTold, .int t_correctionsTold, .int t_mostCorrections, .int t_deepest, .int t_fresh])), (h_t_letters, .inl (cI, 744, .inl t_letters)), (h_u, .inr (6, [.ref h_u_letters, .ref h_u_settings, .int u_size])), (h_u_letters, .inl (cI, 24, .inl u_letters))]) [0, 1, 2, 3] (by decide) rfl
            have hFc := va_free (wc := [(h_t, .inr (3, [.ref h_t_signs, .ref h_t_letters, .int t_length, .int t_at, .int t_size, .int t_faultPlace, .int t_faultReason, .int t_lettersTold, .int t_repeatsTold, .int t_correctionsTold, .int t_mostCorrections, .int t_deepest, .int t_fresh])), (h_t_letters, .inl (cI, 744, .inl t_letters)), (h_u, .inr (6, [.ref h_u_letters, .ref h_u_settings, .int u_size])), (h_u_letters, .inl (cI, 24, .inl u_letters))]) hD hS hA [0, 1, 2, 3] rfl
            refine va_calli (va_runV (As := [.ref h_u]) (rest := []) ⟨hx, hb, hml, hown, hts⟩ (cRd_describes l dC dI cI cJ cC cS h_t h_t_signs h_t_letters h_u h_u_letters h_u_settings H.size t_length t_at t_size t_faultPlace t_faultReason t_lettersTold t_repeatsTold t_correctionsTold t_mostCorrections t_deepest t_fresh t_letters u_size u_letters o9 ho9) (cwV 1 hts gX4_measure_X4_describes rfl rfl rfl (by decide +kernel) ⟨Nat.le_of_ble_eq_true rfl, Nat.le_of_ble_eq_true rfl⟩) ⟨fun a U g mk q => by obtain ⟨q0, q1, qP, qK, qN, qD⟩ := q; exact ⟨q0, q1, qP, va_K.moved (u := U) (U := U.calling g mk a) (Vm.Alike.refl U.vm) qK, nwS (u := U) (U := U.calling g mk a) rfl qN, qD⟩, va_recv hK hPc (ci := 3) (q0 := 0) rfl rfl, fun U hU hW => ⟨rfl, by rw [hU], by rw [hU]; exact hPc, va_K.moved hW.alike hK, nwW hW hN, hDc.weaken (fun _ _ _ _ => trivial)⟩⟩ rfl rfl hl.1 rfl (lv_room (Nat.le_of_ble_eq_true rfl)) dX4_measure_91 ⟨Nat.zero_le _, Nat.zero_le _⟩) hS (fun q _ h => hFc q h) hFc (fun r9 u9 t H1 locs ht hvm hw hB hz1 hk1 hS => ?_)
            have hw := hw.symm
            subst hw
            obtain ⟨hP1, hK1, hD1⟩ := hB
            rw [ht] at hP1
            obtain ⟨hP, hD⟩ := va_join (wr := [(h_u_settings, .inl (cI, 5, .inl u_settings))]) (w1 := [(h_t, .inr (3, [.ref h_t_signs, .ref h_t_letters, .int t_length, .int t_at, .int t_size, .int t_faultPlace, .int t_faultReason, .int t_lettersTold, .int t_repeatsTold, .int t_correctionsTold, .int t_mostCorrections, .int t_deepest, .int t_fresh])), (h_t_letters, .inl (cI, 744, .inl t_letters)), (h_u, .inr (6, [.ref h_u_letters, .ref h_u_settings, .int u_size])), (h_u_letters, .inl (cI, 24, .inl u_letters))]) hP hD [0, 1, 2, 3] [4] rfl rfl (by decide) (by decide) hk1 hFc hP1 hD1
            generalize H1 = H at hP hS ⊢
            have hP : va_P (dC, dI) vwCl [(h_u_settings, .inl (cI, 5, .inl u_settings)), (h_t, .inr (3, [.ref h_t_signs, .ref h_t_letters, .int t_length, .int t_at, .int t_size, .int t_faultPlace, .int t_faultReason, .int t_lettersTold, .int t_repeatsTold, .int t_correctionsTold, .int t_mostCorrections, .int t_deepest, .int t_fresh])), (h_t_letters, .inl (cI, 744, .inl t_letters)), (h_u, .inr (6, [.ref h_u_letters, .ref h_u_settings, .int u_size])), (h_u_letters, .inl (cI, 24, .inl u_letters))] H := hP
            have hD : va_D A [(h_u_settings, .inl (cI, 5, .inl u_settings)), (h_t, .inr (3, [.ref h_t_signs, .ref h_t_letters, .int t_length, .int t_at, .int t_size, .int t_faultPlace, .int t_faultReason, .int t_lettersTold, .int t_repeatsTold, .int t_correctionsTold, .int t_mostCorrections, .int t_deepest, .int t_fresh])), (h_t_letters, .inl (cI, 744, .inl t_letters)), (h_u, .inr (6, [.ref h_u_letters, .ref h_u_settings, .int u_size])), (h_u_letters, .inl (cI, 24, .inl u_letters))] := hD
            refine lv_if_eq (tgt := 101) hx hb dX4_measure_94 (by decide) (fun c_10 => ?_) (fun c_10 => ?_)
            · have hres := it_of hres c_10
              refine lv_iconst (v := (0 : Int32)) hx hb dX4_measure_101 (by decide) ?_
              have e9_0 := Option.some.inj hres
              subst e9_0
              rw [← hQQ]
              exact W.iret (v := (0 : Int32)) hx hb hr (fun t ht hW => ⟨⟨(0 : Int32), (), rfl, rfl, by rw [ht]; exact hP.sub [1, 2, 3, 4, 0] rfl, va_K.moved hW.alike hK, hD.sub [1, 2, 3, 4, 0] (by decide) rfl⟩, hS.F ht⟩) hS.2.2 dX4_measure_102
            · have hres := ie_of hres c_10
              refine lv_iconst (v := (1 : Int32)) hx hb dX4_measure_97 (by decide) ?_
              refine lv_goto (tgt := 102) hx hb dX4_measure_98 (by decide) ?_
              have e9_0 := Option.some.inj hres
              subst e9_0
              rw [← hQQ]
              exact W.iret (v := (1 : Int32)) hx hb hr (fun t ht hW => ⟨⟨(1 : Int32), (), rfl, rfl, by rw [ht]; exact hP.sub [1, 2, 3, 4, 0] rfl, va_K.moved hW.alike hK, hD.sub [1, 2, 3, 4, 0] (by decide) rfl⟩, hS.F ht⟩) hS.2.2 dX4_measure_102

-- Rd_add
theorem kRd_add_X4_add_0 : Cond.fieldLink RX4 18 "RepeatNests$Reader" "length" "I" ∈ wsX4_add := by decide +kernel
theorem iRd_add_X4_add_1 : ∀ w ∈ wsX40, w ∈ wsX4_add := by decide +kernel
theorem kRd_add_X4_add_2 : Cond.fieldLink RX4 49 "RepeatNests$Reader" "fresh" "Z" ∈ wsX4_add := by decide +kernel
theorem kRd_add_X4_add_3 : Cond.fieldLink RX4 9 "RepeatNests$Reader" "signs" "[I" ∈ wsX4_add := by decide +kernel
set_option maxHeartbeats 4000000 in
set_option maxRecDepth 100000 in
theorem cRd_add (l : Launch) (dC : Nat → ClassId) (dI : Nat → Nat → Nat) (cI cJ cC cS : ClassId) (h_t h_t_signs h_t_letters : Nat) (sz : Nat) (t_length : Int32) (t_at : Int32) (t_size : Int32) (t_faultPlace : Int32) (t_faultReason : Int32) (t_lettersTold : Int32) (t_repeatsTold : Int32) (t_correctionsTold : Int32) (t_mostCorrections : Int32) (t_deepest : Int32) (t_fresh : Int32) (t_signs : Nat → Int32) (x1 : Int32) (y_t_length : Int32) (y_t_fresh : Int32) (y_t_signs : Nat → Int32) (hres : fRd_add t_length t_signs x1 = some (y_t_length, y_t_fresh, y_t_signs)) :
    Met l yX4_add wsX4_add ({ frames := 0, cells := 0, slots := 0, locals := 0 } : Room) (va_Pc [.ref h_t, .int x1] (fun (U : State) => U.heap.size = sz ∧ va_P (dC, dI) vwCl [(h_t, .inr (3, [.ref h_t_signs, .ref h_t_letters, .int t_length, .int t_at, .int t_size, .int t_faultPlace, .int t_faultReason, .int t_lettersTold, .int t_repeatsTold, .int t_correctionsTold, .int t_mostCorrections, .int t_deepest, .int t_fresh])), (h_t_signs, .inl (cI, 60, .inl t_signs))] U.heap ∧ va_K (dC, dI) vwCl (tyA cI cJ cC cS) U ∧ nwN U ∧ va_D (fun _ => True) [(h_t, .inr (3, [.ref h_t_signs, .ref h_t_letters, .int t_length, .int t_at, .int t_size, .int t_faultPlace, .int t_faultReason, .int t_lettersTold, .int t_repeatsTold, .int t_correctionsTold, .int t_mostCorrections, .int t_deepest, .int t_fresh])), (h_t_signs, .inl (cI, 60, .inl t_signs))])) (va_Qv (fun (_ : Unit) => True) (fun (_ : Unit) (t : State) => va_P (dC, dI) vwCl [(h_t, .inr (3, [.ref h_t_signs, .ref h_t_letters, .int y_t_length, .int t_at, .int t_size, .int t_faultPlace, .int t_faultReason, .int t_lettersTold, .int t_repeatsTold, .int t_correctionsTold, .int t_mostCorrections, .int t_deepest, .int y_t_fresh])), (h_t_signs, .inl (cI, 60, .inl y_t_signs))] t.heap ∧ va_K (dC, dI) vwCl (tyA cI cJ cC cS) t ∧ va_D (va_A [(h_t, .inr (3, [.ref h_t_signs, .ref h_t_letters, .int t_length, .int t_at, .int t_size, .int t_faultPlace, .int t_faultReason, .int t_lettersTold, .int t_repeatsTold, .int t_correctionsTold, .int t_mostCorrections, .int t_deepest, .int t_fresh])), (h_t_signs, .inl (cI, 60, .inl t_signs))] sz) [(h_t, .inr (3, [.ref h_t_signs, .ref h_t_letters, .int y_t_length, .int t_at, .int t_size, .int t_faultPlace, .int t_faultReason, .int t_lettersTold, .int t_repeatsTold, .int t_correctionsTold, .int t_mostCorrections, .int t_deepest, .int y_t_fresh])), (h_t_signs, .inl (cI, 60, .inl y_t_signs))]) (va_A [(h_t, .inr (3, [.ref h_t_signs, .ref h_t_letters, .int t_length, .int t_at, .int t_size, .int t_faultPlace, .int t_faultReason, .int t_lettersTold, .int t_repeatsTold, .int t_correctionsTold, .int t_mostCorrections, .int t_deepest, .int t_fresh])), (h_t_signs, .inl (cI, 60, .inl t_signs))] sz)) 0 0 (va_A [(h_t, .inr (3, [.ref h_t_signs, .ref h_t_letters, .int t_length, .int t_at, .int t_size, .int t_faultPlace, .int t_faultReason, .int t_lettersTold, .int t_repeatsTold, .int t_correctionsTold, .int t_mostCorrections, .int t_deepest, .int t_fresh])), (h_t_signs, .inl (cI, 60, .inl t_signs))] sz) := by
  refine Met.ofW (cc := cX4_add) (maxL := 2) (ret := none) (by decide) rfl ?_
  intro p e s m args below meth c s₁ B hml hv
  obtain ⟨hargs, hsz, hP, hK, hN, hD0⟩ := hv
  have hx := B.exec
  have hb := B.bytes
  have hr := B.returns
  have hts := atoms_spec (ws := wsX4_add) B.pre
  have hown : s.vm.findClass RX4 = some m.cls := findClass_of_methodNamed B.named
  have hlocks := B.notSynchronized
  subst hsz
  have hD := hD0.self (sz := s.heap.size)
  generalize hAe : va_A [(h_t, .inr (3, [.ref h_t_signs, .ref h_t_letters, .int t_length, .int t_at, .int t_size, .int t_faultPlace, .int t_faultReason, .int t_lettersTold, .int t_repeatsTold, .int t_correctionsTold, .int t_mostCorrections, .int t_deepest, .int t_fresh])), (h_t_signs, .inl (cI, 60, .inl t_signs))] s.heap.size = A at hD ⊢
  have hA : ∀ q : Nat, s.heap.size ≤ q → A q := fun q h => by rw [← hAe]; exact Or.inr h
  have hS : va_S A s.heap s.heap [] := va_S.rf
  have hP : va_P (dC, dI) vwCl [(h_t, .inr (3, [.ref h_t_signs, .ref h_t_letters, .int t_length, .int t_at, .int t_size, .int t_faultPlace, .int t_faultReason, .int t_lettersTold, .int t_repeatsTold, .int t_correctionsTold, .int t_mostCorrections, .int t_deepest, .int t_fresh])), (h_t_signs, .inl (cI, 60, .inl t_signs))] s.heap := hP
  have hl := lv_entry [.ref h_t, .int x1] (n := 2) (Nat.le_of_ble_eq_true rfl)
  rw [show entryFrame m args 2 = entryFrame m ([.ref h_t, .int x1] : List Value).toArray 2 from by rw [hargs], lg_entry_eq]
  generalize (lg_sl [.ref h_t, .int x1] ++ List.replicate (2 - (lg_sl [.ref h_t, .int x1]).length) Slot.unset).toArray = ls at hl ⊢
  have hl : lv_has ls 2 [(0, .ref h_t), (1, .int x1)] := hl
  generalize hQQ : MQ below (va_Qv (fun (_ : Unit) => True) (fun (_ : Unit) (t : State) => va_P (dC, dI) vwCl [(h_t, .inr (3, [.ref h_t_signs, .ref h_t_letters, .int y_t_length, .int t_at, .int t_size, .int t_faultPlace, .int t_faultReason, .int t_lettersTold, .int t_repeatsTold, .int t_correctionsTold, .int t_mostCorrections, .int t_deepest, .int y_t_fresh])), (h_t_signs, .inl (cI, 60, .inl y_t_signs))] t.heap ∧ va_K (dC, dI) vwCl (tyA cI cJ cC cS) t ∧ va_D A [(h_t, .inr (3, [.ref h_t_signs, .ref h_t_letters, .int y_t_length, .int t_at, .int t_size, .int t_faultPlace, .int t_faultReason, .int t_lettersTold, .int t_repeatsTold, .int t_correctionsTold, .int t_mostCorrections, .int t_deepest, .int y_t_fresh])), (h_t_signs, .inl (cI, 60, .inl y_t_signs))]) A) args s 0 0 A = QQ
  obtain ⟨H, hH⟩ : ∃ H : Heap, H = s.heap := ⟨_, rfl⟩
  obtain ⟨locs, hlocs⟩ : ∃ locs : List Loc, locs = [] := ⟨_, rfl⟩
  rw [← hH] at hP
  have hS : va_S A s.heap H locs := by rw [hH, hlocs]; exact hS
  suffices hZ : W p l e (headSpec wsX4_add ({ frames := 0, cells := 0, slots := 0, locals := 0 } : Room)).room s m args below meth c H locs 0 0 QQ (F0 m 0 ls []) by rw [hH, hlocs] at hZ; exact hZ
  clear hH hlocs
  rw [fRd_add] at hres
  refine lv_aload_n hx hb dX4_add_0 rfl (lv_at hl 0 rfl) ?_
  refine va_get (D := (dC, dI)) (ci := 3) (v := .int t_length) (C := RX4) (T := TX4) (N := 13) hx hb hts iRd_add_X4_add_1 hown hK hP 0 rfl rfl 2 (by decide) (hts _ kRd_add_X4_add_0) (fun _ h9 => h9) rfl dX4_add_1 ?_
  refine lv_if_lt (tgt := 36) hx hb dX4_add_4 (by decide) (fun c_1 => ?_) (fun c_1 => ?_)
  · have hres := it_of hres c_1
    refine lv_aload_n hx hb dX4_add_36 rfl (lv_at hl 0 rfl) ?_
    refine lv_iconst (v := (0 : Int32)) hx hb dX4_add_37 (by decide) ?_
    refine va_put (D := (dC, dI)) (ci := 3) (v := .int (0 : Int32)) (ty := .boolean) (C := RX4) (T := TX4) (N := 13) hx hb hts iRd_add_X4_add_1 tyX4 tyX4_ok nmX4 hown hK hP hD hS 0 rfl rfl 12 (by decide) (hts _ kRd_add_X4_add_2) (fun _ h9 => h9) rfl (by decide +kernel) rfl rfl (Nat.le_of_ble_eq_true rfl) dX4_add_38 (fun H locs hP hD hS => ?_)
    have hP : va_P (dC, dI) vwCl [(h_t, .inr (3, [.ref h_t_signs, .ref h_t_letters, .int t_length, .int t_at, .int t_size, .int t_faultPlace, .int t_faultReason, .int t_lettersTold, .int t_repeatsTold, .int t_correctionsTold, .int t_mostCorrections, .int t_deepest, .int (0 : Int32)])), (h_t_signs, .inl (cI, 60, .inl t_signs))] H := hP
    have hD : va_D A [(h_t, .inr (3, [.ref h_t_signs, .ref h_t_letters, .int t_length, .int t_at, .int t_size, .int t_faultPlace, .int t_faultReason, .int t_lettersTold, .int t_repeatsTold, .int t_correctionsTold, .int t_mostCorrections, .int t_deepest, .int (0 : Int32)])), (h_t_signs, .inl (cI, 60, .inl t_signs))] := hD
    obtain ⟨e9_0, e9_1, e9_2⟩ := tup3 hres
    subst e9_0
    subst e9_1
    subst e9_2
    rw [← hQQ]
    exact W.vret hx hb hr (fun t ht hW => ⟨⟨(), rfl, trivial, by rw [ht]; exact hP, va_K.moved hW.alike hK, hD⟩, hS.F ht⟩) hS.2.2 dX4_add_41
  · have hres := ie_of hres c_1
    refine lv_aload_n hx hb dX4_add_7 rfl (lv_at hl 0 rfl) ?_
    refine va_get (D := (dC, dI)) (ci := 3) (v := .int t_length) (C := RX4) (T := TX4) (N := 13) hx hb hts iRd_add_X4_add_1 hown hK hP 0 rfl rfl 2 (by decide) (hts _ kRd_add_X4_add_0) (fun _ h9 => h9) rfl dX4_add_8 ?_
    refine lv_bipush (v := (60 : Int32)) hx hb dX4_add_11 (by decide) ?_
    refine lv_icmp_ge (tgt := 36) hx hb dX4_add_13 (by decide) (fun c_2 => ?_) (fun c_2 => ?_)
    · have hres := it_of hres c_2
      refine lv_aload_n hx hb dX4_add_36 rfl (lv_at hl 0 rfl) ?_
      refine lv_iconst (v := (0 : Int32)) hx hb dX4_add_37 (by decide) ?_
      refine va_put (D := (dC, dI)) (ci := 3) (v := .int (0 : Int32)) (ty := .boolean) (C := RX4) (T := TX4) (N := 13) hx hb hts iRd_add_X4_add_1 tyX4 tyX4_ok nmX4 hown hK hP hD hS 0 rfl rfl 12 (by decide) (hts _ kRd_add_X4_add_2) (fun _ h9 => h9) rfl (by decide +kernel) rfl rfl (Nat.le_of_ble_eq_true rfl) dX4_add_38 (fun H locs hP hD hS => ?_)
      have hP : va_P (dC, dI) vwCl [(h_t, .inr (3, [.ref h_t_signs, .ref h_t_letters, .int t_length, .int t_at, .int t_size, .int t_faultPlace, .int t_faultReason, .int t_lettersTold, .int t_repeatsTold, .int t_correctionsTold, .int t_mostCorrections, .int t_deepest, .int (0 : Int32)])), (h_t_signs, .inl (cI, 60, .inl t_signs))] H := hP
      have hD : va_D A [(h_t, .inr (3, [.ref h_t_signs, .ref h_t_letters, .int t_length, .int t_at, .int t_size, .int t_faultPlace, .int t_faultReason, .int t_lettersTold, .int t_repeatsTold, .int t_correctionsTold, .int t_mostCorrections, .int t_deepest, .int (0 : Int32)])), (h_t_signs, .inl (cI, 60, .inl t_signs))] := hD
      obtain ⟨e9_0, e9_1, e9_2⟩ := tup3 hres
      subst e9_0
      subst e9_1
      subst e9_2
      rw [← hQQ]
      exact W.vret hx hb hr (fun t ht hW => ⟨⟨(), rfl, trivial, by rw [ht]; exact hP, va_K.moved hW.alike hK, hD⟩, hS.F ht⟩) hS.2.2 dX4_add_41
    · have hres := ie_of hres c_2
      refine lv_aload_n hx hb dX4_add_16 rfl (lv_at hl 0 rfl) ?_
      refine va_get (D := (dC, dI)) (ci := 3) (v := .ref h_t_signs) (C := RX4) (T := TX4) (N := 13) hx hb hts iRd_add_X4_add_1 hown hK hP 0 rfl rfl 0 (by decide) (hts _ kRd_add_X4_add_3) (fun _ h9 => h9) rfl dX4_add_17 ?_
      refine lv_aload_n hx hb dX4_add_20 rfl (lv_at hl 0 rfl) ?_
      refine va_get (D := (dC, dI)) (ci := 3) (v := .int t_length) (C := RX4) (T := TX4) (N := 13) hx hb hts iRd_add_X4_add_1 hown hK hP 0 rfl rfl 2 (by decide) (hts _ kRd_add_X4_add_0) (fun _ h9 => h9) rfl dX4_add_21 ?_
      refine lv_iload_n hx hb dX4_add_24 rfl (lv_at hl 1 rfl) ?_
      obtain ⟨c_3, hres⟩ := ck_of hres
      refine va_iast hx hb hK hP hD hS 1 0 rfl rfl c_3 dX4_add_25 (fun H locs hP hD hS => ?_)
      have hP : va_P (dC, dI) vwCl [(h_t, .inr (3, [.ref h_t_signs, .ref h_t_letters, .int t_length, .int t_at, .int t_size, .int t_faultPlace, .int t_faultReason, .int t_lettersTold, .int t_repeatsTold, .int t_correctionsTold, .int t_mostCorrections, .int t_deepest, .int t_fresh])), (h_t_signs, .inl (cI, 60, .inl (wr t_signs t_length x1)))] H := hP
      have hD : va_D A [(h_t, .inr (3, [.ref h_t_signs, .ref h_t_letters, .int t_length, .int t_at, .int t_size, .int t_faultPlace, .int t_faultReason, .int t_lettersTold, .int t_repeatsTold, .int t_correctionsTold, .int t_mostCorrections, .int t_deepest, .int t_fresh])), (h_t_signs, .inl (cI, 60, .inl (wr t_signs t_length x1)))] := hD
      refine lv_aload_n hx hb dX4_add_26 rfl (lv_at hl 0 rfl) ?_
      refine lv_dup hx hb dX4_add_27 rfl ?_
      refine va_get (D := (dC, dI)) (ci := 3) (v := .int t_length) (C := RX4) (T := TX4) (N := 13) hx hb hts iRd_add_X4_add_1 hown hK hP 0 rfl rfl 2 (by decide) (hts _ kRd_add_X4_add_0) (fun _ h9 => h9) rfl dX4_add_28 ?_
      refine lv_iconst (v := (1 : Int32)) hx hb dX4_add_31 (by decide) ?_
      refine lv_iadd hx hb dX4_add_32 ?_
      refine va_put (D := (dC, dI)) (ci := 3) (v := .int (t_length + (1 : Int32))) (ty := .int) (C := RX4) (T := TX4) (N := 13) hx hb hts iRd_add_X4_add_1 tyX4 tyX4_ok nmX4 hown hK hP hD hS 0 rfl rfl 2 (by decide) (hts _ kRd_add_X4_add_0) (fun _ h9 => h9) rfl (by decide +kernel) rfl rfl (Nat.le_of_ble_eq_true rfl) dX4_add_33 (fun H locs hP hD hS => ?_)
      have hP : va_P (dC, dI) vwCl [(h_t, .inr (3, [.ref h_t_signs, .ref h_t_letters, .int (t_length + (1 : Int32)), .int t_at, .int t_size, .int t_faultPlace, .int t_faultReason, .int t_lettersTold, .int t_repeatsTold, .int t_correctionsTold, .int t_mostCorrections, .int t_deepest, .int t_fresh])), (h_t_signs, .inl (cI, 60, .inl (wr t_signs t_length x1)))] H := hP
      have hD : va_D A [(h_t, .inr (3, [.ref h_t_signs, .ref h_t_letters, .int (t_length + (1 : Int32)), .int t_at, .int t_size, .int t_faultPlace, .int t_faultReason, .int t_lettersTold, .int t_repeatsTold, .int t_correctionsTold, .int t_mostCorrections, .int t_deepest, .int t_fresh])), (h_t_signs, .inl (cI, 60, .inl (wr t_signs t_length x1)))] := hD
      refine lv_aload_n hx hb dX4_add_36 rfl (lv_at hl 0 rfl) ?_
      refine lv_iconst (v := (0 : Int32)) hx hb dX4_add_37 (by decide) ?_
      refine va_put (D := (dC, dI)) (ci := 3) (v := .int (0 : Int32)) (ty := .boolean) (C := RX4) (T := TX4) (N := 13) hx hb hts iRd_add_X4_add_1 tyX4 tyX4_ok nmX4 hown hK hP hD hS 0 rfl rfl 12 (by decide) (hts _ kRd_add_X4_add_2) (fun _ h9 => h9) rfl (by decide +kernel) rfl rfl (Nat.le_of_ble_eq_true rfl) dX4_add_38 (fun H locs hP hD hS => ?_)
      have hP : va_P (dC, dI) vwCl [(h_t, .inr (3, [.ref h_t_signs, .ref h_t_letters, .int (t_length + (1 : Int32)), .int t_at, .int t_size, .int t_faultPlace, .int t_faultReason, .int t_lettersTold, .int t_repeatsTold, .int t_correctionsTold, .int t_mostCorrections, .int t_deepest, .int (0 : Int32)])), (h_t_signs, .inl (cI, 60, .inl (wr t_signs t_length x1)))] H := hP
      have hD : va_D A [(h_t, .inr (3, [.ref h_t_signs, .ref h_t_letters, .int (t_length + (1 : Int32)), .int t_at, .int t_size, .int t_faultPlace, .int t_faultReason, .int t_lettersTold, .int t_repeatsTold, .int t_correctionsTold, .int t_mostCorrections, .int t_deepest, .int (0 : Int32)])), (h_t_signs, .inl (cI, 60, .inl (wr t_signs t_length x1)))] := hD
      obtain ⟨e9_0, e9_1, e9_2⟩ := tup3 hres
      subst e9_0
      subst e9_1
      subst e9_2
      rw [← hQQ]
      exact W.vret hx hb hr (fun t ht hW => ⟨⟨(), rfl, trivial, by rw [ht]; exact hP, va_K.moved hW.alike hK, hD⟩, hS.F ht⟩) hS.2.2 dX4_add_41
