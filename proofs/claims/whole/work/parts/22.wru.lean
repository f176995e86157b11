-- Ru_init
theorem kRu_init_X6_init_0 : Cond.methodLink RX6 3 objectInit ∈ wsX6_init := by decide +kernel
theorem kRu_init_X6_init_1 : Cond.instanceMethod objectInit ∈ wsX6_init := by decide +kernel
theorem kRu_init_X6_init_2 : Cond.code objectInit ⟨#[0xb1]⟩ 1 none ∈ wsX6_init := by decide +kernel
theorem kRu_init_X6_init_3 : Cond.arrayClass .int ∈ wsX6_init := by decide +kernel
theorem kRu_init_X6_init_4 : Cond.fieldLink RX6 9 "RepeatNests$Runs" "froms" "[I" ∈ wsX6_init := by decide +kernel
theorem iRu_init_X6_init_5 : ∀ w ∈ wsX60, w ∈ wsX6_init := by decide +kernel
theorem kRu_init_X6_init_6 : Cond.fieldLink RX6 15 "RepeatNests$Runs" "tos" "[I" ∈ wsX6_init := by decide +kernel
theorem kRu_init_X6_init_7 : Cond.fieldLink RX6 18 "RepeatNests$Runs" "periods" "[I" ∈ wsX6_init := by decide +kernel
theorem kRu_init_X6_init_8 : Cond.fieldLink RX6 21 "RepeatNests$Runs" "number" "I" ∈ wsX6_init := by decide +kernel
theorem kRu_init_X6_init_9 : Cond.fieldLink RX6 25 "RepeatNests$Runs" "fresh" "Z" ∈ wsX6_init := by decide +kernel
set_option maxHeartbeats 4000000 in
set_option maxRecDepth 100000 in
theorem cRu_init (l : Launch) (dC : Nat → ClassId) (dI : Nat → Nat → Nat) (cI cJ cC cS : ClassId) (h_t : Nat) (sz : Nat) (hres : fRu_init = some ()) :
    Met l yX6_init wsX6_init ({ frames := 1, cells := 3, slots := 72, locals := 21 } : Room) (va_Pc [.ref h_t] (fun (U : State) => U.heap.size = sz ∧ va_P (dC, dI) vwCl [(h_t, .inr (5, [.null, .null, .null, .int 0, .int 0]))] U.heap ∧ va_K (dC, dI) vwCl (tyA cI cJ cC cS) U ∧ nwN U ∧ va_D (fun _ => True) [(h_t, .inr (5, [.null, .null, .null, .int 0, .int 0]))])) (va_Qv (fun (_ : Nat × Nat × Nat) => True) (fun (u8 : Nat × Nat × Nat) (t : State) => va_P (dC, dI) vwCl [(h_t, .inr (5, [.ref u8.1, .ref u8.2.1, .ref u8.2.2, .int (0 : Int32), .int (0 : Int32)])), (u8.1, .inl (cI, 24, .inl (fun _ => 0))), (u8.2.1, .inl (cI, 24, .inl (fun _ => 0))), (u8.2.2, .inl (cI, 24, .inl (fun _ => 0)))] t.heap ∧ va_K (dC, dI) vwCl (tyA cI cJ cC cS) t ∧ va_D (va_A [(h_t, .inr (5, [.null, .null, .null, .int 0, .int 0]))] sz) [(h_t, .inr (5, [.ref u8.1, .ref u8.2.1, .ref u8.2.2, .int (0 : Int32), .int (0 : Int32)])), (u8.1, .inl (cI, 24, .inl (fun _ => 0))), (u8.2.1, .inl (cI, 24, .inl (fun _ => 0))), (u8.2.2, .inl (cI, 24, .inl (fun _ => 0)))]) (va_A [(h_t, .inr (5, [.null, .null, .null, .int 0, .int 0]))] sz)) 3 72 (va_A [(h_t, .inr (5, [.null, .null, .null, .int 0, .int 0]))] sz) := by
  refine Met.ofW (cc := cX6_init) (maxL := 1) (ret := none) (by decide) rfl ?_
  intro p e s m args below meth c s₁ B hml hv
  obtain ⟨hargs, hsz, hP, hK, hN, hD0⟩ := hv
  have hx := B.exec
  have hb := B.bytes
  have hr := B.returns
  have hts := atoms_spec (ws := wsX6_init) B.pre
  have hown : s.vm.findClass RX6 = some m.cls := findClass_of_methodNamed B.named
  have hlocks := B.notSynchronized
  have hin : meth.name = "<init>" := (name_of_methodNamed B.named B.method).1
  subst hsz
  have hD := hD0.self (sz := s.heap.size)
  generalize hAe : va_A [(h_t, .inr (5, [.null, .null, .null, .int 0, .int 0]))] s.heap.size = A at hD ⊢
  have hA : ∀ q : Nat, s.heap.size ≤ q → A q := fun q h => by rw [← hAe]; exact Or.inr h
  have hS : va_S A s.heap s.heap [] := va_S.rf
  have hP : va_P (dC, dI) vwCl [(h_t, .inr (5, [.null, .null, .null, .int 0, .int 0]))] s.heap := hP
  have hl := lv_entry [.ref h_t] (n := 1) (Nat.le_of_ble_eq_true rfl)
  rw [show entryFrame m args 1 = entryFrame m ([.ref h_t] : List Value).toArray 1 from by rw [hargs], lg_entry_eq]
  generalize (lg_sl [.ref h_t] ++ List.replicate (1 - (lg_sl [.ref h_t]).length) Slot.unset).toArray = ls at hl ⊢
  have hl : lv_has ls 1 [(0, .ref h_t)] := hl
  generalize hQQ : MQ below (va_Qv (fun (_ : Nat × Nat × Nat) => True) (fun (u8 : Nat × Nat × Nat) (t : State) => va_P (dC, dI) vwCl [(h_t, .inr (5, [.ref u8.1, .ref u8.2.1, .ref u8.2.2, .int (0 : Int32), .int (0 : Int32)])), (u8.1, .inl (cI, 24, .inl (fun _ => 0))), (u8.2.1, .inl (cI, 24, .inl (fun _ => 0))), (u8.2.2, .inl (cI, 24, .inl (fun _ => 0)))] t.heap ∧ va_K (dC, dI) vwCl (tyA cI cJ cC cS) t ∧ va_D A [(h_t, .inr (5, [.ref u8.1, .ref u8.2.1, .ref u8.2.2, .int (0 : Int32), .int (0 : Int32)])), (u8.1, .inl (cI, 24, .inl (fun _ => 0))), (u8.2.1, .inl (cI, 24, .inl (fun _ => 0))), (u8.2.2, .inl (cI, 24, .inl (fun _ => 0)))]) A) args s 3 72 A = QQ
  obtain ⟨H, hH⟩ : ∃ H : Heap, H = s.heap := ⟨_, rfl⟩
  obtain ⟨locs, hlocs⟩ : ∃ locs : List Loc, locs = [] := ⟨_, rfl⟩
  rw [← hH] at hP
  have hS : va_S A s.heap H locs := by rw [hH, hlocs]; exact hS
  suffices hZ : W p l e (headSpec wsX6_init ({ frames := 1, cells := 3, slots := 72, locals := 21 } : Room)).room s m args below meth c H locs 0 0 QQ (F0 m 0 ls []) by rw [hH, hlocs] at hZ; exact hZ
  clear hH hlocs
  rw [fRu_init] at hres
  refine lv_aload_n hx hb dX6_init_0 rfl (lv_at hl 0 rfl) ?_
  refine W.objInit hx hb hown (hts _ kRu_init_X6_init_0) (hts _ kRu_init_X6_init_1) (hts _ kRu_init_X6_init_2) rfl (by rw [hml]; exact hl.1) rfl dX6_init_1 (Nat.le_of_ble_eq_true rfl) (Nat.le_of_ble_eq_true rfl) ?_
  refine W.eq (g2 := F0 m 4 ls []) rfl ?_
  refine lv_aload_n hx hb dX6_init_4 rfl (lv_at hl 0 rfl) ?_
  refine lv_bipush (v := (24 : Int32)) hx hb dX6_init_5 (by decide) ?_
  refine va_newa hx hb (atype := .int) (hts _ kRu_init_X6_init_3) (ty := .int) rfl hK hP hD hS hA (N' := 24) (a0 := (24, .inl (fun _ => 0))) (fun cA => rfl) (by decide) (by decide) (Nat.le_of_ble_eq_true rfl) (Nat.le_of_ble_eq_true rfl) (Nat.le_of_ble_eq_true rfl) dX6_init_7 (fun q_n7 cA H hK9 hP hD hS => ?_)
  have eA := newA_I hK9
  subst eA
  clear hK9
  have hP : va_P (dC, dI) vwCl [(h_t, .inr (5, [.null, .null, .null, .int 0, .int 0])), (q_n7, .inl (cI, 24, .inl (fun _ => 0)))] H := hP
  have hD : va_D A [(h_t, .inr (5, [.null, .null, .null, .int 0, .int 0])), (q_n7, .inl (cI, 24, .inl (fun _ => 0)))] := hD
  refine W.widen (k := 1) (n := 24) (Nat.le_of_ble_eq_true rfl) (Nat.le_of_ble_eq_true rfl) ?_
  refine va_putF (D := (dC, dI)) (ci := 5) (v := .ref q_n7) (ty := .array .int) (C := RX6) (T := TX6) (N := 5) hx hb hts iRu_init_X6_init_5 tyX6 tyX6_ok nmX6 hown hK hP hD hS 0 rfl rfl 0 (by decide) (hts _ kRu_init_X6_init_4) (fun _ h9 => h9) rfl hin rfl (by decide +kernel) rfl rfl (Nat.le_of_ble_eq_true rfl) dX6_init_9 (fun H locs hP hD hS => ?_)
  have hP : va_P (dC, dI) vwCl [(h_t, .inr (5, [.ref q_n7, .null, .null, .int 0, .int 0])), (q_n7, .inl (cI, 24, .inl (fun _ => 0)))] H := hP
  have hD : va_D A [(h_t, .inr (5, [.ref q_n7, .null, .null, .int 0, .int 0])), (q_n7, .inl (cI, 24, .inl (fun _ => 0)))] := hD
  refine lv_aload_n hx hb dX6_init_12 rfl (lv_at hl 0 rfl) ?_
  refine lv_bipush (v := (24 : Int32)) hx hb dX6_init_13 (by decide) ?_
  refine va_newa hx hb (atype := .int) (hts _ kRu_init_X6_init_3) (ty := .int) rfl hK hP hD hS hA (N' := 24) (a0 := (24, .inl (fun _ => 0))) (fun cA => rfl) (by decide) (by decide) (Nat.le_of_ble_eq_true rfl) (Nat.le_of_ble_eq_true rfl) (Nat.le_of_ble_eq_true rfl) dX6_init_15 (fun q_n15 cA H hK9 hP hD hS => ?_)
  have eA := newA_I hK9
  subst eA
  clear hK9
  have hP : va_P (dC, dI) vwCl [(h_t, .inr (5, [.ref q_n7, .null, .null, .int 0, .int 0])), (q_n7, .inl (cI, 24, .inl (fun _ => 0))), (q_n15, .inl (cI, 24, .inl (fun _ => 0)))] H := hP
  have hD : va_D A [(h_t, .inr (5, [.ref q_n7, .null, .null, .int 0, .int 0])), (q_n7, .inl (cI, 24, .inl (fun _ => 0))), (q_n15, .inl (cI, 24, .inl (fun _ => 0)))] := hD
  refine W.widen (k := 2) (n := 48) (Nat.le_of_ble_eq_true rfl) (Nat.le_of_ble_eq_true rfl) ?_
  refine va_putF (D := (dC, dI)) (ci := 5) (v := .ref q_n15) (ty := .array .int) (C := RX6) (T := TX6) (N := 5) hx hb hts iRu_init_X6_init_5 tyX6 tyX6_ok nmX6 hown hK hP hD hS 0 rfl rfl 1 (by decide) (hts _ kRu_init_X6_init_6) (fun _ h9 => h9) rfl hin rfl (by decide +kernel) rfl rfl (Nat.le_of_ble_eq_true rfl) dX6_init_17 (fun H locs hP hD hS => ?_)
  have hP : va_P (dC, dI) vwCl [(h_t, .inr (5, [.ref q_n7, .ref q_n15, .null, .int 0, .int 0])), (q_n7, .inl (cI, 24, .inl (fun _ => 0))), (q_n15, .inl (cI, 24, .inl (fun _ => 0)))] H := hP
  have hD : va_D A [(h_t, .inr (5, [.ref q_n7, .ref q_n15, .null, .int 0, .int 0])), (q_n7, .inl (cI, 24, .inl (fun _ => 0))), (q_n15, .inl (cI, 24, .inl (fun _ => 0)))] := hD
  refine lv_aload_n hx hb dX6_init_20 rfl (lv_at hl 0 rfl) ?_
  refine lv_bipush (v := (24 : Int32)) hx hb dX6_init_21 (by decide) ?_
  refine va_newa hx hb (atype := .int) (hts _ kRu_init_X6_init_3) (ty := .int) rfl hK hP hD hS hA (N' := 24) (a0 := (24, .inl (fun _ => 0))) (fun cA => rfl) (by decide) (by decide) (Nat.le_of_ble_eq_true rfl) (Nat.le_of_ble_eq_true rfl) (Nat.le_of_ble_eq_true rfl) dX6_init_23 (fun q_n23 cA H hK9 hP hD hS => ?_)
  have eA := newA_I hK9
  subst eA
  clear hK9
  have hP : va_P (dC, dI) vwCl [(h_t, .inr (5, [.ref q_n7, .ref q_n15, .null, .int 0, .int 0])), (q_n7, .inl (cI, 24, .inl (fun _ => 0))), (q_n15, .inl (cI, 24, .inl (fun _ => 0))), (q_n23, .inl (cI, 24, .inl (fun _ => 0)))] H := hP
  have hD : va_D A [(h_t, .inr (5, [.ref q_n7, .ref q_n15, .null, .int 0, .int 0])), (q_n7, .inl (cI, 24, .inl (fun _ => 0))), (q_n15, .inl (cI, 24, .inl (fun _ => 0))), (q_n23, .inl (cI, 24, .inl (fun _ => 0)))] := hD
  refine W.widen (k := 3) (n := 72) (Nat.le_of_ble_eq_true rfl) (Nat.le_of_ble_eq_true rfl) ?_
  refine va_putF (D := (dC, dI)) (ci := 5) (v := .ref q_n23) (ty := .array .int) (C := RX6) (T := TX6) (N := 5) hx hb hts iRu_init_X6_init_5 tyX6 tyX6_ok nmX6 hown hK hP hD hS 0 rfl rfl 2 (by decide) (hts _ kRu_init_X6_init_7) (fun _ h9 => h9) rfl hin rfl (by decide +kernel) rfl rfl (Nat.le_of_ble_eq_true rfl) dX6_init_25 (fun H locs hP hD hS => ?_)
  have hP : va_P (dC, dI) vwCl [(h_t, .inr (5, [.ref q_n7, .ref q_n15, .ref q_n23, .int 0, .int 0])), (q_n7, .inl (cI, 24, .inl (fun _ => 0))), (q_n15, .inl (cI, 24, .inl (fun _ => 0))), (q_n23, .inl (cI, 24, .inl (fun _ => 0)))] H := hP
  have hD : va_D A [(h_t, .inr (5, [.ref q_n7, .ref q_n15, .ref q_n23, .int 0, .int 0])), (q_n7, .inl (cI, 24, .inl (fun _ => 0))), (q_n15, .inl (cI, 24, .inl (fun _ => 0))), (q_n23, .inl (cI, 24, .inl (fun _ => 0)))] := hD
  refine lv_aload_n hx hb dX6_init_28 rfl (lv_at hl 0 rfl) ?_
  refine lv_iconst (v := (0 : Int32)) hx hb dX6_init_29 (by decide) ?_
  refine va_put (D := (dC, dI)) (ci := 5) (v := .int (0 : Int32)) (ty := .int) (C := RX6) (T := TX6) (N := 5) hx hb hts iRu_init_X6_init_5 tyX6 tyX6_ok nmX6 hown hK hP hD hS 0 rfl rfl 3 (by decide) (hts _ kRu_init_X6_init_8) (fun _ h9 => h9) rfl (by decide +kernel) rfl rfl (Nat.le_of_ble_eq_true rfl) dX6_init_30 (fun H locs hP hD hS => ?_)
  have hP : va_P (dC, dI) vwCl [(h_t, .inr (5, [.ref q_n7, .ref q_n15, .ref q_n23, .int (0 : Int32), .int 0])), (q_n7, .inl (cI, 24, .inl (fun _ => 0))), (q_n15, .inl (cI, 24, .inl (fun _ => 0))), (q_n23, .inl (cI, 24, .inl (fun _ => 0)))] H := hP
  have hD : va_D A [(h_t, .inr (5, [.ref q_n7, .ref q_n15, .ref q_n23, .int (0 : Int32), .int 0])), (q_n7, .inl (cI, 24, .inl (fun _ => 0))), (q_n15, .inl (cI, 24, .inl (fun _ => 0))), (q_n23, .inl (cI, 24, .inl (fun _ => 0)))] := hD
  refine lv_aload_n hx hb dX6_init_33 rfl (lv_at hl 0 rfl) ?_
  refine lv_iconst (v := (0 : Int32)) hx hb dX6_init_34 (by decide) ?_
  refine va_put (D := (dC, dI)) (ci := 5) (v := .int (0 : Int32)) (ty := .boolean) (C := RX6) (T := TX6) (N := 5) hx hb hts iRu_init_X6_init_5 tyX6 tyX6_ok nmX6 hown hK hP hD hS 0 rfl rfl 4 (by decide) (hts _ kRu_init_X6_init_9) (fun _ h9 => h9) rfl (by decide +kernel) rfl rfl (Nat.le_of_ble_eq_true rfl) dX6_init_35 (fun H locs hP hD hS => ?_)
  have hP : va_P (dC, dI) vwCl [(h_t, .inr (5, [.ref q_n7, .ref q_n15, .ref q_n23, .int (0 : Int32), .int (0 : Int32)])), (q_n7, .inl (cI, 24, .inl (fun _ => 0))), (q_n15, .inl (cI, 24, .inl (fun _ => 0))), (q_n23, .inl (cI, 24, .inl (fun _ => 0)))] H := hP
  have hD : va_D A [(h_t, .inr (5, [.ref q_n7, .ref q_n15, .ref q_n23, .int (0 : Int32), .int (0 : Int32)])), (q_n7, .inl (cI, 24, .inl (fun _ => 0))), (q_n15, .inl (cI, 24, .inl (fun _ => 0))), (q_n23, .inl (cI, 24, .inl (fun _ => 0)))] := hD
  refine W.widen (k := 3) (n := 72) (Nat.le_of_ble_eq_true rfl) (Nat.le_of_ble_eq_true rfl) ?_
  rw [← hQQ]
  exact W.vret hx hb hr (fun t ht hW => ⟨⟨(q_n7, q_n15, q_n23), rfl, trivial, by rw [ht]; exact hP, va_K.moved hW.alike hK, hD⟩, hS.F ht⟩) hS.2.2 dX6_init_38

-- Ru_goesOn
theorem iRu_goesOn_X6_goesOn_0 : ∀ w ∈ wsX70, w ∈ wsX6_goesOn := by decide +kernel
set_option maxHeartbeats 4000000 in
set_option maxRecDepth 100000 in
theorem cRu_goesOn (l : Launch) (dC : Nat → ClassId) (dI : Nat → Nat → Nat) (cI cJ cC cS : ClassId) (h_u h_u_letters h_u_settings : Nat) (sz : Nat) (u_size : Int32) (u_letters : Nat → Int32) (x1 : Int32) (x2 : Int32) (x3 : Int32) (r : Int32) (hres : fRu_goesOn u_size u_letters x1 x2 x3 = some r) :
    Met l yX6_goesOn wsX6_goesOn ({ frames := 1, cells := 0, slots := 0, locals := 21 } : Room) (va_Pc [.ref h_u, .int x1, .int x2, .int x3] (fun (U : State) => U.heap.size = sz ∧ va_P (dC, dI) vwCl [(h_u, .inr (6, [.ref h_u_letters, .ref h_u_settings, .int u_size])), (h_u_letters, .inl (cI, 24, .inl u_letters))] U.heap ∧ va_K (dC, dI) vwCl (tyA cI cJ cC cS) U ∧ nwN U ∧ va_D (fun _ => True) [(h_u, .inr (6, [.ref h_u_letters, .ref h_u_settings, .int u_size])), (h_u_letters, .inl (cI, 24, .inl u_letters))])) (va_Qi (fun (r9 : Int32) (_ : Unit) => r9 = r) (fun (_ : Unit) (t : State) => va_P (dC, dI) vwCl [(h_u, .inr (6, [.ref h_u_letters, .ref h_u_settings, .int u_size])), (h_u_letters, .inl (cI, 24, .inl u_letters))] t.heap ∧ va_K (dC, dI) vwCl (tyA cI cJ cC cS) t ∧ va_D (va_A [(h_u, .inr (6, [.ref h_u_letters, .ref h_u_settings, .int u_size])), (h_u_letters, .inl (cI, 24, .inl u_letters))] sz) [(h_u, .inr (6, [.ref h_u_letters, .ref h_u_settings, .int u_size])), (h_u_letters, .inl (cI, 24, .inl u_letters))]) (va_A [(h_u, .inr (6, [.ref h_u_letters, .ref h_u_settings, .int u_size])), (h_u_letters, .inl (cI, 24, .inl u_letters))] sz)) 0 0 (va_A [(h_u, .inr (6, [.ref h_u_letters, .ref h_u_settings, .int u_size])), (h_u_letters, .inl (cI, 24, .inl u_letters))] sz) := by
  refine Met.ofW (cc := cX6_goesOn) (maxL := 4) (ret := (some .boolean)) (by decide) rfl ?_
  intro p e s m args below meth c s₁ B hml hv
  obtain ⟨hargs, hsz, hP, hK, hN, hD0⟩ := hv
  have hx := B.exec
  have hb := B.bytes
  have hr := B.returns
  have hts := atoms_spec (ws := wsX6_goesOn) B.pre
  have hown : s.vm.findClass RX6 = some m.cls := findClass_of_methodNamed B.named
  have hlocks := B.notSynchronized
  subst hsz
  have hD := hD0.self (sz := s.heap.size)
  generalize hAe : va_A [(h_u, .inr (6, [.ref h_u_letters, .ref h_u_settings, .int u_size])), (h_u_letters, .inl (cI, 24, .inl u_letters))] s.heap.size = A at hD ⊢
  have hA : ∀ q : Nat, s.heap.size ≤ q → A q := fun q h => by rw [← hAe]; exact Or.inr h
  have hS : va_S A s.heap s.heap [] := va_S.rf
  have hP : va_P (dC, dI) vwCl [(h_u, .inr (6, [.ref h_u_letters, .ref h_u_settings, .int u_size])), (h_u_letters, .inl (cI, 24, .inl u_letters))] s.heap := hP
  have hl := lv_entry [.ref h_u, .int x1, .int x2, .int x3] (n := 4) (Nat.le_of_ble_eq_true rfl)
  rw [show entryFrame m args 4 = entryFrame m ([.ref h_u, .int x1, .int x2, .int x3] : List Value).toArray 4 from by rw [hargs], lg_entry_eq]
  generalize (lg_sl [.ref h_u, .int x1, .int x2, .int x3] ++ List.replicate (4 - (lg_sl [.ref h_u, .int x1, .int x2, .int x3]).length) Slot.unset).toArray = ls at hl ⊢
  have hl : lv_has ls 4 [(0, .ref h_u), (1, .int x1), (2, .int x2), (3, .int x3)] := hl
  generalize hQQ : MQ below (va_Qi (fun (r9 : Int32) (_ : Unit) => r9 = r) (fun (_ : Unit) (t : State) => va_P (dC, dI) vwCl [(h_u, .inr (6, [.ref h_u_letters, .ref h_u_settings, .int u_size])), (h_u_letters, .inl (cI, 24, .inl u_letters))] t.heap ∧ va_K (dC, dI) vwCl (tyA cI cJ cC cS) t ∧ va_D A [(h_u, .inr (6, [.ref h_u_letters, .ref h_u_settings, .int u_size])), (h_u_letters, .inl (cI, 24, .inl u_letters))]) A) args s 0 0 A = QQ
  obtain ⟨H, hH⟩ : ∃ H : Heap, H = s.heap := ⟨_, rfl⟩
  obtain ⟨locs, hlocs⟩ : ∃ locs : List Loc, locs = [] := ⟨_, rfl⟩
  rw [← hH] at hP
  have hS : va_S A s.heap H locs := by rw [hH, hlocs]; exact hS
  suffices hZ : W p l e (headSpec wsX6_goesOn ({ frames := 1, cells := 0, slots := 0, locals := 21 } : Room)).room s m args below meth c H locs 0 0 QQ (F0 m 0 ls []) by rw [hH, hlocs] at hZ; exact hZ
  clear hH hlocs
  have hK23 : ∀  (H : Heap) (locs : List Loc) (ls : Array Slot), fRu_goesOn_23 u_size u_letters x2 x3 = some r → va_P (dC, dI) vwCl [(h_u, .inr (6, [.ref h_u_letters, .ref h_u_settings, .int u_size])), (h_u_letters, .inl (cI, 24, .inl u_letters))] H → va_D A [(h_u, .inr (6, [.ref h_u_letters, .ref h_u_settings, .int u_size])), (h_u_letters, .inl (cI, 24, .inl u_letters))] → va_S A s.heap H locs → lv_has ls 4 [(0, .ref h_u), (2, .int x2), (3, .int x3)] → W p l e (headSpec wsX6_goesOn ({ frames := 1, cells := 0, slots := 0, locals := 21 } : Room)).room s m args below meth c H locs 0 0 QQ (F0 m 23 ls []) := by
    intro  H locs ls hres hP hD hS hl
    rw [fRu_goesOn_23] at hres
    refine lv_iload_n hx hb dX6_goesOn_23 rfl (lv_at hl 1 rfl) ?_
    refine lv_aload_n hx hb dX6_goesOn_24 rfl (lv_at hl 0 rfl) ?_
    refine va_getN (D := (dC, dI)) (ci := 6) (v := .int u_size) (C := RX7) (T := TX7) (N := 3) hx hb hts iRu_goesOn_X6_goesOn_0 hown hK hP 0 rfl rfl 2 (by decide) (nwU hN (by decide +kernel : Cond.fieldLinkNest "RepeatNests$Runs" 29 "RepeatNests$State" "size" "I" "RepeatNests" ∈ nwAll)) (fun _ h9 => h9) rfl dX6_goesOn_25 ?_
    refine lv_icmp_ge (tgt := 50) hx hb dX6_goesOn_28 (by decide) (fun c_1 => ?_) (fun c_1 => ?_)
    · have hres := it_of hres c_1
      refine lv_iconst (v := (0 : Int32)) hx hb dX6_goesOn_50 (by decide) ?_
      have e9_0 := Option.some.inj hres
      subst e9_0
      rw [← hQQ]
      exact W.zret (v := (0 : Int32)) hx hb hr rfl (fun t ht hW => ⟨⟨(0 : Int32), (), rfl, rfl, by rw [ht]; exact hP, va_K.moved hW.alike hK, hD⟩, hS.F ht⟩) hS.2.2 dX6_goesOn_51
    · have hres := ie_of hres c_1
      refine lv_aload_n hx hb dX6_goesOn_31 rfl (lv_at hl 0 rfl) ?_
      refine lv_iload_n hx hb dX6_goesOn_32 rfl (lv_at hl 1 rfl) ?_
      obtain ⟨o2, ho2, hres⟩ := bd_of hres
      have hPc := hP.sub (ws' := [(h_u, .inr (6, [.ref h_u_letters, .ref h_u_settings, .int u_size])), (h_u_letters, .inl (cI, 24, .inl u_letters))]) [0, 1] rfl
      have hDc := hD.sub (ws' := [(h_u, .inr (6, [.ref h_u_letters, .ref h_u_settings, .int u_size])), (h_u_letters, .inl (cI, 24, .inl u_letters))]) [0, 1] (by decide) rfl
      have hFc := va_free (wc := [(h_u, .inr (6, [.ref h_u_letters, .ref h_u_settings, .int u_size])), (h_u_letters, .inl (cI, 24, .inl u_letters))]) hD hS hA [0, 1] rfl
      refine va_calli (va_runV (As := [.int x2]) (rest := []) ⟨hx, hb, hml, hown, hts⟩ (cSt_letter l dC dI cI cJ cC cS h_u h_u_letters h_u_settings H.size u_size u_letters x2 o2 ho2) (cwV 1 hts gX6_goesOn_X7_letter rfl rfl rfl (by decide +kernel) ⟨Nat.le_of_ble_eq_true rfl, Nat.le_of_ble_eq_true rfl⟩) ⟨fun a U g mk q => by obtain ⟨q0, q1, qP, qK, qN, qD⟩ := q; exact ⟨q0, q1, qP, va_K.moved (u := U) (U := U.calling g mk a) (Vm.Alike.refl U.vm) qK, nwS (u := U) (U := U.calling g mk a) rfl qN, qD⟩, va_recv hK hPc (ci := 6) (q0 := 0) rfl rfl, fun U hU hW => ⟨rfl, by rw [hU], by rw [hU]; exact hPc, va_K.moved hW.alike hK, nwW hW hN, hDc.weaken (fun _ _ _ _ => trivial)⟩⟩ rfl rfl hl.1 rfl (lv_room (Nat.le_of_ble_eq_true rfl)) dX6_goesOn_33 ⟨Nat.zero_le _, Nat.zero_le _⟩) hS (fun q _ h => hFc q h) hFc (fun r9 u9 t H1 locs ht hvm hw hB hz1 hk1 hS => ?_)
      have hw := hw.symm
      subst hw
      obtain ⟨hP1, hK1, hD1⟩ := hB
      rw [ht] at hP1
      obtain ⟨hP, hD⟩ := va_join (wr := []) (w1 := [(h_u, .inr (6, [.ref h_u_letters, .ref h_u_settings, .int u_size])), (h_u_letters, .inl (cI, 24, .inl u_letters))]) hP hD [0, 1] [] rfl rfl (by decide) (by decide) hk1 hFc hP1 hD1
      generalize H1 = H at hP hS ⊢
      have hP : va_P (dC, dI) vwCl [(h_u, .inr (6, [.ref h_u_letters, .ref h_u_settings, .int u_size])), (h_u_letters, .inl (cI, 24, .inl u_letters))] H := hP
      have hD : va_D A [(h_u, .inr (6, [.ref h_u_letters, .ref h_u_settings, .int u_size])), (h_u_letters, .inl (cI, 24, .inl u_letters))] := hD
      refine lv_aload_n hx hb dX6_goesOn_36 rfl (lv_at hl 0 rfl) ?_
      refine lv_iload_n hx hb dX6_goesOn_37 rfl (lv_at hl 1 rfl) ?_
      refine lv_iload_n hx hb dX6_goesOn_38 rfl (lv_at hl 2 rfl) ?_
      refine lv_isub hx hb dX6_goesOn_39 ?_
      obtain ⟨o3, ho3, hres⟩ := bd_of hres
      have hPc := hP.sub (ws' := [(h_u, .inr (6, [.ref h_u_letters, .ref h_u_settings, .int u_size])), (h_u_letters, .inl (cI, 24, .inl u_letters))]) [0, 1] rfl
      have hDc := hD.sub (ws' := [(h_u, .inr (6, [.ref h_u_letters, .ref h_u_settings, .int u_size])), (h_u_letters, .inl (cI, 24, .inl u_letters))]) [0, 1] (by decide) rfl
      have hFc := va_free (wc := [(h_u, .inr (6, [.ref h_u_letters, .ref h_u_settings, .int u_size])), (h_u_letters, .inl (cI, 24, .inl u_letters))]) hD hS hA [0, 1] rfl
      refine va_calli (va_runV (As := [.int (x2 - x3)]) (rest := [.int o2]) ⟨hx, hb, hml, hown, hts⟩ (cSt_letter l dC dI cI cJ cC cS h_u h_u_letters h_u_settings H.size u_size u_letters (x2 - x3) o3 ho3) (cwV 1 hts gX6_goesOn_X7_letter rfl rfl rfl (by decide +kernel) ⟨Nat.le_of_ble_eq_true rfl, Nat.le_of_ble_eq_true rfl⟩) ⟨fun a U g mk q => by obtain ⟨q0, q1, qP, qK, qN, qD⟩ := q; exact ⟨q0, q1, qP, va_K.moved (u := U) (U := U.calling g mk a) (Vm.Alike.refl U.vm) qK, nwS (u := U) (U := U.calling g mk a) rfl qN, qD⟩, va_recv hK hPc (ci := 6) (q0 := 0) rfl rfl, fun U hU hW => ⟨rfl, by rw [hU], by rw [hU]; exact hPc, va_K.moved hW.alike hK, nwW hW hN, hDc.weaken (fun _ _ _ _ => trivial)⟩⟩ rfl rfl hl.1 rfl (lv_room (Nat.le_of_ble_eq_true rfl)) dX6_goesOn_40 ⟨Nat.zero_le _, Nat.zero_le _⟩) hS (fun q _ h => hFc q h) hFc (fun r9 u9 t H1 locs ht hvm hw hB hz1 hk1 hS => ?_)
      have hw := hw.symm
      subst hw
      obtain ⟨hP1, hK1, hD1⟩ := hB
      rw [ht] at hP1
      obtain ⟨hP, hD⟩ := va_join (wr := []) (w1 := [(h_u, .inr (6, [.ref h_u_letters, .ref h_u_settings, .int u_size])), (h_u_letters, .inl (cI, 24, .inl u_letters))]) hP hD [0, 1] [] rfl rfl (by decide) (by decide) hk1 hFc hP1 hD1
      generalize H1 = H at hP hS ⊢
      have hP : va_P (dC, dI) vwCl [(h_u, .inr (6, [.ref h_u_letters, .ref h_u_settings, .int u_size])), (h_u_letters, .inl (cI, 24, .inl u_letters))] H := hP
      have hD : va_D A [(h_u, .inr (6, [.ref h_u_letters, .ref h_u_settings, .int u_size])), (h_u_letters, .inl (cI, 24, .inl u_letters))] := hD
      refine lv_icmp_ne (tgt := 50) hx hb dX6_goesOn_43 (by decide) (fun c_4 => ?_) (fun c_4 => ?_)
      · have hres := ie_of hres c_4
        refine lv_iconst (v := (0 : Int32)) hx hb dX6_goesOn_50 (by decide) ?_
        have e9_0 := Option.some.inj hres
        subst e9_0
        rw [← hQQ]
        exact W.zret (v := (0 : Int32)) hx hb hr rfl (fun t ht hW => ⟨⟨(0 : Int32), (), rfl, rfl, by rw [ht]; exact hP, va_K.moved hW.alike hK, hD⟩, hS.F ht⟩) hS.2.2 dX6_goesOn_51
      · have hres := it_of hres c_4
        refine lv_iconst (v := (1 : Int32)) hx hb dX6_goesOn_46 (by decide) ?_
        refine lv_goto (tgt := 51) hx hb dX6_goesOn_47 (by decide) ?_
        have e9_0 := Option.some.inj hres
        subst e9_0
        rw [← hQQ]
        exact W.zret (v := (1 : Int32)) hx hb hr rfl (fun t ht hW => ⟨⟨(1 : Int32), (), rfl, rfl, by rw [ht]; exact hP, va_K.moved hW.alike hK, hD⟩, hS.F ht⟩) hS.2.2 dX6_goesOn_51
  rw [fRu_goesOn] at hres
  refine lv_iload_n hx hb dX6_goesOn_0 rfl (lv_at hl 1 rfl) ?_
  refine lv_if_le (tgt := 23) hx hb dX6_goesOn_1 (by decide) (fun c_5 => ?_) (fun c_5 => ?_)
  · have hres := it_of hres c_5
    exact hK23  H locs ls hres hP hD hS (lv_sub hl [0, 2, 3] rfl)
  · have hres := ie_of hres c_5
    refine lv_aload_n hx hb dX6_goesOn_4 rfl (lv_at hl 0 rfl) ?_
    refine lv_iload_n hx hb dX6_goesOn_5 rfl (lv_at hl 1 rfl) ?_
    refine lv_iconst (v := (1 : Int32)) hx hb dX6_goesOn_6 (by decide) ?_
    refine lv_isub hx hb dX6_goesOn_7 ?_
    obtain ⟨o6, ho6, hres⟩ := bd_of hres
    have hPc := hP.sub (ws' := [(h_u, .inr (6, [.ref h_u_letters, .ref h_u_settings, .int u_size])), (h_u_letters, .inl (cI, 24, .inl u_letters))]) [0, 1] rfl
    have hDc := hD.sub (ws' := [(h_u, .inr (6, [.ref h_u_letters, .ref h_u_settings, .int u_size])), (h_u_letters, .inl (cI, 24, .inl u_letters))]) [0, 1] (by decide) rfl
    have hFc := va_free (wc := [(h_u, .inr (6, [.ref h_u_letters, .ref h_u_settings, .int u_size])), (h_u_letters, .inl (cI, 24, .inl u_letters))]) hD hS hA [0, 1] rfl
    refine va_calli (va_runV (As := [.int (x1 - (1 : Int32))]) (rest := []) ⟨hx, hb, hml, hown, hts⟩ (cSt_letter l dC dI cI cJ cC cS h_u h_u_letters h_u_settings H.size u_size u_letters (x1 - (1 : Int32)) o6 ho6) (cwV 1 hts gX6_goesOn_X7_letter rfl rfl rfl (by decide +kernel) ⟨Nat.le_of_ble_eq_true rfl, Nat.le_of_ble_eq_true rfl⟩) ⟨fun a U g mk q => by obtain ⟨q0, q1, qP, qK, qN, qD⟩ := q; exact ⟨q0, q1, qP, va_K.moved (u := U) (U := U.calling g mk a) (Vm.Alike.refl U.vm) qK, nwS (u := U) (U := U.calling g mk a) rfl qN, qD⟩, va_recv hK hPc (ci := 6) (q0 := 0) rfl rfl, fun U hU hW => ⟨rfl, by rw [hU], by rw [hU]; exact hPc, va_K.moved hW.alike hK, nwW hW hN, hDc.weaken (fun _ _ _ _ => trivial)⟩⟩ rfl rfl hl.1 rfl (lv_room (Nat.le_of_ble_eq_true rfl)) dX6_goesOn_8 ⟨Nat.zero_le _, Nat.zero_le _⟩) hS (fun q _ h => hFc q h) hFc (fun r9 u9 t H1 locs ht hvm hw hB hz1 hk1 hS => ?_)
    have hw := hw.symm
    subst hw
    obtain ⟨hP1, hK1, hD1⟩ := hB
    rw [ht] at hP1
    obtain ⟨hP, hD⟩ := va_join (wr := []) (w1 := [(h_u, .inr (6, [.ref h_u_letters, .ref h_u_settings, .int u_size])), (h_u_letters, .inl (cI, 24, .inl u_letters))]) hP hD [0, 1] [] rfl rfl (by decide) (by decide) hk1 hFc hP1 hD1
    generalize H1 = H at hP hS ⊢
    have hP : va_P (dC, dI) vwCl [(h_u, .inr (6, [.ref h_u_letters, .ref h_u_settings, .int u_size])), (h_u_letters, .inl (cI, 24, .inl u_letters))] H := hP
    have hD : va_D A [(h_u, .inr (6, [.ref h_u_letters, .ref h_u_settings, .int u_size])), (h_u_letters, .inl (cI, 24, .inl u_letters))] := hD
    refine lv_aload_n hx hb dX6_goesOn_11 rfl (lv_at hl 0 rfl) ?_
    refine lv_iload_n hx hb dX6_goesOn_12 rfl (lv_at hl 1 rfl) ?_
    refine lv_iconst (v := (1 : Int32)) hx hb dX6_goesOn_13 (by decide) ?_
    refine lv_isub hx hb dX6_goesOn_14 ?_
    refine lv_iload_n hx hb dX6_goesOn_15 rfl (lv_at hl 3 rfl) ?_
    refine lv_iadd hx hb dX6_goesOn_16 ?_
    obtain ⟨o7, ho7, hres⟩ := bd_of hres
    have hPc := hP.sub (ws' := [(h_u, .inr (6, [.ref h_u_letters, .ref h_u_settings, .int u_size])), (h_u_letters, .inl (cI, 24, .inl u_letters))]) [0, 1] rfl
    have hDc := hD.sub (ws' := [(h_u, .inr (6, [.ref h_u_letters, .ref h_u_settings, .int u_size])), (h_u_letters, .inl (cI, 24, .inl u_letters))]) [0, 1] (by decide) rfl
    have hFc := va_free (wc := [(h_u, .inr (6, [.ref h_u_letters, .ref h_u_settings, .int u_size])), (h_u_letters, .inl (cI, 24, .inl u_letters))]) hD hS hA [0, 1] rfl
    refine va_calli (va_runV (As := [.int ((x1 - (1 : Int32)) + x3)]) (rest := [.int o6]) ⟨hx, hb, hml, hown, hts⟩ (cSt_letter l dC dI cI cJ cC cS h_u h_u_letters h_u_settings H.size u_size u_letters ((x1 - (1 : Int32)) + x3) o7 ho7) (cwV 1 hts gX6_goesOn_X7_letter rfl rfl rfl (by decide +kernel) ⟨Nat.le_of_ble_eq_true rfl, Nat.le_of_ble_eq_true rfl⟩) ⟨fun a U g mk q => by obtain ⟨q0, q1, qP, qK, qN, qD⟩ := q; exact ⟨q0, q1, qP, va_K.moved (u := U) (U := U.calling g mk a) (Vm.Alike.refl U.vm) qK, nwS (u := U) (U := U.calling g mk a) rfl qN, qD⟩, va_recv hK hPc (ci := 6) (q0 := 0) rfl rfl, fun U hU hW => ⟨rfl, by rw [hU], by rw [hU]; exact hPc, va_K.moved hW.alike hK, nwW hW hN, hDc.weaken (fun _ _ _ _ => trivial)⟩⟩ rfl rfl hl.1 rfl (lv_room (Nat.le_of_ble_eq_true rfl)) dX6_goesOn_17 ⟨Nat.zero_le _, Nat.zero_le _⟩) hS (fun q _ h => hFc q h) hFc (fun r9 u9 t H1 locs ht hvm hw hB hz1 hk1 hS => ?_)
    have hw := hw.symm
    subst hw
    obtain ⟨hP1, hK1, hD1⟩ := hB
    rw [ht] at hP1
    obtain ⟨hP, hD⟩ := va_join (wr := []) (w1 := [(h_u, .inr (6, [.ref h_u_letters, .ref h_u_settings, .int u_size])), (h_u_letters, .inl (cI, 24, .inl u_letters))]) hP hD [0, 1] [] rfl rfl (by decide) (by decide) hk1 hFc hP1 hD1
    generalize H1 = H at hP hS ⊢
    have hP : va_P (dC, dI) vwCl [(h_u, .inr (6, [.ref h_u_letters, .ref h_u_settings, .int u_size])), (h_u_letters, .inl (cI, 24, .inl u_letters))] H := hP
    have hD : va_D A [(h_u, .inr (6, [.ref h_u_letters, .ref h_u_settings, .int u_size])), (h_u_letters, .inl (cI, 24, .inl u_letters))] := hD
    refine lv_icmp_eq (tgt := 46) hx hb dX6_goesOn_20 (by decide) (fun c_8 => ?_) (fun c_8 => ?_)
    · have hres := it_of hres c_8
      refine lv_iconst (v := (1 : Int32)) hx hb dX6_goesOn_46 (by decide) ?_
      refine lv_goto (tgt := 51) hx hb dX6_goesOn_47 (by decide) ?_
      have e9_0 := Option.some.inj hres
      subst e9_0
      rw [← hQQ]
      exact W.zret (v := (1 : Int32)) hx hb hr rfl (fun t ht hW => ⟨⟨(1 : Int32), (), rfl, rfl, by rw [ht]; exact hP, va_K.moved hW.alike hK, hD⟩, hS.F ht⟩) hS.2.2 dX6_goesOn_51
    · have hres := ie_of hres c_8
      exact hK23  H locs ls hres hP hD hS (lv_sub hl [0, 2, 3] rfl)

-- Ru_look
theorem kRu_look_X6_look_0 : Cond.fieldLink RX6 21 "RepeatNests$Runs" "number" "I" ∈ wsX6_look := by decide +kernel
theorem iRu_look_X6_look_1 : ∀ w ∈ wsX60, w ∈ wsX6_look := by decide +kernel
theorem kRu_look_X6_look_2 : Cond.fieldLink RX6 9 "RepeatNests$Runs" "froms" "[I" ∈ wsX6_look := by decide +kernel
theorem kRu_look_X6_look_3 : Cond.fieldLink RX6 15 "RepeatNests$Runs" "tos" "[I" ∈ wsX6_look := by decide +kernel
theorem kRu_look_X6_look_4 : Cond.fieldLink RX6 18 "RepeatNests$Runs" "periods" "[I" ∈ wsX6_look := by decide +kernel
set_option maxHeartbeats 4000000 in
set_option maxRecDepth 100000 in
theorem cRu_look (l : Launch) (dC : Nat → ClassId) (dI : Nat → Nat → Nat) (cI cJ cC cS : ClassId) (h_t h_t_froms h_t_tos h_t_periods h_u h_u_letters h_u_settings : Nat) (sz : Nat) (t_number : Int32) (t_fresh : Int32) (t_froms : Nat → Int32) (t_periods : Nat → Int32) (t_tos : Nat → Int32) (u_size : Int32) (u_letters : Nat → Int32) (x2 : Int32) (x3 : Int32) (y_t_number : Int32) (y_t_froms : Nat → Int32) (y_t_periods : Nat → Int32) (y_t_tos : Nat → Int32) (hres : fRu_look u_size u_letters t_number t_froms t_periods t_tos x2 x3 = some (y_t_number, y_t_froms, y_t_periods, y_t_tos)) :
    Met l yX6_look wsX6_look ({ frames := 3, cells := 0, slots := 0, locals := 69 } : Room) (va_Pc [.ref h_t, .ref h_u, .int x2, .int x3] (fun (U : State) => U.heap.size = sz ∧ va_P (dC, dI) vwCl [(h_t, .inr (5, [.ref h_t_froms, .ref h_t_tos, .ref h_t_periods, .int t_number, .int t_fresh])), (h_t_froms, .inl (cI, 24, .inl t_froms)), (h_t_periods, .inl (cI, 24, .inl t_periods)), (h_t_tos, .inl (cI, 24, .inl t_tos)), (h_u, .inr (6, [.ref h_u_letters, .ref h_u_settings, .int u_size])), (h_u_letters, .inl (cI, 24, .inl u_letters))] U.heap ∧ va_K (dC, dI) vwCl (tyA cI cJ cC cS) U ∧ nwN U ∧ va_D (fun _ => True) [(h_t, .inr (5, [.ref h_t_froms, .ref h_t_tos, .ref h_t_periods, .int t_number, .int t_fresh])), (h_t_froms, .inl (cI, 24, .inl t_froms)), (h_t_periods, .inl (cI, 24, .inl t_periods)), (h_t_tos, .inl (cI, 24, .inl t_tos)), (h_u, .inr (6, [.ref h_u_letters, .ref h_u_settings, .int u_size])), (h_u_letters, .inl (cI, 24, .inl u_letters))])) (va_Qv (fun (_ : Unit) => True) (fun (_ : Unit) (t : State) => va_P (dC, dI) vwCl [(h_t, .inr (5, [.ref h_t_froms, .ref h_t_tos, .ref h_t_periods, .int y_t_number, .int t_fresh])), (h_t_froms, .inl (cI, 24, .inl y_t_froms)), (h_t_periods, .inl (cI, 24, .inl y_t_periods)), (h_t_tos, .inl (cI, 24, .inl y_t_tos)), (h_u, .inr (6, [.ref h_u_letters, .ref h_u_settings, .int u_size])), (h_u_letters, .inl (cI, 24, .inl u_letters))] t.heap ∧ va_K (dC, dI) vwCl (tyA cI cJ cC cS) t ∧ va_D (va_A [(h_t, .inr (5, [.ref h_t_froms, .ref h_t_tos, .ref h_t_periods, .int t_number, .int t_fresh])), (h_t_froms, .inl (cI, 24, .inl t_froms)), (h_t_periods, .inl (cI, 24, .inl t_periods)), (h_t_tos, .inl (cI, 24, .inl t_tos)), (h_u, .inr (6, [.ref h_u_letters, .ref h_u_settings, .int u_size])), (h_u_letters, .inl (cI, 24, .inl u_letters))] sz) [(h_t, .inr (5, [.ref h_t_froms, .ref h_t_tos, .ref h_t_periods, .int y_t_number, .int t_fresh])), (h_t_froms, .inl (cI, 24, .inl y_t_froms)), (h_t_periods, .inl (cI, 24, .inl y_t_periods)), (h_t_tos, .inl (cI, 24, .inl y_t_tos)), (h_u, .inr (6, [.ref h_u_letters, .ref h_u_settings, .int u_size])), (h_u_letters, .inl (cI, 24, .inl u_letters))]) (va_A [(h_t, .inr (5, [.ref h_t_froms, .ref h_t_tos, .ref h_t_periods, .int t_number, .int t_fresh])), (h_t_froms, .inl (cI, 24, .inl t_froms)), (h_t_periods, .inl (cI, 24, .inl t_periods)), (h_t_tos, .inl (cI, 24, .inl t_tos)), (h_u, .inr (6, [.ref h_u_letters, .ref h_u_settings, .int u_size])), (h_u_letters, .inl (cI, 24, .inl u_letters))] sz)) 0 0 (va_A [(h_t, .inr (5, [.ref h_t_froms, .ref h_t_tos, .ref h_t_periods, .int t_number, .int t_fresh])), (h_t_froms, .inl (cI, 24, .inl t_froms)), (h_t_periods, .inl (cI, 24, .inl t_periods)), (h_t_tos, .inl (cI, 24, .inl t_tos)), (h_u, .inr (6, [.ref h_u_letters, .ref h_u_settings, .int u_size])), (h_u_letters, .inl (cI, 24, .inl u_letters))] sz) := by
  refine Met.ofW (cc := cX6_look) (maxL := 5) (ret := none) (by decide) rfl ?_
  intro p e s m args below meth c s₁ B hml hv
  obtain ⟨hargs, hsz, hP, hK, hN, hD0⟩ := hv
  have hx := B.exec
  have hb := B.bytes
  have hr := B.returns
  have hts := atoms_spec (ws := wsX6_look) B.pre
  have hown : s.vm.findClass RX6 = some m.cls := findClass_of_methodNamed B.named
  have hlocks := B.notSynchronized
  subst hsz
  have hD := hD0.self (sz := s.heap.size)
  generalize hAe : va_A [(h_t, .inr (5, [.ref h_t_froms, .ref h_t_tos, .ref h_t_periods, .int t_number, .int t_fresh])), (h_t_froms, .inl (cI, 24, .inl t_froms)), (h_t_periods, .inl (cI, 24, .inl t_periods)), (h_t_tos, .inl (cI, 24, .inl t_tos)), (h_u, .inr (6, [.ref h_u_letters, .ref h_u_settings, .int u_size])), (h_u_letters, .inl (cI, 24, .inl u_letters))] s.heap.size = A at hD ⊢
  have hA : ∀ q : Nat, s.heap.size ≤ q → A q := fun q h => by rw [← hAe]; exact Or.inr h
  have hS : va_S A s.heap s.heap [] := va_S.rf
  have hP : va_P (dC, dI) vwCl [(h_t, .inr (5, [.ref h_t_froms, .ref h_t_tos, .ref h_t_periods, .int t_number, .int t_fresh])), (h_t_froms, .inl (cI, 24, .inl t_froms)), (h_t_periods, .inl (cI, 24, .inl t_periods)), (h_t_tos, .inl (cI, 24, .inl t_tos)), (h_u, .inr (6, [.ref h_u_letters, .ref h_u_settings, .int u_size])), (h_u_letters, .inl (cI, 24, .inl u_letters))] s.heap := hP
  have hl := lv_entry [.ref h_t, .ref h_u, .int x2, .int x3] (n := 5) (Nat.le_of_ble_eq_true rfl)
  rw [show entryFrame m args 5 = entryFrame m ([.ref h_t, .ref h_u, .int x2, .int x3] : List Value).toArray 5 from by rw [hargs], lg_entry_eq]
  generalize (lg_sl [.ref h_t, .ref h_u, .int x2, .int x3] ++ List.replicate (5 - (lg_sl [.ref h_t, .ref h_u, .int x2, .int x3]).length) Slot.unset).toArray = ls at hl ⊢
  have hl : lv_has ls 5 [(0, .ref h_t), (1, .ref h_u), (2, .int x2), (3, .int x3)] := hl
  generalize hQQ : MQ below (va_Qv (fun (_ : Unit) => True) (fun (_ : Unit) (t : State) => va_P (dC, dI) vwCl [(h_t, .inr (5, [.ref h_t_froms, .ref h_t_tos, .ref h_t_periods, .int y_t_number, .int t_fresh])), (h_t_froms, .inl (cI, 24, .inl y_t_froms)), (h_t_periods, .inl (cI, 24, .inl y_t_periods)), (h_t_tos, .inl (cI, 24, .inl y_t_tos)), (h_u, .inr (6, [.ref h_u_letters, .ref h_u_settings, .int u_size])), (h_u_letters, .inl (cI, 24, .inl u_letters))] t.heap ∧ va_K (dC, dI) vwCl (tyA cI cJ cC cS) t ∧ va_D A [(h_t, .inr (5, [.ref h_t_froms, .ref h_t_tos, .ref h_t_periods, .int y_t_number, .int t_fresh])), (h_t_froms, .inl (cI, 24, .inl y_t_froms)), (h_t_periods, .inl (cI, 24, .inl y_t_periods)), (h_t_tos, .inl (cI, 24, .inl y_t_tos)), (h_u, .inr (6, [.ref h_u_letters, .ref h_u_settings, .int u_size])), (h_u_letters, .inl (cI, 24, .inl u_letters))]) A) args s 0 0 A = QQ
  obtain ⟨H, hH⟩ : ∃ H : Heap, H = s.heap := ⟨_, rfl⟩
  obtain ⟨locs, hlocs⟩ : ∃ locs : List Loc, locs = [] := ⟨_, rfl⟩
  rw [← hH] at hP
  have hS : va_S A s.heap H locs := by rw [hH, hlocs]; exact hS
  suffices hZ : W p l e (headSpec wsX6_look ({ frames := 3, cells := 0, slots := 0, locals := 69 } : Room)).room s m args below meth c H locs 0 0 QQ (F0 m 0 ls []) by rw [hH, hlocs] at hZ; exact hZ
  clear hH hlocs
  rw [fRu_look] at hres
  refine lv_aload_n hx hb dX6_look_0 rfl (lv_at hl 1 rfl) ?_
  refine lv_iload_n hx hb dX6_look_1 rfl (lv_at hl 2 rfl) ?_
  refine lv_iload_n hx hb dX6_look_2 rfl (lv_at hl 3 rfl) ?_
  obtain ⟨o1, ho1, hres⟩ := bd_of hres
  have hPc := hP.sub (ws' := [(h_u, .inr (6, [.ref h_u_letters, .ref h_u_settings, .int u_size])), (h_u_letters, .inl (cI, 24, .inl u_letters))]) [4, 5] rfl
  have hDc := hD.sub (ws' := [(h_u, .inr (6, [.ref h_u_letters, .ref h_u_settings, .int u_size])), (h_u_letters, .inl (cI, 24, .inl u_letters))]) [4, 5] (by decide) rfl
  have hFc := va_free (wc := [(h_u, .inr (6, [.ref h_u_letters, .ref h_u_settings, .int u_size])), (h_u_letters, .inl (cI, 24, .inl u_letters))]) hD hS hA [4, 5] rfl
  refine va_calli (va_runV (As := [.int x2, .int x3]) (rest := []) ⟨hx, hb, hml, hown, hts⟩ (cSt_leastPeriod l dC dI cI cJ cC cS h_u h_u_letters h_u_settings H.size u_size u_letters x2 x3 o1 ho1) (cwV 2 hts gX6_look_X7_leastPeriod rfl rfl rfl (by decide +kernel) ⟨Nat.le_of_ble_eq_true rfl, Nat.le_of_ble_eq_true rfl⟩) ⟨fun a U g mk q => by obtain ⟨q0, q1, qP, qK, qN, qD⟩ := q; exact ⟨q0, q1, qP, va_K.moved (u := U) (U := U.calling g mk a) (Vm.Alike.refl U.vm) qK, nwS (u := U) (U := U.calling g mk a) rfl qN, qD⟩, va_recv hK hPc (ci := 6) (q0 := 0) rfl rfl, fun U hU hW => ⟨rfl, by rw [hU], by rw [hU]; exact hPc, va_K.moved hW.alike hK, nwW hW hN, hDc.weaken (fun _ _ _ _ => trivial)⟩⟩ rfl rfl hl.1 rfl (lv_room (Nat.le_of_ble_eq_true rfl)) dX6_look_3 ⟨Nat.zero_le _, Nat.zero_le _⟩) hS (fun q _ h => hFc q h) hFc (fun r9 u9 t H1 locs ht hvm hw hB hz1 hk1 hS => ?_)
  have hw := hw.symm
  subst hw
  obtain ⟨hP1, hK1, hD1⟩ := hB
  rw [ht] at hP1
  obtain ⟨hP, hD⟩ := va_join (wr := [(h_t, .inr (5, [.ref h_t_froms, .ref h_t_tos, .ref h_t_periods, .int t_number, .int t_fresh])), (h_t_froms, .inl (cI, 24, .inl t_froms)), (h_t_periods, .inl (cI, 24, .inl t_periods)), (h_t_tos, .inl (cI, 24, .inl t_tos))]) (w1 := [(h_u, .inr (6, [.ref h_u_letters, .ref h_u_settings, .int u_size])), (h_u_letters, .inl (cI, 24, .inl u_letters))]) hP hD [4, 5] [0, 1, 2, 3] rfl rfl (by decide) (by decide) hk1 hFc hP1 hD1
  generalize H1 = H at hP hS ⊢
  have hP : va_P (dC, dI) vwCl [(h_t, .inr (5, [.ref h_t_froms, .ref h_t_tos, .ref h_t_periods, .int t_number, .int t_fresh])), (h_t_froms, .inl (cI, 24, .inl t_froms)), (h_t_periods, .inl (cI, 24, .inl t_periods)), (h_t_tos, .inl (cI, 24, .inl t_tos)), (h_u, .inr (6, [.ref h_u_letters, .ref h_u_settings, .int u_size])), (h_u_letters, .inl (cI, 24, .inl u_letters))] H := hP
  have hD : va_D A [(h_t, .inr (5, [.ref h_t_froms, .ref h_t_tos, .ref h_t_periods, .int t_number, .int t_fresh])), (h_t_froms, .inl (cI, 24, .inl t_froms)), (h_t_periods, .inl (cI, 24, .inl t_periods)), (h_t_tos, .inl (cI, 24, .inl t_tos)), (h_u, .inr (6, [.ref h_u_letters, .ref h_u_settings, .int u_size])), (h_u_letters, .inl (cI, 24, .inl u_letters))] := hD
  refine lv_istore (lv' := [(4, .int o1), (0, .ref h_t), (1, .ref h_u), (2, .int x2), (3, .int x3)]) hx hb dX6_look_6 hl (by decide) rfl (fun ls hl => ?_)
  refine lv_iconst (v := (2 : Int32)) hx hb dX6_look_8 (by decide) ?_
  refine lv_iload hx hb dX6_look_9 (lv_at hl 0 rfl) ?_
  refine lv_imul hx hb dX6_look_11 ?_
  refine lv_iload_n hx hb dX6_look_12 rfl (lv_at hl 4 rfl) ?_
  refine lv_iload_n hx hb dX6_look_13 rfl (lv_at hl 3 rfl) ?_
  refine lv_isub hx hb dX6_look_14 ?_
  refine lv_icmp_gt (tgt := 29) hx hb dX6_look_15 (by decide) (fun c_2 => ?_) (fun c_2 => ?_)
  · have hres := it_of hres c_2
    obtain ⟨e9_0, e9_1, e9_2, e9_3⟩ := tup4 hres
    subst e9_0
    subst e9_1
    subst e9_2
    subst e9_3
    rw [← hQQ]
    exact W.vret hx hb hr (fun t ht hW => ⟨⟨(), rfl, trivial, by rw [ht]; exact hP, va_K.moved hW.alike hK, hD⟩, hS.F ht⟩) hS.2.2 dX6_look_29
  · have hres := ie_of hres c_2
    refine lv_aload_n hx hb dX6_look_18 rfl (lv_at hl 2 rfl) ?_
    refine lv_iload_n hx hb dX6_look_19 rfl (lv_at hl 3 rfl) ?_
    refine lv_iload_n hx hb dX6_look_20 rfl (lv_at hl 4 rfl) ?_
    refine lv_iload hx hb dX6_look_21 (lv_at hl 0 rfl) ?_
    obtain ⟨o3, ho3, hres⟩ := bd_of hres
    have hPc := hP.sub (ws' := [(h_u, .inr (6, [.ref h_u_letters, .ref h_u_settings, .int u_size])), (h_u_letters, .inl (cI, 24, .inl u_letters))]) [4, 5] rfl
    have hDc := hD.sub (ws' := [(h_u, .inr (6, [.ref h_u_letters, .ref h_u_settings, .int u_size])), (h_u_letters, .inl (cI, 24, .inl u_letters))]) [4, 5] (by decide) rfl
    have hFc := va_free (wc := [(h_u, .inr (6, [.ref h_u_letters, .ref h_u_settings, .int u_size])), (h_u_letters, .inl (cI, 24, .inl u_letters))]) hD hS hA [4, 5] rfl
    refine va_calli (va_runS (As := [.ref h_u, .int x2, .int x3, .int o1]) (rest := []) ⟨hx, hb, hml, hown, hts⟩ (cRu_goesOn l dC dI cI cJ cC cS h_u h_u_letters h_u_settings H.size u_size u_letters x2 x3 o1 o3 ho3) (va_cwS 4 hts gX6_look_X6_goesOn rfl rfl rfl (by decide +kernel) ⟨Nat.le_of_ble_eq_true rfl, Nat.le_of_ble_eq_true rfl⟩) ⟨fun a U g mk q => by obtain ⟨q0, q1, qP, qK, qN, qD⟩ := q; exact ⟨q0, q1, qP, va_K.moved (u := U) (U := U.calling g mk a) (Vm.Alike.refl U.vm) qK, nwS (u := U) (U := U.calling g mk a) rfl qN, qD⟩, fun U hU hW => ⟨rfl, by rw [hU], by rw [hU]; exact hPc, va_K.moved hW.alike hK, nwW hW hN, hDc.weaken (fun _ _ _ _ => trivial)⟩⟩ rfl rfl hl.1 rfl (lv_room (Nat.le_of_ble_eq_true rfl)) dX6_look_23 ⟨Nat.zero_le _, Nat.zero_le _⟩) hS (fun q _ h => hFc q h) hFc (fun r9 u9 t H1 locs ht hvm hw hB hz1 hk1 hS => ?_)
    have hw := hw.symm
    subst hw
    obtain ⟨hP1, hK1, hD1⟩ := hB
    rw [ht] at hP1
    obtain ⟨hP, hD⟩ := va_join (wr := [(h_t, .inr (5, [.ref h_t_froms, .ref h_t_tos, .ref h_t_periods, .int t_number, .int t_fresh])), (h_t_froms, .inl (cI, 24, .inl t_froms)), (h_t_periods, .inl (cI, 24, .inl t_periods)), (h_t_tos, .inl (cI, 24, .inl t_tos))]) (w1 := [(h_u, .inr (6, [.ref h_u_letters, .ref h_u_settings, .int u_size])), (h_u_letters, .inl (cI, 24, .inl u_letters))]) hP hD [4, 5] [0, 1, 2, 3] rfl rfl (by decide) (by decide) hk1 hFc hP1 hD1
    generalize H1 = H at hP hS ⊢
    have hP : va_P (dC, dI) vwCl [(h_t, .inr (5, [.ref h_t_froms, .ref h_t_tos, .ref h_t_periods, .int t_number, .int t_fresh])), (h_t_froms, .inl (cI, 24, .inl t_froms)), (h_t_periods, .inl (cI, 24, .inl t_periods)), (h_t_tos, .inl (cI, 24, .inl t_tos)), (h_u, .inr (6, [.ref h_u_letters, .ref h_u_settings, .int u_size])), (h_u_letters, .inl (cI, 24, .inl u_letters))] H := hP
    have hD : va_D A [(h_t, .inr (5, [.ref h_t_froms, .ref h_t_tos, .ref h_t_periods, .int t_number, .int t_fresh])), (h_t_froms, .inl (cI, 24, .inl t_froms)), (h_t_periods, .inl (cI, 24, .inl t_periods)), (h_t_tos, .inl (cI, 24, .inl t_tos)), (h_u, .inr (6, [.ref h_u_letters, .ref h_u_settings, .int u_size])), (h_u_letters, .inl (cI, 24, .inl u_letters))] := hD
    refine lv_if_eq (tgt := 30) hx hb dX6_look_26 (by decide) (fun c_4 => ?_) (fun c_4 => ?_)
    · have hres := it_of hres c_4
      refine lv_aload_n hx hb dX6_look_30 rfl (lv_at hl 1 rfl) ?_
      refine va_get (D := (dC, dI)) (ci := 5) (v := .int t_number) (C := RX6) (T := TX6) (N := 5) hx hb hts iRu_look_X6_look_1 hown hK hP 0 rfl rfl 3 (by decide) (hts _ kRu_look_X6_look_0) (fun _ h9 => h9) rfl dX6_look_31 ?_
      refine lv_if_lt (tgt := 87) hx hb dX6_look_34 (by decide) (fun c_5 => ?_) (fun c_5 => ?_)
      · have hres := it_of hres c_5
        obtain ⟨e9_0, e9_1, e9_2, e9_3⟩ := tup4 hres
        subst e9_0
        subst e9_1
        subst e9_2
        subst e9_3
        rw [← hQQ]
        exact W.vret hx hb hr (fun t ht hW => ⟨⟨(), rfl, trivial, by rw [ht]; exact hP, va_K.moved hW.alike hK, hD⟩, hS.F ht⟩) hS.2.2 dX6_look_87
      · have hres := ie_of hres c_5
        refine lv_aload_n hx hb dX6_look_37 rfl (lv_at hl 1 rfl) ?_
        refine va_get (D := (dC, dI)) (ci := 5) (v := .int t_number) (C := RX6) (T := TX6) (N := 5) hx hb hts iRu_look_X6_look_1 hown hK hP 0 rfl rfl 3 (by decide) (hts _ kRu_look_X6_look_0) (fun _ h9 => h9) rfl dX6_look_38 ?_
        refine lv_bipush (v := (24 : Int32)) hx hb dX6_look_41 (by decide) ?_
        refine lv_icmp_ge (tgt := 87) hx hb dX6_look_43 (by decide) (fun c_6 => ?_) (fun c_6 => ?_)
        · have hres := it_of hres c_6
          obtain ⟨e9_0, e9_1, e9_2, e9_3⟩ := tup4 hres
          subst e9_0
          subst e9_1
          subst e9_2
          subst e9_3
          rw [← hQQ]
          exact W.vret hx hb hr (fun t ht hW => ⟨⟨(), rfl, trivial, by rw [ht]; exact hP, va_K.moved hW.alike hK, hD⟩, hS.F ht⟩) hS.2.2 dX6_look_87
        · have hres := ie_of hres c_6
          refine lv_aload_n hx hb dX6_look_46 rfl (lv_at hl 1 rfl) ?_
          refine va_get (D := (dC, dI)) (ci := 5) (v := .ref h_t_froms) (C := RX6) (T := TX6) (N := 5) hx hb hts iRu_look_X6_look_1 hown hK hP 0 rfl rfl 0 (by decide) (hts _ kRu_look_X6_look_2) (fun _ h9 => h9) rfl dX6_look_47 ?_
          refine lv_aload_n hx hb dX6_look_50 rfl (lv_at hl 1 rfl) ?_
          refine va_get (D := (dC, dI)) (ci := 5) (v := .int t_number) (C := RX6) (T := TX6) (N := 5) hx hb hts iRu_look_X6_look_1 hown hK hP 0 rfl rfl 3 (by decide) (hts _ kRu_look_X6_look_0) (fun _ h9 => h9) rfl dX6_look_51 ?_
          refine lv_iload_n hx hb dX6_look_54 rfl (lv_at hl 3 rfl) ?_
          obtain ⟨c_7, hres⟩ := ck_of hres
          refine va_iast hx hb hK hP hD hS 1 0 rfl rfl c_7 dX6_look_55 (fun H locs hP hD hS => ?_)
          have hP : va_P (dC, dI) vwCl [(h_t, .inr (5, [.ref h_t_froms, .ref h_t_tos, .ref h_t_periods, .int t_number, .int t_fresh])), (h_t_froms, .inl (cI, 24, .inl (wr t_froms t_number x2))), (h_t_periods, .inl (cI, 24, .inl t_periods)), (h_t_tos, .inl (cI, 24, .inl t_tos)), (h_u, .inr (6, [.ref h_u_letters, .ref h_u_settings, .int u_size])), (h_u_letters, .inl (cI, 24, .inl u_letters))] H := hP
          have hD : va_D A [(h_t, .inr (5, [.ref h_t_froms, .ref h_t_tos, .ref h_t_periods, .int t_number, .int t_fresh])), (h_t_froms, .inl (cI, 24, .inl (wr t_froms t_number x2))), (h_t_periods, .inl (cI, 24, .inl t_periods)), (h_t_tos, .inl (cI, 24, .inl t_tos)), (h_u, .inr (6, [.ref h_u_letters, .ref h_u_settings, .int u_size])), (h_u_letters, .inl (cI, 24, .inl u_letters))] := hD
          refine lv_aload_n hx hb dX6_look_56 rfl (lv_at hl 1 rfl) ?_
          refine va_get (D := (dC, dI)) (ci := 5) (v := .ref h_t_tos) (C := RX6) (T := TX6) (N := 5) hx hb hts iRu_look_X6_look_1 hown hK hP 0 rfl rfl 1 (by decide) (hts _ kRu_look_X6_look_3) (fun _ h9 => h9) rfl dX6_look_57 ?_
          refine lv_aload_n hx hb dX6_look_60 rfl (lv_at hl 1 rfl) ?_
          refine va_get (D := (dC, dI)) (ci := 5) (v := .int t_number) (C := RX6) (T := TX6) (N := 5) hx hb hts iRu_look_X6_look_1 hown hK hP 0 rfl rfl 3 (by decide) (hts _ kRu_look_X6_look_0) (fun _ h9 => h9) rfl dX6_look_61 ?_
          refine lv_iload_n hx hb dX6_look_64 rfl (lv_at hl 4 rfl) ?_
          obtain ⟨c_8, hres⟩ := ck_of hres
          refine va_iast hx hb hK hP hD hS 3 0 rfl rfl c_8 dX6_look_65 (fun H locs hP hD hS => ?_)
          have hP : va_P (dC, dI) vwCl [(h_t, .inr (5, [.ref h_t_froms, .ref h_t_tos, .ref h_t_periods, .int t_number, .int t_fresh])), (h_t_froms, .inl (cI, 24, .inl (wr t_froms t_number x2))), (h_t_periods, .inl (cI, 24, .inl t_periods)), (h_t_tos, .inl (cI, 24, .inl (wr t_tos t_number x3))), (h_u, .inr (6, [.ref h_u_letters, .ref h_u_settings, .int u_size])), (h_u_letters, .inl (cI, 24, .inl u_letters))] H := hP
          have hD : va_D A [(h_t, .inr (5, [.ref h_t_froms, .ref h_t_tos, .ref h_t_periods, .int t_number, .int t_fresh])), (h_t_froms, .inl (cI, 24, .inl (wr t_froms t_number x2))), (h_t_periods, .inl (cI, 24, .inl t_periods)), (h_t_tos, .inl (cI, 24, .inl (wr t_tos t_number x3))), (h_u, .inr (6, [.ref h_u_letters, .ref h_u_settings, .int u_size])), (h_u_letters, .inl (cI, 24, .inl u_letters))] := hD
          refine lv_aload_n hx hb dX6_look_66 rfl (lv_at hl 1 rfl) ?_
          refine va_get (D := (dC, dI)) (ci := 5) (v := .ref h_t_periods) (C := RX6) (T := TX6) (N := 5) hx hb hts iRu_look_X6_look_1 hown hK hP 0 rfl rfl 2 (by decide) (hts _ kRu_look_X6_look_4) (fun _ h9 => h9) rfl dX6_look_67 ?_
          refine lv_aload_n hx hb dX6_look_70 rfl (lv_at hl 1 rfl) ?_
          refine va_get (D := (dC, dI)) (ci := 5) (v := .int t_number) (C := RX6) (T := TX6) (N := 5) hx hb hts iRu_look_X6_look_1 hown hK hP 0 rfl rfl 3 (by decide) (hts _ kRu_look_X6_look_0) (fun _ h9 => h9) rfl dX6_look_71 ?_
          refine lv_iload hx hb dX6_look_74 (lv_at hl 0 rfl) ?_
          obtain ⟨c_9, hres⟩ := ck_of hres
          refine va_iast hx hb hK hP hD hS 2 0 rfl rfl c_9 dX6_look_76 (fun H locs hP hD hS => ?_)
          have hP : va_P (dC, dI) vwCl [(h_t, .inr (5, [.ref h_t_froms, .ref h_t_tos, .ref h_t_periods, .int t_number, .int t_fresh])), (h_t_froms, .inl (cI, 24, .inl (wr t_froms t_number x2))), (h_t_periods, .inl (cI, 24, .inl (wr t_periods t_number o1))), (h_t_tos, .inl (cI, 24, .inl (wr t_tos t_number x3))), (h_u, .inr (6, [.ref h_u_letters, .ref h_u_settings, .int u_size])), (h_u_letters, .inl (cI, 24, .inl u_letters))] H := hP
          have hD : va_D A [(h_t, .inr (5, [.ref h_t_froms, .ref h_t_tos, .ref h_t_periods, .int t_number, .int t_fresh])), (h_t_froms, .inl (cI, 24, .inl (wr t_froms t_number x2))), (h_t_periods, .inl (cI, 24, .inl (wr t_periods t_number o1))), (h_t_tos, .inl (cI, 24, .inl (wr t_tos t_number x3))), (h_u, .inr (6, [.ref h_u_letters, .ref h_u_settings, .int u_size])), (h_u_letters, .inl (cI, 24, .inl u_letters))] := hD
          refine lv_aload_n hx hb dX6_look_77 rfl (lv_at hl 1 rfl) ?_
          refine lv_dup hx hb dX6_look_78 rfl ?_
          refine va_get (D := (dC, dI)) (ci := 5) (v := .int t_number) (C := RX6) (T := TX6) (N := 5) hx hb hts iRu_look_X6_look_1 hown hK hP 0 rfl rfl 3 (by decide) (hts _ kRu_look_X6_look_0) (fun _ h9 => h9) rfl dX6_look_79 ?_
          refine lv_iconst (v := (1 : Int32)) hx hb dX6_look_82 (by decide) ?_
          refine lv_iadd hx hb dX6_look_83 ?_
          refine va_put (D := (dC, dI)) (ci := 5) (v := .int (t_number + (1 : Int32))) (ty := .int) (C := RX6) (T := TX6) (N := 5) hx hb hts iRu_look_X6_look_1 tyX6 tyX6_ok nmX6 hown hK hP hD hS 0 rfl rfl 3 (by decide) (hts _ kRu_look_X6_look_0) (fun _ h9 => h9) rfl (by decide +kernel) rfl rfl (Nat.le_of_ble_eq_true rfl) dX6_look_84 (fun H locs hP hD hS => ?_)
          have hP : va_P (dC, dI) vwCl [(h_t, .inr (5, [.ref h_t_froms, .ref h_t_tos, .ref h_t_periods, .int (t_number + (1 : Int32)), .int t_fresh])), (h_t_froms, .inl (cI, 24, .inl (wr t_froms t_number x2))), (h_t_periods, .inl (cI, 24, .inl (wr t_periods t_number o1))), (h_t_tos, .inl (cI, 24, .inl (wr t_tos t_number x3))), (h_u, .inr (6, [.ref h_u_letters, .ref h_u_settings, .int u_size])), (h_u_letters, .inl (cI, 24, .inl u_letters))] H := hP
          have hD : va_D A [(h_t, .inr (5, [.ref h_t_froms, .ref h_t_tos, .ref h_t_periods, .int (t_number + (1 : Int32)), .int t_fresh])), (h_t_froms, .inl (cI, 24, .inl (wr t_froms t_number x2))), (h_t_periods, .inl (cI, 24, .inl (wr t_periods t_number o1))), (h_t_tos, .inl (cI, 24, .inl (wr t_tos t_number x3))), (h_u, .inr (6, [.ref h_u_letters, .ref h_u_settings, .int u_size])), (h_u_letters, .inl (cI, 24, .inl u_letters))] := hD
          obtain ⟨e9_0, e9_1, e9_2, e9_3⟩ := tup4 hres
          subst e9_0
          subst e9_1
          subst e9_2
          subst e9_3
          rw [← hQQ]
          exact W.vret hx hb hr (fun t ht hW => ⟨⟨(), rfl, trivial, by rw [ht]; exact hP, va_K.moved hW.alike hK, hD⟩, hS.F ht⟩) hS.2.2 dX6_look_87
    · have hres := ie_of hres c_4
      obtain ⟨e9_0, e9_1, e9_2, e9_3⟩ := tup4 hres
      subst e9_0
      subst e9_1
      subst e9_2
      subst e9_3
      rw [← hQQ]
      exact W.vret hx hb hr (fun t ht hW => ⟨⟨(), rfl, trivial, by rw [ht]; exact hP, va_K.moved hW.alike hK, hD⟩, hS.F ht⟩) hS.2.2 dX6_look_29

-- Ru_refresh
theorem iRu_refresh_X6_refresh_0 : ∀ w ∈ wsX70, w ∈ wsX6_refresh := by decide +kernel
theorem kRu_refresh_X6_refresh_1 : Cond.fieldLink RX6 25 "RepeatNests$Runs" "fresh" "Z" ∈ wsX6_refresh := by decide +kernel
theorem iRu_refresh_X6_refresh_2 : ∀ w ∈ wsX60, w ∈ wsX6_refresh := by decide +kernel
theorem kRu_refresh_X6_refresh_3 : Cond.fieldLink RX6 21 "RepeatNests$Runs" "number" "I" ∈ wsX6_refresh := by decide +kernel
set_option maxHeartbeats 4000000 in
set_option maxRecDepth 100000 in
theorem cRu_refresh (l : Launch) (dC : Nat → ClassId) (dI : Nat → Nat → Nat) (cI cJ cC cS : ClassId) (h_t h_t_froms h_t_tos h_t_periods h_u h_u_letters h_u_settings : Nat) (sz : Nat) (t_number : Int32) (t_fresh : Int32) (t_froms : Nat → Int32) (t_periods : Nat → Int32) (t_tos : Nat → Int32) (u_size : Int32) (u_letters : Nat → Int32) (y_t_number : Int32) (y_t_fresh : Int32) (y_t_froms : Nat → Int32) (y_t_periods : Nat → Int32) (y_t_tos : Nat → Int32) (hres : fRu_refresh u_size u_letters t_number t_fresh t_froms t_periods t_tos = some (y_t_number, y_t_fresh, y_t_froms, y_t_periods, y_t_tos)) :
    Met l yX6_refresh wsX6_refresh ({ frames := 4, cells := 0, slots := 0, locals := 93 } : Room) (va_Pc [.ref h_t, .ref h_u] (fun (U : State) => U.heap.size = sz ∧ va_P (dC, dI) vwCl [(h_t, .inr (5, [.ref h_t_froms, .ref h_t_tos, .ref h_t_periods, .int t_number, .int t_fresh])), (h_t_froms, .inl (cI, 24, .inl t_froms)), (h_t_periods, .inl (cI, 24, .inl t_periods)), (h_t_tos, .inl (cI, 24, .inl t_tos)), (h_u, .inr (6, [.ref h_u_letters, .ref h_u_settings, .int u_size])), (h_u_letters, .inl (cI, 24, .inl u_letters))] U.heap ∧ va_K (dC, dI) vwCl (tyA cI cJ cC cS) U ∧ nwN U ∧ va_D (fun _ => True) [(h_t, .inr (5, [.ref h_t_froms, .ref h_t_tos, .ref h_t_periods, .int t_number, .int t_fresh])), (h_t_froms, .inl (cI, 24, .inl t_froms)), (h_t_periods, .inl (cI, 24, .inl t_periods)), (h_t_tos, .inl (cI, 24, .inl t_tos)), (h_u, .inr (6, [.ref h_u_letters, .ref h_u_settings, .int u_size])), (h_u_letters, .inl (cI, 24, .inl u_letters))])) (va_Qv (fun (_ : Unit) => True) (fun (_ : Unit) (t : State) => va_P (dC, dI) vwCl [(h_t, .inr (5, [.ref h_t_froms, .ref h_t_tos, .ref h_t_periods, .int y_t_number, .int y_t_fresh])), (h_t_froms, .inl (cI, 24, .inl y_t_froms)), (h_t_periods, .inl (cI, 24, .inl y_t_periods)), (h_t_tos, .inl (cI, 24, .inl y_t_tos)), (h_u, .inr (6, [.ref h_u_letters, .ref h_u_settings, .int u_size])), (h_u_letters, .inl (cI, 24, .inl u_letters))] t.heap ∧ va_K (dC, dI) vwCl (tyA cI cJ cC cS) t ∧ va_D (va_A [(h_t, .inr (5, [.ref h_t_froms, .ref h_t_tos, .ref h_t_periods, .int t_number, .int t_fresh])), (h_t_froms, .inl (cI, 24, .inl t_froms)), (h_t_periods, .inl (cI, 24, .inl t_periods)), (h_t_tos, .inl (cI, 24, .inl t_tos)), (h_u, .inr (6, [.ref h_u_letters, .ref h_u_settings, .int u_size])), (h_u_letters, .inl (cI, 24, .inl u_letters))] sz) [(h_t, .inr (5, [.ref h_t_froms, .ref h_t_tos, .ref h_t_periods, .int y_t_number, .int y_t_fresh])), (h_t_froms, .inl (cI, 24, .inl y_t_froms)), (h_t_periods, .inl (cI, 24, .inl y_t_periods)), (h_t_tos, .inl (cI, 24, .inl y_t_tos)), (h_u, .inr (6, [.ref h_u_letters, .ref h_u_settings, .int u_size])), (h_u_letters, .inl (cI, 24, .inl u_letters))]) (va_A [(h_t, .inr (5, [.ref h_t_froms, .ref h_t_tos, .ref h_t_periods, .int t_number, .int t_fresh])), (h_t_froms, .inl (cI, 24, .inl t_froms)), (h_t_periods, .inl (cI, 24, .inl t_periods)), (h_t_tos, .inl (cI, 24, .inl t_tos)), (h_u, .inr (6, [.ref h_u_letters, .ref h_u_settings, .int u_size])), (h_u_letters, .inl (cI, 24, .inl u_letters))] sz)) 0 0 (va_A [(h_t, .inr (5, [.ref h_t_froms, .ref h_t_tos, .ref h_t_periods, .int t_number, .int t_fresh])), (h_t_froms, .inl (cI, 24, .inl t_froms)), (h_t_periods, .inl (cI, 24, .inl t_periods)), (h_t_tos, .inl (cI, 24, .inl t_tos)), (h_u, .inr (6, [.ref h_u_letters, .ref h_u_settings, .int u_size])), (h_u_letters, .inl (cI, 24, .inl u_letters))] sz) := by
  refine Met.ofW (cc := cX6_refresh) (maxL := 4) (ret := none) (by decide) rfl ?_
  intro p e s m args below meth c s₁ B hml hv
  obtain ⟨hargs, hsz, hP, hK, hN, hD0⟩ := hv
  have hx := B.exec
  have hb := B.bytes
  have hr := B.returns
  have hts := atoms_spec (ws := wsX6_refresh) B.pre
  have hown : s.vm.findClass RX6 = some m.cls := findClass_of_methodNamed B.named
  have hlocks := B.notSynchronized
  subst hsz
  have hD := hD0.self (sz := s.heap.size)
  generalize hAe : va_A [(h_t, .inr (5, [.ref h_t_froms, .ref h_t_tos, .ref h_t_periods, .int t_number, .int t_fresh])), (h_t_froms, .inl (cI, 24, .inl t_froms)), (h_t_periods, .inl (cI, 24, .inl t_periods)), (h_t_tos, .inl (cI, 24, .inl t_tos)), (h_u, .inr (6, [.ref h_u_letters, .ref h_u_settings, .int u_size])), (h_u_letters, .inl (cI, 24, .inl u_letters))] s.heap.size = A at hD ⊢
  have hA : ∀ q : Nat, s.heap.size ≤ q → A q := fun q h => by rw [← hAe]; exact Or.inr h
  have hS : va_S A s.heap s.heap [] := va_S.rf
  have hP : va_P (dC, dI) vwCl [(h_t, .inr (5, [.ref h_t_froms, .ref h_t_tos, .ref h_t_periods, .int t_number, .int t_fresh])), (h_t_froms, .inl (cI, 24, .inl t_froms)), (h_t_periods, .inl (cI, 24, .inl t_periods)), (h_t_tos, .inl (cI, 24, .inl t_tos)), (h_u, .inr (6, [.ref h_u_letters, .ref h_u_settings, .int u_size])), (h_u_letters, .inl (cI, 24, .inl u_letters))] s.heap := hP
  have hl := lv_entry [.ref h_t, .ref h_u] (n := 4) (Nat.le_of_ble_eq_true rfl)
  rw [show entryFrame m args 4 = entryFrame m ([.ref h_t, .ref h_u] : List Value).toArray 4 from by rw [hargs], lg_entry_eq]
  generalize (lg_sl [.ref h_t, .ref h_u] ++ List.replicate (4 - (lg_sl [.ref h_t, .ref h_u]).length) Slot.unset).toArray = ls at hl ⊢
  have hl : lv_has ls 4 [(0, .ref h_t), (1, .ref h_u)] := hl
  generalize hQQ : MQ below (va_Qv (fun (_ : Unit) => True) (fun (_ : Unit) (t : State) => va_P (dC, dI) vwCl [(h_t, .inr (5, [.ref h_t_froms, .ref h_t_tos, .ref h_t_periods, .int y_t_number, .int y_t_fresh])), (h_t_froms, .inl (cI, 24, .inl y_t_froms)), (h_t_periods, .inl (cI, 24, .inl y_t_periods)), (h_t_tos, .inl (cI, 24, .inl y_t_tos)), (h_u, .inr (6, [.ref h_u_letters, .ref h_u_settings, .int u_size])), (h_u_letters, .inl (cI, 24, .inl u_letters))] t.heap ∧ va_K (dC, dI) vwCl (tyA cI cJ cC cS) t ∧ va_D A [(h_t, .inr (5, [.ref h_t_froms, .ref h_t_tos, .ref h_t_periods, .int y_t_number, .int y_t_fresh])), (h_t_froms, .inl (cI, 24, .inl y_t_froms)), (h_t_periods, .inl (cI, 24, .inl y_t_periods)), (h_t_tos, .inl (cI, 24, .inl y_t_tos)), (h_u, .inr (6, [.ref h_u_letters, .ref h_u_settings, .int u_size])), (h_u_letters, .inl (cI, 24, .inl u_letters))]) A) args s 0 0 A = QQ
  obtain ⟨H, hH⟩ : ∃ H : Heap, H = s.heap := ⟨_, rfl⟩
  obtain ⟨locs, hlocs⟩ : ∃ locs : List Loc, locs = [] := ⟨_, rfl⟩
  rw [← hH] at hP
  have hS : va_S A s.heap H locs := by rw [hH, hlocs]; exact hS
  suffices hZ : W p l e (headSpec wsX6_refresh ({ frames := 4, cells := 0, slots := 0, locals := 93 } : Room)).room s m args below meth c H locs 0 0 QQ (F0 m 0 ls []) by rw [hH, hlocs] at hZ; exact hZ
  clear hH hlocs
  have hL23 : ∀ (n23 : Nat) , ∀ (x2 : Int32) (t_number : Int32) (t_fresh : Int32) (t_froms : Nat → Int32) (t_periods : Nat → Int32) (t_tos : Nat → Int32) (H : Heap) (locs : List Loc) (ls : Array Slot), fRu_refresh_23 u_size u_letters n23 x2 t_number t_fresh t_froms t_periods t_tos = some (y_t_number, y_t_fresh, y_t_froms, y_t_periods, y_t_tos) → va_P (dC, dI) vwCl [(h_t, .inr (5, [.ref h_t_froms, .ref h_t_tos, .ref h_t_periods, .int t_number, .int t_fresh])), (h_t_froms, .inl (cI, 24, .inl t_froms)), (h_t_periods, .inl (cI, 24, .inl t_periods)), (h_t_tos, .inl (cI, 24, .inl t_tos)), (h_u, .inr (6, [.ref h_u_letters, .ref h_u_settings, .int u_size])), (h_u_letters, .inl (cI, 24, .inl u_letters))] H → va_D A [(h_t, .inr (5, [.ref h_t_froms, .ref h_t_tos, .ref h_t_periods, .int t_number, .int t_fresh])), (h_t_froms, .inl (cI, 24, .inl t_froms)), (h_t_periods, .inl (cI, 24, .inl t_periods)), (h_t_tos, .inl (cI, 24, .inl t_tos)), (h_u, .inr (6, [.ref h_u_letters, .ref h_u_settings, .int u_size])), (h_u_letters, .inl (cI, 24, .inl u_letters))] → va_S A s.heap H locs → lv_has ls 4 [(0, .ref h_t), (1, .ref h_u), (2, .int x2)] → W p l e (headSpec wsX6_refresh ({ frames := 4, cells := 0, slots := 0, locals := 93 } : Room)).room s m args below meth c H locs 0 0 QQ (F0 m 23 ls []) := by
    intro n23
    induction n23 with
    | zero =>
      intro x2 t_number t_fresh t_froms t_periods t_tos H locs ls hres
      rw [fRu_refresh_23] at hres
      cases hres
    | succ n23 ih23 =>
      have hL30 : ∀ (n30 : Nat) , ∀ (x2 : Int32) (x3 : Int32) (t_number : Int32) (t_fresh : Int32) (t_froms : Nat → Int32) (t_periods : Nat → Int32) (t_tos : Nat → Int32) (H : Heap) (locs : List Loc) (ls : Array Slot), fRu_refresh_30 u_size u_letters (fRu_refresh_23 u_size u_letters n23) n30 x2 x3 t_number t_fresh t_froms t_periods t_tos = some (y_t_number, y_t_fresh, y_t_froms, y_t_periods, y_t_tos) → va_P (dC, dI) vwCl [(h_t, .inr (5, [.ref h_t_froms, .ref h_t_tos, .ref h_t_periods, .int t_number, .int t_fresh])), (h_t_froms, .inl (cI, 24, .inl t_froms)), (h_t_periods, .inl (cI, 24, .inl t_periods)), (h_t_tos, .inl (cI, 24, .inl t_tos)), (h_u, .inr (6, [.ref h_u_letters, .ref h_u_settings, .int u_size])), (h_u_letters, .inl (cI, 24, .inl u_letters))] H → va_D A [(h_t, .inr (5, [.ref h_t_froms, .ref h_t_tos, .ref h_t_periods, .int t_number, .int t_fresh])), (h_t_froms, .inl (cI, 24, .inl t_froms)), (h_t_periods, .inl (cI, 24, .inl t_periods)), (h_t_tos, .inl (cI, 24, .inl t_tos)), (h_u, .inr (6, [.ref h_u_letters, .ref h_u_settings, .int u_size])), (h_u_letters, .inl (cI, 24, .inl u_letters))] → va_S A s.heap H locs → lv_has ls 4 [(0, .ref h_t), (1, .ref h_u), (2, .int x2), (3, .int x3)] → W p l e (headSpec wsX6_refresh ({ frames := 4, cells := 0, slots := 0, locals := 93 } : Room)).room s m args below meth c H locs 0 0 QQ (F0 m 30 ls []) := by
        intro n30
        induction n30 with
        | zero =>
          intro x2 x3 t_number t_fresh t_froms t_periods t_tos H locs ls hres
          rw [fRu_refresh_30] at hres
          cases hres
        | succ n30 ih30 =>
          intro x2 x3 t_number t_fresh t_froms t_periods t_tos H locs ls hres hP hD hS hl
          rw [fRu_refresh_30] at hres
          refine lv_iload_n hx hb dX6_refresh_30 rfl (lv_at hl 3 rfl) ?_
          refine lv_iload_n hx hb dX6_refresh_31 rfl (lv_at hl 2 rfl) ?_
          refine lv_iadd hx hb dX6_refresh_32 ?_
          refine lv_aload_n hx hb dX6_refresh_33 rfl (lv_at hl 1 rfl) ?_
          refine va_getN (D := (dC, dI)) (ci := 6) (v := .int u_size) (C := RX7) (T := TX7) (N := 3) hx hb hts iRu_refresh_X6_refresh_0 hown hK hP 4 rfl rfl 2 (by decide) (nwU hN (by decide +kernel : Cond.fieldLinkNest "RepeatNests$Runs" 29 "RepeatNests$State" "size" "I" "RepeatNests" ∈ nwAll)) (fun _ h9 => h9) rfl dX6_refresh_34 ?_
          refine lv_icmp_gt (tgt := 55) hx hb dX6_refresh_37 (by decide) (fun c_1 => ?_) (fun c_1 => ?_)
          · have hres := it_of hres c_1
            refine lv_iinc (v := (x2 + (-1))) (lv' := [(2, .int (x2 + (-1))), (0, .ref h_t), (1, .ref h_u), (3, .int x3)]) hx hb dX6_refresh_55 hl (k := 2) rfl rfl (by decide) rfl (fun ls hl => ?_)
            refine lv_goto (tgt := 23) hx hb dX6_refresh_58 (by decide) ?_
            exact ih23 (x2 + (-1)) t_number t_fresh t_froms t_periods t_tos H locs ls hres hP hD hS (lv_sub hl [1, 2, 0] rfl)
          · have hres := ie_of hres c_1
            refine lv_aload_n hx hb dX6_refresh_40 rfl (lv_at hl 0 rfl) ?_
            refine lv_aload_n hx hb dX6_refresh_41 rfl (lv_at hl 1 rfl) ?_
            refine lv_iload_n hx hb dX6_refresh_42 rfl (lv_at hl 3 rfl) ?_
            refine lv_iload_n hx hb dX6_refresh_43 rfl (lv_at hl 3 rfl) ?_
            refine lv_iload_n hx hb dX6_refresh_44 rfl (lv_at hl 2 rfl) ?_
            refine lv_iadd hx hb dX6_refresh_45 ?_
            obtain ⟨o2, ho2, hres⟩ := bd_of hres
            have hPc := hP.sub (ws' := [(h_t, .inr (5, [.ref h_t_froms, .ref h_t_tos, .ref h_t_periods, .int t_number, .int t_fresh])), (h_t_froms, .inl (cI, 24, .inl t_froms)), (h_t_periods, .inl (cI, 24, .inl t_periods)), (h_t_tos, .inl (cI, 24, .inl t_tos)), (h_u, .inr (6, [.ref h_u_letters, .ref h_u_settings, .int u_size])), (h_u_letters, .inl (cI, 24, .inl u_letters))]) [0, 1, 2, 3, 4, 5] rfl
            have hDc := hD.sub (ws' := [(h_t, .inr (5, [.ref h_t_froms, .ref h_t_tos, .ref h_t_periods, .int t_number, .int t_fresh])), (h_t_froms, .inl (cI, 24, .inl t_froms)), (h_t_periods, .inl (cI, 24, .inl t_periods)), (h_t_tos, .inl (cI, 24, .inl t_tos)), (h_u, .inr (6, [.ref h_u_letters, .ref h_u_settings, .int u_size])), (h_u_letters, .inl (cI, 24, .inl u_letters))]) [0, 1, 2, 3, 4, 5] (by decide) rfl
            have hFc := va_free (wc := [(h_t, .inr (5, [.ref h_t_froms, .ref h_t_tos, .ref h_t_periods, .int t_number, .int t_fresh])), (h_t_froms, .inl (cI, 24, .inl t_froms)), (h_t_periods, .inl (cI, 24, .inl t_periods)), (h_t_tos, .inl (cI, 24, .inl t_tos)), (h_u, .inr (6, [.ref h_u_letters, .ref h_u_settings, .int u_size])), (h_u_letters, .inl (cI, 24, .inl u_letters))]) hD hS hA [0, 1, 2, 3, 4, 5] rfl
            refine va_callv (va_runV (As := [.ref h_u, .int x3, .int (x3 + x2)]) (rest := []) ⟨hx, hb, hml, hown, hts⟩ (cRu_look l dC dI cI cJ cC cS h_t h_t_froms h_t_tos h_t_periods h_u h_u_letters h_u_settings H.size t_number t_fresh t_froms t_periods t_tos u_size u_letters x3 (x3 + x2) o2.1 o2.2.1 o2.2.2.1 o2.2.2.2 ho2) (cwV 3 hts gX6_refresh_X6_look rfl rfl rfl (by decide +kernel) ⟨Nat.le_of_ble_eq_true rfl, Nat.le_of_ble_eq_true rfl⟩) ⟨fun a U g mk q => by obtain ⟨q0, q1, qP, qK, qN, qD⟩ := q; exact ⟨q0, q1, qP, va_K.moved (u := U) (U := U.calling g mk a) (Vm.Alike.refl U.vm) qK, nwS (u := U) (U := U.calling g mk a) rfl qN, qD⟩, va_recv hK hPc (ci := 5) (q0 := 0) rfl rfl, fun U hU hW => ⟨rfl, by rw [hU], by rw [hU]; exact hPc, va_K.moved hW.alike hK, nwW hW hN, hDc.weaken (fun _ _ _ _ => trivial)⟩⟩ rfl rfl hl.1 rfl (lv_room (Nat.le_of_ble_eq_true rfl)) dX6_refresh_46 ⟨Nat.zero_le _, Nat.zero_le _⟩) hS (fun q _ h => hFc q h) hFc (fun u9 t H1 locs ht hvm hw hB hz1 hk1 hS => ?_)
            obtain ⟨hP1, hK1, hD1⟩ := hB
            rw [ht] at hP1
            obtain ⟨hP, hD⟩ := va_join (wr := []) (w1 := [(h_t, .inr (5, [.ref h_t_froms, .ref h_t_tos, .ref h_t_periods, .int o2.1, .int t_fresh])), (h_t_froms, .inl (cI, 24, .inl o2.2.1)), (h_t_periods, .inl (cI, 24, .inl o2.2.2.1)), (h_t_tos, .inl (cI, 24, .inl o2.2.2.2)), (h_u, .inr (6, [.ref h_u_letters, .ref h_u_settings, .int u_size])), (h_u_letters, .inl (cI, 24, .inl u_letters))]) hP hD [0, 1, 2, 3, 4, 5] [] rfl rfl (by decide) (by decide) hk1 hFc hP1 hD1
            generalize H1 = H at hP hS ⊢
            have hP : va_P (dC, dI) vwCl [(h_t, .inr (5, [.ref h_t_froms, .ref h_t_tos, .ref h_t_periods, .int o2.1, .int t_fresh])), (h_t_froms, .inl (cI, 24, .inl o2.2.1)), (h_t_periods, .inl (cI, 24, .inl o2.2.2.1)), (h_t_tos, .inl (cI, 24, .inl o2.2.2.2)), (h_u, .inr (6, [.ref h_u_letters, .ref h_u_settings, .int u_size])), (h_u_letters, .inl (cI, 24, .inl u_letters))] H := hP
            have hD : va_D A [(h_t, .inr (5, [.ref h_t_froms, .ref h_t_tos, .ref h_t_periods, .int o2.1, .int t_fresh])), (h_t_froms, .inl (cI, 24, .inl o2.2.1)), (h_t_periods, .inl (cI, 24, .inl o2.2.2.1)), (h_t_tos, .inl (cI, 24, .inl o2.2.2.2)), (h_u, .inr (6, [.ref h_u_letters, .ref h_u_settings, .int u_size])), (h_u_letters, .inl (cI, 24, .inl u_letters))] := hD
            refine lv_iinc (v := (x3 + 1)) (lv' := [(3, .int (x3 + 1)), (0, .ref h_t), (1, .ref h_u), (2, .int x2)]) hx hb dX6_refresh_49 hl (k := 3) rfl rfl (by decide) rfl (fun ls hl => ?_)
            refine lv_goto (tgt := 30) hx hb dX6_refresh_52 (by decide) ?_
            exact ih30 x2 (x3 + 1) o2.1 t_fresh o2.2.1 o2.2.2.1 o2.2.2.2 H locs ls hres hP hD hS (lv_sub hl [1, 2, 3, 0] rfl)
      intro x2 t_number t_fresh t_froms t_periods t_tos H locs ls hres hP hD hS hl
      rw [fRu_refresh_23] at hres
      refine lv_iload_n hx hb dX6_refresh_23 rfl (lv_at hl 2 rfl) ?_
      refine lv_iconst (v := (2 : Int32)) hx hb dX6_refresh_24 (by decide) ?_
      refine lv_icmp_lt (tgt := 61) hx hb dX6_refresh_25 (by decide) (fun c_3 => ?_) (fun c_3 => ?_)
      · have hres := it_of hres c_3
        obtain ⟨e9_0, e9_1, e9_2, e9_3, e9_4⟩ := tup5 hres
        subst e9_0
        subst e9_1
        subst e9_2
        subst e9_3
        subst e9_4
        rw [← hQQ]
        exact W.vret hx hb hr (fun t ht hW => ⟨⟨(), rfl, trivial, by rw [ht]; exact hP, va_K.moved hW.alike hK, hD⟩, hS.F ht⟩) hS.2.2 dX6_refresh_61
      · have hres := ie_of hres c_3
        refine lv_iconst (v := (0 : Int32)) hx hb dX6_refresh_28 (by decide) ?_
        refine lv_istore_n (lv' := [(3, .int (0 : Int32)), (0, .ref h_t), (1, .ref h_u), (2, .int x2)]) hx hb dX6_refresh_29 rfl hl (by decide) rfl (fun ls hl => ?_)
        exact hL30 FU x2 (0 : Int32) t_number t_fresh t_froms t_periods t_tos H locs ls hres hP hD hS (lv_sub hl [1, 2, 3, 0] rfl)
  rw [fRu_refresh] at hres
  refine lv_aload_n hx hb dX6_refresh_0 rfl (lv_at hl 0 rfl) ?_
  refine va_get (D := (dC, dI)) (ci := 5) (v := .int t_fresh) (C := RX6) (T := TX6) (N := 5) hx hb hts iRu_refresh_X6_refresh_2 hown hK hP 0 rfl rfl 4 (by decide) (hts _ kRu_refresh_X6_refresh_1) (fun _ h9 => h9) rfl dX6_refresh_1 ?_
  refine lv_if_eq (tgt := 8) hx hb dX6_refresh_4 (by decide) (fun c_4 => ?_) (fun c_4 => ?_)
  · have hres := it_of hres c_4
    refine lv_aload_n hx hb dX6_refresh_8 rfl (lv_at hl 0 rfl) ?_
    refine lv_iconst (v := (1 : Int32)) hx hb dX6_refresh_9 (by decide) ?_
    refine va_put (D := (dC, dI)) (ci := 5) (v := .int (1 : Int32)) (ty := .boolean) (C := RX6) (T := TX6) (N := 5) hx hb hts iRu_refresh_X6_refresh_2 tyX6 tyX6_ok nmX6 hown hK hP hD hS 0 rfl rfl 4 (by decide) (hts _ kRu_refresh_X6_refresh_1) (fun _ h9 => h9) rfl (by decide +kernel) rfl rfl (Nat.le_of_ble_eq_true rfl) dX6_refresh_10 (fun H locs hP hD hS => ?_)
    have hP : va_P (dC, dI) vwCl [(h_t, .inr (5, [.ref h_t_froms, .ref h_t_tos, .ref h_t_periods, .int t_number, .int (1 : Int32)])), (h_t_froms, .inl (cI, 24, .inl t_froms)), (h_t_periods, .inl (cI, 24, .inl t_periods)), (h_t_tos, .inl (cI, 24, .inl t_tos)), (h_u, .inr (6, [.ref h_u_letters, .ref h_u_settings, .int u_size])), (h_u_letters, .inl (cI, 24, .inl u_letters))] H := hP
    have hD : va_D A [(h_t, .inr (5, [.ref h_t_froms, .ref h_t_tos, .ref h_t_periods, .int t_number, .int (1 : Int32)])), (h_t_froms, .inl (cI, 24, .inl t_froms)), (h_t_periods, .inl (cI, 24, .inl t_periods)), (h_t_tos, .inl (cI, 24, .inl t_tos)), (h_u, .inr (6, [.ref h_u_letters, .ref h_u_settings, .int u_size])), (h_u_letters, .inl (cI, 24, .inl u_letters))] := hD
    refine lv_aload_n hx hb dX6_refresh_13 rfl (lv_at hl 0 rfl) ?_
    refine lv_iconst (v := (0 : Int32)) hx hb dX6_refresh_14 (by decide) ?_
    refine va_put (D := (dC, dI)) (ci := 5) (v := .int (0 : Int32)) (ty := .int) (C := RX6) (T := TX6) (N := 5) hx hb hts iRu_refresh_X6_refresh_2 tyX6 tyX6_ok nmX6 hown hK hP hD hS 0 rfl rfl 3 (by decide) (hts _ kRu_refresh_X6_refresh_3) (fun _ h9 => h9) rfl (by decide +kernel) rfl rfl (Nat.le_of_ble_eq_true rfl) dX6_refresh_15 (fun H locs hP hD hS => ?_)
    have hP : va_P (dC, dI) vwCl [(h_t, .inr (5, [.ref h_t_froms, .ref h_t_tos, .ref h_t_periods, .int (0 : Int32), .int (1 : Int32)])), (h_t_froms, .inl (cI, 24, .inl t_froms)), (h_t_periods, .inl (cI, 24, .inl t_periods)), (h_t_tos, .inl (cI, 24, .inl t_tos)), (h_u, .inr (6, [.ref h_u_letters, .ref h_u_settings, .int u_size])), (h_u_letters, .inl (cI, 24, .inl u_letters))] H := hP
    have hD : va_D A [(h_t, .inr (5, [.ref h_t_froms, .ref h_t_tos, .ref h_t_periods, .int (0 : Int32), .int (1 : Int32)])), (h_t_froms, .inl (cI, 24, .inl t_froms)), (h_t_periods, .inl (cI, 24, .inl t_periods)), (h_t_tos, .inl (cI, 24, .inl t_tos)), (h_u, .inr (6, [.ref h_u_letters, .ref h_u_settings, .int u_size])), (h_u_letters, .inl (cI, 24, .inl u_letters))] := hD
    refine lv_aload_n hx hb dX6_refresh_18 rfl (lv_at hl 1 rfl) ?_
    refine va_getN (D := (dC, dI)) (ci := 6) (v := .int u_size) (C := RX7) (T := TX7) (N := 3) hx hb hts iRu_refresh_X6_refresh_0 hown hK hP 4 rfl rfl 2 (by decide) (nwU hN (by decide +kernel : Cond.fieldLinkNest "RepeatNests$Runs" 29 "RepeatNests$State" "size" "I" "RepeatNests" ∈ nwAll)) (fun _ h9 => h9) rfl dX6_refresh_19 ?_
    refine lv_istore_n (lv' := [(2, .int u_size), (0, .ref h_t), (1, .ref h_u)]) hx hb dX6_refresh_22 rfl hl (by decide) rfl (fun ls hl => ?_)
    exact hL23 FU u_size (0 : Int32) (1 : Int32) t_froms t_periods t_tos H locs ls hres hP hD hS (lv_sub hl [1, 2, 0] rfl)
  · have hres := ie_of hres c_4
    obtain ⟨e9_0, e9_1, e9_2, e9_3, e9_4⟩ := tup5 hres
    subst e9_0
    subst e9_1
    subst e9_2
    subst e9_3
    subst e9_4
    rw [← hQQ]
    exact W.vret hx hb hr (fun t ht hW => ⟨⟨(), rfl, trivial, by rw [ht]; exact hP, va_K.moved hW.alike hK, hD⟩, hS.F ht⟩) hS.2.2 dX6_refresh_7

-- Ru_tell
theorem kRu_tell_X6_tell_0 : Cond.constant RX6 50 (-1000004) ∈ wsX6_tell := by decide +kernel
theorem kRu_tell_X6_tell_1 : Cond.fieldLink RX6 21 "RepeatNests$Runs" "number" "I" ∈ wsX6_tell := by decide +kernel
theorem iRu_tell_X6_tell_2 : ∀ w ∈ wsX60, w ∈ wsX6_tell := by decide +kernel
theorem kRu_tell_X6_tell_3 : Cond.fieldLink RX6 18 "RepeatNests$Runs" "periods" "[I" ∈ wsX6_tell := by decide +kernel
theorem kRu_tell_X6_tell_4 : Cond.fieldLink RX6 15 "RepeatNests$Runs" "tos" "[I" ∈ wsX6_tell := by decide +kernel
theorem kRu_tell_X6_tell_5 : Cond.fieldLink RX6 9 "RepeatNests$Runs" "froms" "[I" ∈ wsX6_tell := by decide +kernel
set_option maxHeartbeats 4000000 in
set_option maxRecDepth 100000 in
theorem cRu_tell (l : Launch) (dC : Nat → ClassId) (dI : Nat → Nat → Nat) (cI cJ cC cS : ClassId) (h_t h_t_froms h_t_tos h_t_periods : Nat) (sz : Nat) (t_number : Int32) (t_fresh : Int32) (t_froms : Nat → Int32) (t_periods : Nat → Int32) (t_tos : Nat → Int32) (x1 : Int32) (x2 : Int32) (r : Int32) (hres : fRu_tell t_number t_froms t_periods t_tos x1 x2 = some r) :
    Met l yX6_tell wsX6_tell ({ frames := 0, cells := 0, slots := 0, locals := 0 } : Room) (va_Pc [.ref h_t, .int x1, .int x2] (fun (U : State) => U.heap.size = sz ∧ va_P (dC, dI) vwCl [(h_t, .inr (5, [.ref h_t_froms, .ref h_t_tos, .ref h_t_periods, .int t_number, .int t_fresh])), (h_t_froms, .inl (cI, 24, .inl t_froms)), (h_t_periods, .inl (cI, 24, .inl t_periods)), (h_t_tos, .inl (cI, 24, .inl t_tos))] U.heap ∧ va_K (dC, dI) vwCl (tyA cI cJ cC cS) U ∧ nwN U ∧ va_D (fun _ => True) [(h_t, .inr (5, [.ref h_t_froms, .ref h_t_tos, .ref h_t_periods, .int t_number, .int t_fresh])), (h_t_froms, .inl (cI, 24, .inl t_froms)), (h_t_periods, .inl (cI, 24, .inl t_periods)), (h_t_tos, .inl (cI, 24, .inl t_tos))])) (va_Qi (fun (r9 : Int32) (_ : Unit) => r9 = r) (fun (_ : Unit) (t : State) => va_P (dC, dI) vwCl [(h_t, .inr (5, [.ref h_t_froms, .ref h_t_tos, .ref h_t_periods, .int t_number, .int t_fresh])), (h_t_froms, .inl (cI, 24, .inl t_froms)), (h_t_periods, .inl (cI, 24, .inl t_periods)), (h_t_tos, .inl (cI, 24, .inl t_tos))] t.heap ∧ va_K (dC, dI) vwCl (tyA cI cJ cC cS) t ∧ va_D (va_A [(h_t, .inr (5, [.ref h_t_froms, .ref h_t_tos, .ref h_t_periods, .int t_number, .int t_fresh])), (h_t_froms, .inl (cI, 24, .inl t_froms)), (h_t_periods, .inl (cI, 24, .inl t_periods)), (h_t_tos, .inl (cI, 24, .inl t_tos))] sz) [(h_t, .inr (5, [.ref h_t_froms, .ref h_t_tos, .ref h_t_periods, .int t_number, .int t_fresh])), (h_t_froms, .inl (cI, 24, .inl t_froms)), (h_t_periods, .inl (cI, 24, .inl t_periods)), (h_t_tos, .inl (cI, 24, .inl t_tos))]) (va_A [(h_t, .inr (5, [.ref h_t_froms, .ref h_t_tos, .ref h_t_periods, .int t_number, .int t_fresh])), (h_t_froms, .inl (cI, 24, .inl t_froms)), (h_t_periods, .inl (cI, 24, .inl t_periods)), (h_t_tos, .inl (cI, 24, .inl t_tos))] sz)) 0 0 (va_A [(h_t, .inr (5, [.ref h_t_froms, .ref h_t_tos, .ref h_t_periods, .int t_number, .int t_fresh])), (h_t_froms, .inl (cI, 24, .inl t_froms)), (h_t_periods, .inl (cI, 24, .inl t_periods)), (h_t_tos, .inl (cI, 24, .inl t_tos))] sz) := by
  refine Met.ofW (cc := cX6_tell) (maxL := 3) (ret := (some .int)) (by decide) rfl ?_
  intro p e s m args below meth c s₁ B hml hv
  obtain ⟨hargs, hsz, hP, hK, hN, hD0⟩ := hv
  have hx := B.exec
  have hb := B.bytes
  have hr := B.returns
  have hts := atoms_spec (ws := wsX6_tell) B.pre
  have hown : s.vm.findClass RX6 = some m.cls := findClass_of_methodNamed B.named
  have hlocks := B.notSynchronized
  subst hsz
  have hD := hD0.self (sz := s.heap.size)
  generalize hAe : va_A [(h_t, .inr (5, [.ref h_t_froms, .ref h_t_tos, .ref h_t_periods, .int t_number, .int t_fresh])), (h_t_froms, .inl (cI, 24, .inl t_froms)), (h_t_periods, .inl (cI, 24, .inl t_periods)), (h_t_tos, .inl (cI, 24, .inl t_tos))] s.heap.size = A at hD ⊢
  have hA : ∀ q : Nat, s.heap.size ≤ q → A q := fun q h => by rw [← hAe]; exact Or.inr h
  have hS : va_S A s.heap s.heap [] := va_S.rf
  have hP : va_P (dC, dI) vwCl [(h_t, .inr (5, [.ref h_t_froms, .ref h_t_tos, .ref h_t_periods, .int t_number, .int t_fresh])), (h_t_froms, .inl (cI, 24, .inl t_froms)), (h_t_periods, .inl (cI, 24, .inl t_periods)), (h_t_tos, .inl (cI, 24, .inl t_tos))] s.heap := hP
  have hl := lv_entry [.ref h_t, .int x1, .int x2] (n := 3) (Nat.le_of_ble_eq_true rfl)
  rw [show entryFrame m args 3 = entryFrame m ([.ref h_t, .int x1, .int x2] : List Value).toArray 3 from by rw [hargs], lg_entry_eq]
  generalize (lg_sl [.ref h_t, .int x1, .int x2] ++ List.replicate (3 - (lg_sl [.ref h_t, .int x1, .int x2]).length) Slot.unset).toArray = ls at hl ⊢
  have hl : lv_has ls 3 [(0, .ref h_t), (1, .int x1), (2, .int x2)] := hl
  generalize hQQ : MQ below (va_Qi (fun (r9 : Int32) (_ : Unit) => r9 = r) (fun (_ : Unit) (t : State) => va_P (dC, dI) vwCl [(h_t, .inr (5, [.ref h_t_froms, .ref h_t_tos, .ref h_t_periods, .int t_number, .int t_fresh])), (h_t_froms, .inl (cI, 24, .inl t_froms)), (h_t_periods, .inl (cI, 24, .inl t_periods)), (h_t_tos, .inl (cI, 24, .inl t_tos))] t.heap ∧ va_K (dC, dI) vwCl (tyA cI cJ cC cS) t ∧ va_D A [(h_t, .inr (5, [.ref h_t_froms, .ref h_t_tos, .ref h_t_periods, .int t_number, .int t_fresh])), (h_t_froms, .inl (cI, 24, .inl t_froms)), (h_t_periods, .inl (cI, 24, .inl t_periods)), (h_t_tos, .inl (cI, 24, .inl t_tos))]) A) args s 0 0 A = QQ
  obtain ⟨H, hH⟩ : ∃ H : Heap, H = s.heap := ⟨_, rfl⟩
  obtain ⟨locs, hlocs⟩ : ∃ locs : List Loc, locs = [] := ⟨_, rfl⟩
  rw [← hH] at hP
  have hS : va_S A s.heap H locs := by rw [hH, hlocs]; exact hS
  suffices hZ : W p l e (headSpec wsX6_tell ({ frames := 0, cells := 0, slots := 0, locals := 0 } : Room)).room s m args below meth c H locs 0 0 QQ (F0 m 0 ls []) by rw [hH, hlocs] at hZ; exact hZ
  clear hH hlocs
  rw [fRu_tell] at hres
  refine lv_iload_n hx hb dX6_tell_0 rfl (lv_at hl 1 rfl) ?_
  refine lv_if_lt (tgt := 18) hx hb dX6_tell_1 (by decide) (fun c_1 => ?_) (fun c_1 => ?_)
  · have hres := it_of hres c_1
    refine lv_ldc (v := (-1000004 : Int32)) hx hb hown (hts _ kRu_tell_X6_tell_0) dX6_tell_18 ?_
    have e9_0 := Option.some.inj hres
    subst e9_0
    rw [← hQQ]
    exact W.iret (v := (-1000004 : Int32)) hx hb hr (fun t ht hW => ⟨⟨(-1000004 : Int32), (), rfl, rfl, by rw [ht]; exact hP, va_K.moved hW.alike hK, hD⟩, hS.F ht⟩) hS.2.2 dX6_tell_20
  · have hres := ie_of hres c_1
    refine lv_iload_n hx hb dX6_tell_4 rfl (lv_at hl 1 rfl) ?_
    refine lv_aload_n hx hb dX6_tell_5 rfl (lv_at hl 0 rfl) ?_
    refine va_get (D := (dC, dI)) (ci := 5) (v := .int t_number) (C := RX6) (T := TX6) (N := 5) hx hb hts iRu_tell_X6_tell_2 hown hK hP 0 rfl rfl 3 (by decide) (hts _ kRu_tell_X6_tell_1) (fun _ h9 => h9) rfl dX6_tell_6 ?_
    refine lv_icmp_ge (tgt := 18) hx hb dX6_tell_9 (by decide) (fun c_2 => ?_) (fun c_2 => ?_)
    · have hres := it_of hres c_2
      refine lv_ldc (v := (-1000004 : Int32)) hx hb hown (hts _ kRu_tell_X6_tell_0) dX6_tell_18 ?_
      have e9_0 := Option.some.inj hres
      subst e9_0
      rw [← hQQ]
      exact W.iret (v := (-1000004 : Int32)) hx hb hr (fun t ht hW => ⟨⟨(-1000004 : Int32), (), rfl, rfl, by rw [ht]; exact hP, va_K.moved hW.alike hK, hD⟩, hS.F ht⟩) hS.2.2 dX6_tell_20
    · have hres := ie_of hres c_2
      refine lv_iload_n hx hb dX6_tell_12 rfl (lv_at hl 1 rfl) ?_
      refine lv_bipush (v := (24 : Int32)) hx hb dX6_tell_13 (by decide) ?_
      refine lv_icmp_lt (tgt := 21) hx hb dX6_tell_15 (by decide) (fun c_3 => ?_) (fun c_3 => ?_)
      · have hres := it_of hres c_3
        refine lv_iload_n hx hb dX6_tell_21 rfl (lv_at hl 2 rfl) ?_
        refine lv_if_ne (tgt := 32) hx hb dX6_tell_22 (by decide) (fun c_4 => ?_) (fun c_4 => ?_)
        · have hres := ie_of hres c_4
          refine lv_iload_n hx hb dX6_tell_32 rfl (lv_at hl 2 rfl) ?_
          refine lv_iconst (v := (1 : Int32)) hx hb dX6_tell_33 (by decide) ?_
          refine lv_icmp_ne (tgt := 46) hx hb dX6_tell_34 (by decide) (fun c_5 => ?_) (fun c_5 => ?_)
          · have hres := ie_of hres c_5
            refine lv_aload_n hx hb dX6_tell_46 rfl (lv_at hl 0 rfl) ?_
            refine va_get (D := (dC, dI)) (ci := 5) (v := .ref h_t_periods) (C := RX6) (T := TX6) (N := 5) hx hb hts iRu_tell_X6_tell_2 hown hK hP 0 rfl rfl 2 (by decide) (hts _ kRu_tell_X6_tell_3) (fun _ h9 => h9) rfl dX6_tell_47 ?_
            refine lv_iload_n hx hb dX6_tell_50 rfl (lv_at hl 1 rfl) ?_
            obtain ⟨c_6, hres⟩ := ck_of hres
            refine va_iald hx hb hK hP 2 0 rfl rfl c_6 dX6_tell_51 ?_
            have e9_0 := Option.some.inj hres
            subst e9_0
            rw [← hQQ]
            exact W.iret (v := (rd t_periods x1)) hx hb hr (fun t ht hW => ⟨⟨(rd t_periods x1), (), rfl, rfl, by rw [ht]; exact hP, va_K.moved hW.alike hK, hD⟩, hS.F ht⟩) hS.2.2 dX6_tell_52
          · have hres := it_of hres c_5
            refine lv_aload_n hx hb dX6_tell_37 rfl (lv_at hl 0 rfl) ?_
            refine va_get (D := (dC, dI)) (ci := 5) (v := .ref h_t_tos) (C := RX6) (T := TX6) (N := 5) hx hb hts iRu_tell_X6_tell_2 hown hK hP 0 rfl rfl 1 (by decide) (hts _ kRu_tell_X6_tell_4) (fun _ h9 => h9) rfl dX6_tell_38 ?_
            refine lv_iload_n hx hb dX6_tell_41 rfl (lv_at hl 1 rfl) ?_
            obtain ⟨c_7, hres⟩ := ck_of hres
            refine va_iald hx hb hK hP 3 0 rfl rfl c_7 dX6_tell_42 ?_
            refine lv_goto (tgt := 52) hx hb dX6_tell_43 (by decide) ?_
            have e9_0 := Option.some.inj hres
            subst e9_0
            rw [← hQQ]
            exact W.iret (v := (rd t_tos x1)) hx hb hr (fun t ht hW => ⟨⟨(rd t_tos x1), (), rfl, rfl, by rw [ht]; exact hP, va_K.moved hW.alike hK, hD⟩, hS.F ht⟩) hS.2.2 dX6_tell_52
        · have hres := it_of hres c_4
          refine lv_aload_n hx hb dX6_tell_25 rfl (lv_at hl 0 rfl) ?_
          refine va_get (D := (dC, dI)) (ci := 5) (v := .ref h_t_froms) (C := RX6) (T := TX6) (N := 5) hx hb hts iRu_tell_X6_tell_2 hown hK hP 0 rfl rfl 0 (by decide) (hts _ kRu_tell_X6_tell_5) (fun _ h9 => h9) rfl dX6_tell_26 ?_
          refine lv_iload_n hx hb dX6_tell_29 rfl (lv_at hl 1 rfl) ?_
          obtain ⟨c_8, hres⟩ := ck_of hres
          refine va_iald hx hb hK hP 1 0 rfl rfl c_8 dX6_tell_30 ?_
          have e9_0 := Option.some.inj hres
          subst e9_0
          rw [← hQQ]
          exact W.iret (v := (rd t_froms x1)) hx hb hr (fun t ht hW => ⟨⟨(rd t_froms x1), (), rfl, rfl, by rw [ht]; exact hP, va_K.moved hW.alike hK, hD⟩, hS.F ht⟩) hS.2.2 dX6_tell_31
      · have hres := ie_of hres c_3
        refine lv_ldc (v := (-1000004 : Int32)) hx hb hown (hts _ kRu_tell_X6_tell_0) dX6_tell_18 ?_
        have e9_0 := Option.some.inj hres
        subst e9_0
        rw [← hQQ]
        exact W.iret (v := (-1000004 : Int32)) hx hb hr (fun t ht hW => ⟨⟨(-1000004 : Int32), (), rfl, rfl, by rw [ht]; exact hP, va_K.moved hW.alike hK, hD⟩, hS.F ht⟩) hS.2.2 dX6_tell_20
