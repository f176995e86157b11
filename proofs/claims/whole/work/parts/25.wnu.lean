-- PtNu_init
theorem kPtNu_init_X2_init_0 : Cond.methodLink RX2 3 objectInit ∈ wsX2_init := by decide +kernel
theorem kPtNu_init_X2_init_1 : Cond.instanceMethod objectInit ∈ wsX2_init := by decide +kernel
theorem kPtNu_init_X2_init_2 : Cond.code objectInit ⟨#[0xb1]⟩ 1 none ∈ wsX2_init := by decide +kernel
theorem iPtNu_init_X2_init_3 : ∀ w ∈ wsX50, w ∈ wsX2_init := by decide +kernel
theorem kPtNu_init_X2_init_4 : Cond.classLink RX2 9 RX5 ∈ wsX2_init := by decide +kernel
theorem kPtNu_init_X2_init_5 : Cond.instantiable RX5 10 ∈ wsX2_init := by decide +kernel
theorem kPtNu_init_X2_init_6 : Cond.initialized RX5 ∈ wsX2_init := by decide +kernel
theorem kPtNu_init_X2_init_7 : Cond.initialized yX5_init.cls ∈ wsX2_init := by decide +kernel
theorem kPtNu_init_X2_init_8 : Cond.instanceMethod yX5_init ∈ wsX2_init := by decide +kernel
theorem kPtNu_init_X2_init_9 : Cond.fieldLink RX2 12 "RepeatNests$Parts" "repeats" "LRepeatNests$Repeats;" ∈ wsX2_init := by decide +kernel
theorem iPtNu_init_X2_init_10 : ∀ w ∈ wsX10, w ∈ wsX2_init := by decide +kernel
theorem kPtNu_init_X2_init_11 : Cond.fieldLink RX2 18 "RepeatNests$Parts" "fresh" "Z" ∈ wsX2_init := by decide +kernel
set_option maxHeartbeats 4000000 in
set_option maxRecDepth 100000 in
theorem cPtNu_init (l : Launch) (dC : Nat → ClassId) (dI : Nat → Nat → Nat) (cI cJ cC cS : ClassId) (h_t : Nat) (sz : Nat) (hres : fPtNu_init = some ()) :
    Met l yX2_init wsX2_init ({ frames := 2, cells := 6, slots := 218, locals := 41 } : Room) (va_Pc [.ref h_t] (fun (U : State) => U.heap.size = sz ∧ va_P (dC, dI) vwCl [(h_t, .inr (1, [.null, .int 0, .null, .null]))] U.heap ∧ va_K (dC, dI) vwCl (tyA cI cJ cC cS) U ∧ nwN U ∧ va_D (fun _ => True) [(h_t, .inr (1, [.null, .int 0, .null, .null]))])) (va_Qv (fun (_ : Nat × Nat × Nat × Nat × Nat × Nat) => True) (fun (u8 : Nat × Nat × Nat × Nat × Nat × Nat) (t : State) => va_P (dC, dI) vwCl [(h_t, .inr (1, [.ref u8.1, .int (0 : Int32), .null, .null])), (u8.1, .inr (4, [.ref u8.2.1, .ref u8.2.2.1, .ref u8.2.2.2.1, .ref u8.2.2.2.2.1, .ref u8.2.2.2.2.2, .int (0 : Int32), .int (0 : Int32), .int (0 : Int32), .int (0 : Int32), .int (0 : Int32)])), (u8.2.1, .inl (cI, 4, .inl (fun _ => 0))), (u8.2.2.1, .inl (cI, 24, .inl (fun _ => 0))), (u8.2.2.2.1, .inl (cI, 60, .inl (fun _ => 0))), (u8.2.2.2.2.1, .inl (cI, 60, .inl (fun _ => 0))), (u8.2.2.2.2.2, .inl (cI, 60, .inl (fun _ => 0)))] t.heap ∧ va_K (dC, dI) vwCl (tyA cI cJ cC cS) t ∧ va_D (va_A [(h_t, .inr (1, [.null, .int 0, .null, .null]))] sz) [(h_t, .inr (1, [.ref u8.1, .int (0 : Int32), .null, .null])), (u8.1, .inr (4, [.ref u8.2.1, .ref u8.2.2.1, .ref u8.2.2.2.1, .ref u8.2.2.2.2.1, .ref u8.2.2.2.2.2, .int (0 : Int32), .int (0 : Int32), .int (0 : Int32), .int (0 : Int32), .int (0 : Int32)])), (u8.2.1, .inl (cI, 4, .inl (fun _ => 0))), (u8.2.2.1, .inl (cI, 24, .inl (fun _ => 0))), (u8.2.2.2.1, .inl (cI, 60, .inl (fun _ => 0))), (u8.2.2.2.2.1, .inl (cI, 60, .inl (fun _ => 0))), (u8.2.2.2.2.2, .inl (cI, 60, .inl (fun _ => 0)))]) (va_A [(h_t, .inr (1, [.null, .int 0, .null, .null]))] sz)) 6 218 (va_A [(h_t, .inr (1, [.null, .int 0, .null, .null]))] sz) := by
  refine Met.ofW (cc := cX2_init) (maxL := 1) (ret := none) (by decide) rfl ?_
  intro p e s m args below meth c s₁ B hml hv
  obtain ⟨hargs, hsz, hP, hK, hN, hD0⟩ := hv
  have hx := B.exec
  have hb := B.bytes
  have hr := B.returns
  have hts := atoms_spec (ws := wsX2_init) B.pre
  have hown : s.vm.findClass RX2 = some m.cls := findClass_of_methodNamed B.named
  have hlocks := B.notSynchronized
  have hin : meth.name = "<init>" := (name_of_methodNamed B.named B.method).1
  subst hsz
  have hD := hD0.self (sz := s.heap.size)
  generalize hAe : va_A [(h_t, .inr (1, [.null, .int 0, .null, .null]))] s.heap.size = A at hD ⊢
  have hA : ∀ q : Nat, s.heap.size ≤ q → A q := fun q h => by rw [← hAe]; exact Or.inr h
  have hS : va_S A s.heap s.heap [] := va_S.rf
  have hP : va_P (dC, dI) vwCl [(h_t, .inr (1, [.null, .int 0, .null, .null]))] s.heap := hP
  have hl := lv_entry [.ref h_t] (n := 1) (Nat.le_of_ble_eq_true rfl)
  rw [show entryFrame m args 1 = entryFrame m ([.ref h_t] : List Value).toArray 1 from by rw [hargs], lg_entry_eq]
  generalize (lg_sl [.ref h_t] ++ List.replicate (1 - (lg_sl [.ref h_t]).length) Slot.unset).toArray = ls at hl ⊢
  have hl : lv_has ls 1 [(0, .ref h_t)] := hl
  generalize hQQ : MQ below (va_Qv (fun (_ : Nat × Nat × Nat × Nat × Nat × Nat) => True) (fun (u8 : Nat × Nat × Nat × Nat × Nat × Nat) (t : State) => va_P (dC, dI) vwCl [(h_t, .inr (1, [.ref u8.1, .int (0 : Int32), .null, .null])), (u8.1, .inr (4, [.ref u8.2.1, .ref u8.2.2.1, .ref u8.2.2.2.1, .ref u8.2.2.2.2.1, .ref u8.2.2.2.2.2, .int (0 : Int32), .int (0 : Int32), .int (0 : Int32), .int (0 : Int32), .int (0 : Int32)])), (u8.2.1, .inl (cI, 4, .inl (fun _ => 0))), (u8.2.2.1, .inl (cI, 24, .inl (fun _ => 0))), (u8.2.2.2.1, .inl (cI, 60, .inl (fun _ => 0))), (u8.2.2.2.2.1, .inl (cI, 60, .inl (fun _ => 0))), (u8.2.2.2.2.2, .inl (cI, 60, .inl (fun _ => 0)))] t.heap ∧ va_K (dC, dI) vwCl (tyA cI cJ cC cS) t ∧ va_D A [(h_t, .inr (1, [.ref u8.1, .int (0 : Int32), .null, .null])), (u8.1, .inr (4, [.ref u8.2.1, .ref u8.2.2.1, .ref u8.2.2.2.1, .ref u8.2.2.2.2.1, .ref u8.2.2.2.2.2, .int (0 : Int32), .int (0 : Int32), .int (0 : Int32), .int (0 : Int32), .int (0 : Int32)])), (u8.2.1, .inl (cI, 4, .inl (fun _ => 0))), (u8.2.2.1, .inl (cI, 24, .inl (fun _ => 0))), (u8.2.2.2.1, .inl (cI, 60, .inl (fun _ => 0))), (u8.2.2.2.2.1, .inl (cI, 60, .inl (fun _ => 0))), (u8.2.2.2.2.2, .inl (cI, 60, .inl (fun _ => 0)))]) A) args s 6 218 A = QQ
  obtain ⟨H, hH⟩ : ∃ H : Heap, H = s.heap := ⟨_, rfl⟩
  obtain ⟨locs, hlocs⟩ : ∃ locs : List Loc, locs = [] := ⟨_, rfl⟩
  rw [← hH] at hP
  have hS : va_S A s.heap H locs := by rw [hH, hlocs]; exact hS
  suffices hZ : W p l e (headSpec wsX2_init ({ frames := 2, cells := 6, slots := 218, locals := 41 } : Room)).room s m args below meth c H locs 0 0 QQ (F0 m 0 ls []) by rw [hH, hlocs] at hZ; exact hZ
  clear hH hlocs
  rw [fPtNu_init] at hres
  refine lv_aload_n hx hb dX2_init_0 rfl (lv_at hl 0 rfl) ?_
  refine W.objInit hx hb hown (hts _ kPtNu_init_X2_init_0) (hts _ kPtNu_init_X2_init_1) (hts _ kPtNu_init_X2_init_2) rfl (by rw [hml]; exact hl.1) rfl dX2_init_1 (Nat.le_of_ble_eq_true rfl) (Nat.le_of_ble_eq_true rfl) ?_
  refine W.eq (g2 := F0 m 4 ls []) rfl ?_
  refine lv_aload_n hx hb dX2_init_4 rfl (lv_at hl 0 rfl) ?_
  refine va_new (ci := 4) (fs := [.null, .null, .null, .null, .null, .int 0, .int 0, .int 0, .int 0, .int 0]) (C := RX5) (T := TX5) (N := 10) hx hb hts iPtNu_init_X2_init_3 tyX5 tyX5_ok hown (hts _ kPtNu_init_X2_init_4) (hts _ kPtNu_init_X2_init_5) (hts _ kPtNu_init_X2_init_6) hK hP hD hS hA rfl (fun j hj => by rcases (show j = 0 ∨ j = 1 ∨ j = 2 ∨ j = 3 ∨ j = 4 ∨ j = 5 ∨ j = 6 ∨ j = 7 ∨ j = 8 ∨ j = 9 by omega) with rfl | rfl | rfl | rfl | rfl | rfl | rfl | rfl | rfl | rfl <;> rfl) (Nat.le_of_ble_eq_true rfl) (Nat.le_of_ble_eq_true rfl) dX2_init_5 (fun q_n5 H hP hD hS => ?_)
  have hP : va_P (dC, dI) vwCl [(h_t, .inr (1, [.null, .int 0, .null, .null])), (q_n5, .inr (4, [.null, .null, .null, .null, .null, .int 0, .int 0, .int 0, .int 0, .int 0]))] H := hP
  have hD : va_D A [(h_t, .inr (1, [.null, .int 0, .null, .null])), (q_n5, .inr (4, [.null, .null, .null, .null, .null, .int 0, .int 0, .int 0, .int 0, .int 0]))] := hD
  refine W.widen (k := 1) (n := 10) (Nat.le_of_ble_eq_true rfl) (Nat.le_of_ble_eq_true rfl) ?_
  refine lv_dup hx hb dX2_init_8 rfl ?_
  obtain ⟨o1, ho1, hres⟩ := bd_of hres
  have hPc := hP.sub (ws' := [(q_n5, .inr (4, [.null, .null, .null, .null, .null, .int 0, .int 0, .int 0, .int 0, .int 0]))]) [1] rfl
  have hDc := hD.sub (ws' := [(q_n5, .inr (4, [.null, .null, .null, .null, .null, .int 0, .int 0, .int 0, .int 0, .int 0]))]) [1] (by decide) rfl
  have hFc := va_free (wc := [(q_n5, .inr (4, [.null, .null, .null, .null, .null, .int 0, .int 0, .int 0, .int 0, .int 0]))]) hD hS hA [1] rfl
  refine va_callv (va_runIN (As := []) (rest := [.ref q_n5, .ref h_t]) ⟨hx, hb, hml, hown, hts⟩ (cRp_init l dC dI cI cJ cC cS q_n5 H.size ho1) ⟨va_cnB 0 hts gX2_init_X5_init_n11 rfl rfl rfl (nwP hN (by decide +kernel : Cond.methodLinkNest "RepeatNests$Parts" 11 ({ cls := "RepeatNests$Repeats", name := "<init>", desc := "()V" } : Jvm.MethodName) "RepeatNests" ∈ nwAll)) (hts _ kPtNu_init_X2_init_7) (by decide +kernel) ⟨Nat.le_of_ble_eq_true rfl, Nat.le_of_ble_eq_true rfl⟩, rfl, hts _ kPtNu_init_X2_init_8⟩ ⟨fun a U g mk q => by obtain ⟨q0, q1, qP, qK, qN, qD⟩ := q; exact ⟨q0, q1, qP, va_K.moved (u := U) (U := U.calling g mk a) (Vm.Alike.refl U.vm) qK, nwS (u := U) (U := U.calling g mk a) rfl qN, qD⟩, fun U hU hW => ⟨rfl, by rw [hU], by rw [hU]; exact hPc, va_K.moved hW.alike hK, nwW hW hN, hDc.weaken (fun _ _ _ _ => trivial)⟩⟩ rfl rfl hl.1 rfl (lv_room (Nat.le_of_ble_eq_true rfl)) dX2_init_9 ⟨Nat.le_of_ble_eq_true rfl, Nat.le_of_ble_eq_true rfl⟩) hS (fun q _ h => hFc q h) hFc (fun u9 t H1 locs ht hvm hw hB hz1 hk1 hS => ?_)
  obtain ⟨q_n5_n6, q_n5_n14, q_n5_n22, q_n5_n30, q_n5_n38⟩ := u9
  obtain ⟨hP1, hK1, hD1⟩ := hB
  rw [ht] at hP1
  obtain ⟨hP, hD⟩ := va_join (wr := [(h_t, .inr (1, [.null, .int 0, .null, .null]))]) (w1 := [(q_n5, .inr (4, [.ref q_n5_n6, .ref q_n5_n14, .ref q_n5_n22, .ref q_n5_n30, .ref q_n5_n38, .int (0 : Int32), .int (0 : Int32), .int (0 : Int32), .int (0 : Int32), .int (0 : Int32)])), (q_n5_n6, .inl (cI, 4, .inl (fun _ => 0))), (q_n5_n14, .inl (cI, 24, .inl (fun _ => 0))), (q_n5_n22, .inl (cI, 60, .inl (fun _ => 0))), (q_n5_n30, .inl (cI, 60, .inl (fun _ => 0))), (q_n5_n38, .inl (cI, 60, .inl (fun _ => 0)))]) hP hD [1] [0] rfl rfl (by decide) (by decide) hk1 hFc hP1 hD1
  generalize H1 = H at hP hS ⊢
  have hP : va_P (dC, dI) vwCl [(h_t, .inr (1, [.null, .int 0, .null, .null])), (q_n5, .inr (4, [.ref q_n5_n6, .ref q_n5_n14, .ref q_n5_n22, .ref q_n5_n30, .ref q_n5_n38, .int (0 : Int32), .int (0 : Int32), .int (0 : Int32), .int (0 : Int32), .int (0 : Int32)])), (q_n5_n6, .inl (cI, 4, .inl (fun _ => 0))), (q_n5_n14, .inl (cI, 24, .inl (fun _ => 0))), (q_n5_n22, .inl (cI, 60, .inl (fun _ => 0))), (q_n5_n30, .inl (cI, 60, .inl (fun _ => 0))), (q_n5_n38, .inl (cI, 60, .inl (fun _ => 0)))] H := hP
  have hD : va_D A [(h_t, .inr (1, [.null, .int 0, .null, .null])), (q_n5, .inr (4, [.ref q_n5_n6, .ref q_n5_n14, .ref q_n5_n22, .ref q_n5_n30, .ref q_n5_n38, .int (0 : Int32), .int (0 : Int32), .int (0 : Int32), .int (0 : Int32), .int (0 : Int32)])), (q_n5_n6, .inl (cI, 4, .inl (fun _ => 0))), (q_n5_n14, .inl (cI, 24, .inl (fun _ => 0))), (q_n5_n22, .inl (cI, 60, .inl (fun _ => 0))), (q_n5_n30, .inl (cI, 60, .inl (fun _ => 0))), (q_n5_n38, .inl (cI, 60, .inl (fun _ => 0)))] := hD
  refine W.widen (k := 6) (n := 218) (Nat.le_of_ble_eq_true rfl) (Nat.le_of_ble_eq_true rfl) ?_
  refine va_putF (D := (dC, dI)) (ci := 1) (v := .ref q_n5) (ty := .object "RepeatNests$Repeats") (C := RX1) (T := TX1) (N := 4) hx hb hts iPtNu_init_X2_init_10 tyX1 tyX1_ok nmX1 hown hK hP hD hS 0 rfl rfl 0 (by decide) (hts _ kPtNu_init_X2_init_9) (fun _ h9 => h9) rfl hin rfl (by decide +kernel) rfl rfl (Nat.le_of_ble_eq_true rfl) dX2_init_12 (fun H locs hP hD hS => ?_)
  have hP : va_P (dC, dI) vwCl [(h_t, .inr (1, [.ref q_n5, .int 0, .null, .null])), (q_n5, .inr (4, [.ref q_n5_n6, .ref q_n5_n14, .ref q_n5_n22, .ref q_n5_n30, .ref q_n5_n38, .int (0 : Int32), .int (0 : Int32), .int (0 : Int32), .int (0 : Int32), .int (0 : Int32)])), (q_n5_n6, .inl (cI, 4, .inl (fun _ => 0))), (q_n5_n14, .inl (cI, 24, .inl (fun _ => 0))), (q_n5_n22, .inl (cI, 60, .inl (fun _ => 0))), (q_n5_n30, .inl (cI, 60, .inl (fun _ => 0))), (q_n5_n38, .inl (cI, 60, .inl (fun _ => 0)))] H := hP
  have hD : va_D A [(h_t, .inr (1, [.ref q_n5, .int 0, .null, .null])), (q_n5, .inr (4, [.ref q_n5_n6, .ref q_n5_n14, .ref q_n5_n22, .ref q_n5_n30, .ref q_n5_n38, .int (0 : Int32), .int (0 : Int32), .int (0 : Int32), .int (0 : Int32), .int (0 : Int32)])), (q_n5_n6, .inl (cI, 4, .inl (fun _ => 0))), (q_n5_n14, .inl (cI, 24, .inl (fun _ => 0))), (q_n5_n22, .inl (cI, 60, .inl (fun _ => 0))), (q_n5_n30, .inl (cI, 60, .inl (fun _ => 0))), (q_n5_n38, .inl (cI, 60, .inl (fun _ => 0)))] := hD
  refine lv_aload_n hx hb dX2_init_15 rfl (lv_at hl 0 rfl) ?_
  refine lv_iconst (v := (0 : Int32)) hx hb dX2_init_16 (by decide) ?_
  refine va_put (D := (dC, dI)) (ci := 1) (v := .int (0 : Int32)) (ty := .boolean) (C := RX1) (T := TX1) (N := 4) hx hb hts iPtNu_init_X2_init_10 tyX1 tyX1_ok nmX1 hown hK hP hD hS 0 rfl rfl 1 (by decide) (hts _ kPtNu_init_X2_init_11) (fun _ h9 => h9) rfl (by decide +kernel) rfl rfl (Nat.le_of_ble_eq_true rfl) dX2_init_17 (fun H locs hP hD hS => ?_)
  have hP : va_P (dC, dI) vwCl [(h_t, .inr (1, [.ref q_n5, .int (0 : Int32), .null, .null])), (q_n5, .inr (4, [.ref q_n5_n6, .ref q_n5_n14, .ref q_n5_n22, .ref q_n5_n30, .ref q_n5_n38, .int (0 : Int32), .int (0 : Int32), .int (0 : Int32), .int (0 : Int32), .int (0 : Int32)])), (q_n5_n6, .inl (cI, 4, .inl (fun _ => 0))), (q_n5_n14, .inl (cI, 24, .inl (fun _ => 0))), (q_n5_n22, .inl (cI, 60, .inl (fun _ => 0))), (q_n5_n30, .inl (cI, 60, .inl (fun _ => 0))), (q_n5_n38, .inl (cI, 60, .inl (fun _ => 0)))] H := hP
  have hD : va_D A [(h_t, .inr (1, [.ref q_n5, .int (0 : Int32), .null, .null])), (q_n5, .inr (4, [.ref q_n5_n6, .ref q_n5_n14, .ref q_n5_n22, .ref q_n5_n30, .ref q_n5_n38, .int (0 : Int32), .int (0 : Int32), .int (0 : Int32), .int (0 : Int32), .int (0 : Int32)])), (q_n5_n6, .inl (cI, 4, .inl (fun _ => 0))), (q_n5_n14, .inl (cI, 24, .inl (fun _ => 0))), (q_n5_n22, .inl (cI, 60, .inl (fun _ => 0))), (q_n5_n30, .inl (cI, 60, .inl (fun _ => 0))), (q_n5_n38, .inl (cI, 60, .inl (fun _ => 0)))] := hD
  refine W.widen (k := 6) (n := 218) (Nat.le_of_ble_eq_true rfl) (Nat.le_of_ble_eq_true rfl) ?_
  rw [← hQQ]
  exact W.vret hx hb hr (fun t ht hW => ⟨⟨(q_n5, q_n5_n6, q_n5_n14, q_n5_n22, q_n5_n30, q_n5_n38), rfl, trivial, by rw [ht]; exact hP, va_K.moved hW.alike hK, hD⟩, hS.F ht⟩) hS.2.2 dX2_init_20

-- Nu_put
theorem kNu_put_X1_put_0 : Cond.fieldLink RX1 9 "RepeatNests$Numbers" "table" "[J" ∈ wsX1_put := by decide +kernel
theorem iNu_put_X1_put_1 : ∀ w ∈ wsX10, w ∈ wsX1_put := by decide +kernel
set_option maxHeartbeats 4000000 in
set_option maxRecDepth 100000 in
theorem cNu_put (l : Launch) (dC : Nat → ClassId) (dI : Nat → Nat → Nat) (cI cJ cC cS : ClassId) (h_t h_t_repeats h_t_table h_t_items : Nat) (sz : Nat) (t_fresh : Int32) (t_table : Nat → Int64) (x1 : Int32) (x2 : Int64) (y_t_table : Nat → Int64) (hres : fNu_put t_table x1 x2 = some y_t_table) :
    Met l yX1_put wsX1_put ({ frames := 0, cells := 0, slots := 0, locals := 0 } : Room) (va_Pc [.ref h_t, .int x1, .long x2] (fun (U : State) => U.heap.size = sz ∧ va_P (dC, dI) vwCl [(h_t, .inr (1, [.ref h_t_repeats, .int t_fresh, .ref h_t_table, .ref h_t_items])), (h_t_table, .inl (cJ, 1625, .inr (.inl t_table)))] U.heap ∧ va_K (dC, dI) vwCl (tyA cI cJ cC cS) U ∧ nwN U ∧ va_D (fun _ => True) [(h_t, .inr (1, [.ref h_t_repeats, .int t_fresh, .ref h_t_table, .ref h_t_items])), (h_t_table, .inl (cJ, 1625, .inr (.inl t_table)))])) (va_Qv (fun (_ : Unit) => True) (fun (_ : Unit) (t : State) => va_P (dC, dI) vwCl [(h_t, .inr (1, [.ref h_t_repeats, .int t_fresh, .ref h_t_table, .ref h_t_items])), (h_t_table, .inl (cJ, 1625, .inr (.inl y_t_table)))] t.heap ∧ va_K (dC, dI) vwCl (tyA cI cJ cC cS) t ∧ va_D (va_A [(h_t, .inr (1, [.ref h_t_repeats, .int t_fresh, .ref h_t_table, .ref h_t_items])), (h_t_table, .inl (cJ, 1625, .inr (.inl t_table)))] sz) [(h_t, .inr (1, [.ref h_t_repeats, .int t_fresh, .ref h_t_table, .ref h_t_items])), (h_t_table, .inl (cJ, 1625, .inr (.inl y_t_table)))]) (va_A [(h_t, .inr (1, [.ref h_t_repeats, .int t_fresh, .ref h_t_table, .ref h_t_items])), (h_t_table, .inl (cJ, 1625, .inr (.inl t_table)))] sz)) 0 0 (va_A [(h_t, .inr (1, [.ref h_t_repeats, .int t_fresh, .ref h_t_table, .ref h_t_items])), (h_t_table, .inl (cJ, 1625, .inr (.inl t_table)))] sz) := by
  refine Met.ofW (cc := cX1_put) (maxL := 4) (ret := none) (by decide) rfl ?_
  intro p e s m args below meth c s₁ B hml hv
  obtain ⟨hargs, hsz, hP, hK, hN, hD0⟩ := hv
  have hx := B.exec
  have hb := B.bytes
  have hr := B.returns
  have hts := atoms_spec (ws := wsX1_put) B.pre
  have hown : s.vm.findClass RX1 = some m.cls := findClass_of_methodNamed B.named
  have hlocks := B.notSynchronized
  subst hsz
  have hD := hD0.self (sz := s.heap.size)
  generalize hAe : va_A [(h_t, .inr (1, [.ref h_t_repeats, .int t_fresh, .ref h_t_table, .ref h_t_items])), (h_t_table, .inl (cJ, 1625, .inr (.inl t_table)))] s.heap.size = A at hD ⊢
  have hA : ∀ q : Nat, s.heap.size ≤ q → A q := fun q h => by rw [← hAe]; exact Or.inr h
  have hS : va_S A s.heap s.heap [] := va_S.rf
  have hP : va_P (dC, dI) vwCl [(h_t, .inr (1, [.ref h_t_repeats, .int t_fresh, .ref h_t_table, .ref h_t_items])), (h_t_table, .inl (cJ, 1625, .inr (.inl t_table)))] s.heap := hP
  have hl := lv_entry [.ref h_t, .int x1, .long x2] (n := 4) (Nat.le_of_ble_eq_true rfl)
  rw [show entryFrame m args 4 = entryFrame m ([.ref h_t, .int x1, .long x2] : List Value).toArray 4 from by rw [hargs], lg_entry_eq]
  generalize (lg_sl [.ref h_t, .int x1, .long x2] ++ List.replicate (4 - (lg_sl [.ref h_t, .int x1, .long x2]).length) Slot.unset).toArray = ls at hl ⊢
  have hl : lv_has ls 4 [(0, .ref h_t), (1, .int x1), (2, .long x2)] := hl
  generalize hQQ : MQ below (va_Qv (fun (_ : Unit) => True) (fun (_ : Unit) (t : State) => va_P (dC, dI) vwCl [(h_t, .inr (1, [.ref h_t_repeats, .int t_fresh, .ref h_t_table, .ref h_t_items])), (h_t_table, .inl (cJ, 1625, .inr (.inl y_t_table)))] t.heap ∧ va_K (dC, dI) vwCl (tyA cI cJ cC cS) t ∧ va_D A [(h_t, .inr (1, [.ref h_t_repeats, .int t_fresh, .ref h_t_table, .ref h_t_items])), (h_t_table, .inl (cJ, 1625, .inr (.inl y_t_table)))]) A) args s 0 0 A = QQ
  obtain ⟨H, hH⟩ : ∃ H : Heap, H = s.heap := ⟨_, rfl⟩
  obtain ⟨locs, hlocs⟩ : ∃ locs : List Loc, locs = [] := ⟨_, rfl⟩
  rw [← hH] at hP
  have hS : va_S A s.heap H locs := by rw [hH, hlocs]; exact hS
  suffices hZ : W p l e (headSpec wsX1_put ({ frames := 0, cells := 0, slots := 0, locals := 0 } : Room)).room s m args below meth c H locs 0 0 QQ (F0 m 0 ls []) by rw [hH, hlocs] at hZ; exact hZ
  clear hH hlocs
  rw [fNu_put] at hres
  refine lv_iload_n hx hb dX1_put_0 rfl (lv_at hl 1 rfl) ?_
  refine lv_if_lt (tgt := 20) hx hb dX1_put_1 (by decide) (fun c_1 => ?_) (fun c_1 => ?_)
  · have hres := it_of hres c_1
    have e9_0 := Option.some.inj hres
    subst e9_0
    rw [← hQQ]
    exact W.vret hx hb hr (fun t ht hW => ⟨⟨(), rfl, trivial, by rw [ht]; exact hP, va_K.moved hW.alike hK, hD⟩, hS.F ht⟩) hS.2.2 dX1_put_20
  · have hres := ie_of hres c_1
    refine lv_iload_n hx hb dX1_put_4 rfl (lv_at hl 1 rfl) ?_
    refine lv_aload_n hx hb dX1_put_5 rfl (lv_at hl 0 rfl) ?_
    refine va_get (D := (dC, dI)) (ci := 1) (v := .ref h_t_table) (C := RX1) (T := TX1) (N := 4) hx hb hts iNu_put_X1_put_1 hown hK hP 0 rfl rfl 2 (by decide) (hts _ kNu_put_X1_put_0) (fun _ h9 => h9) rfl dX1_put_6 ?_
    refine va_alen hx hb hK hP 1 1 rfl (ty := .long) rfl (v := (1625 : Int32)) (by show Int32.ofNat 1625 = (1625 : Int32); decide) dX1_put_9 ?_
    refine lv_icmp_ge (tgt := 20) hx hb dX1_put_10 (by decide) (fun c_2 => ?_) (fun c_2 => ?_)
    · have hres := it_of hres c_2
      have e9_0 := Option.some.inj hres
      subst e9_0
      rw [← hQQ]
      exact W.vret hx hb hr (fun t ht hW => ⟨⟨(), rfl, trivial, by rw [ht]; exact hP, va_K.moved hW.alike hK, hD⟩, hS.F ht⟩) hS.2.2 dX1_put_20
    · have hres := ie_of hres c_2
      refine lv_aload_n hx hb dX1_put_13 rfl (lv_at hl 0 rfl) ?_
      refine va_get (D := (dC, dI)) (ci := 1) (v := .ref h_t_table) (C := RX1) (T := TX1) (N := 4) hx hb hts iNu_put_X1_put_1 hown hK hP 0 rfl rfl 2 (by decide) (hts _ kNu_put_X1_put_0) (fun _ h9 => h9) rfl dX1_put_14 ?_
      refine lv_iload_n hx hb dX1_put_17 rfl (lv_at hl 1 rfl) ?_
      refine lv_lload_n hx hb dX1_put_18 rfl (lv_at hl 2 rfl) ?_
      obtain ⟨c_3, hres⟩ := ck_of hres
      refine va_last hx hb hK hP hD hS 1 1 rfl rfl c_3 dX1_put_19 (fun H locs hP hD hS => ?_)
      have hP : va_P (dC, dI) vwCl [(h_t, .inr (1, [.ref h_t_repeats, .int t_fresh, .ref h_t_table, .ref h_t_items])), (h_t_table, .inl (cJ, 1625, .inr (.inl (wrL t_table x1 x2))))] H := hP
      have hD : va_D A [(h_t, .inr (1, [.ref h_t_repeats, .int t_fresh, .ref h_t_table, .ref h_t_items])), (h_t_table, .inl (cJ, 1625, .inr (.inl (wrL t_table x1 x2))))] := hD
      have e9_0 := Option.some.inj hres
      subst e9_0
      rw [← hQQ]
      exact W.vret hx hb hr (fun t ht hW => ⟨⟨(), rfl, trivial, by rw [ht]; exact hP, va_K.moved hW.alike hK, hD⟩, hS.F ht⟩) hS.2.2 dX1_put_20

-- Nu_init
theorem kNu_init_X1_init_0 : Cond.initialized yX2_init.cls ∈ wsX1_init := by decide +kernel
theorem kNu_init_X1_init_1 : Cond.instanceMethod yX2_init ∈ wsX1_init := by decide +kernel
theorem kNu_init_X1_init_2 : Cond.arrayClass .long ∈ wsX1_init := by decide +kernel
theorem kNu_init_X1_init_3 : Cond.fieldLink RX1 9 "RepeatNests$Numbers" "table" "[J" ∈ wsX1_init := by decide +kernel
theorem iNu_init_X1_init_4 : ∀ w ∈ wsX10, w ∈ wsX1_init := by decide +kernel
theorem kNu_init_X1_init_5 : Cond.fieldLink RX1 15 "RepeatNests$Numbers" "items" "[J" ∈ wsX1_init := by decide +kernel
theorem kNu_init_X1_init_6 : Cond.initialized yX10_partIndex.cls ∈ wsX1_init := by decide +kernel
theorem kNu_init_X1_init_7 : Cond.static yX10_partIndex ∈ wsX1_init := by decide +kernel
set_option maxHeartbeats 4000000 in
set_option maxRecDepth 100000 in
theorem cNu_init (l : Launch) (dC : Nat → ClassId) (dI : Nat → Nat → Nat) (cI cJ cC cS : ClassId) (h_t : Nat) (sz : Nat) (y_na_n8 : Nat → Int64) (hres : fNu_init = some y_na_n8) :
    Met l yX1_init wsX1_init ({ frames := 3, cells := 8, slots := 1868, locals := 61 } : Room) (va_Pc [.ref h_t] (fun (U : State) => U.heap.size = sz ∧ va_P (dC, dI) vwCl [(h_t, .inr (1, [.null, .int 0, .null, .null]))] U.heap ∧ va_K (dC, dI) vwCl (tyA cI cJ cC cS) U ∧ nwN U ∧ va_D (fun _ => True) [(h_t, .inr (1, [.null, .int 0, .null, .null]))])) (va_Qv (fun (_ : Nat × Nat × Nat × Nat × Nat × Nat × Nat × Nat) => True) (fun (u8 : Nat × Nat × Nat × Nat × Nat × Nat × Nat × Nat) (t : State) => va_P (dC, dI) vwCl [(h_t, .inr (1, [.ref u8.1, .int (0 : Int32), .ref u8.2.2.2.2.2.2.1, .ref u8.2.2.2.2.2.2.2])), (u8.1, .inr (4, [.ref u8.2.1, .ref u8.2.2.1, .ref u8.2.2.2.1, .ref u8.2.2.2.2.1, .ref u8.2.2.2.2.2.1, .int (0 : Int32), .int (0 : Int32), .int (0 : Int32), .int (0 : Int32), .int (0 : Int32)])), (u8.2.1, .inl (cI, 4, .inl (fun _ => 0))), (u8.2.2.1, .inl (cI, 24, .inl (fun _ => 0))), (u8.2.2.2.1, .inl (cI, 60, .inl (fun _ => 0))), (u8.2.2.2.2.1, .inl (cI, 60, .inl (fun _ => 0))), (u8.2.2.2.2.2.1, .inl (cI, 60, .inl (fun _ => 0))), (u8.2.2.2.2.2.2.1, .inl (cJ, 1625, .inr (.inl y_na_n8))), (u8.2.2.2.2.2.2.2, .inl (cJ, 25, .inr (.inl (fun _ => 0))))] t.heap ∧ va_K (dC, dI) vwCl (tyA cI cJ cC cS) t ∧ va_D (va_A [(h_t, .inr (1, [.null, .int 0, .null, .null]))] sz) [(h_t, .inr (1, [.ref u8.1, .int (0 : Int32), .ref u8.2.2.2.2.2.2.1, .ref u8.2.2.2.2.2.2.2])), (u8.1, .inr (4, [.ref u8.2.1, .ref u8.2.2.1, .ref u8.2.2.2.1, .ref u8.2.2.2.2.1, .ref u8.2.2.2.2.2.1, .int (0 : Int32), .int (0 : Int32), .int (0 : Int32), .int (0 : Int32), .int (0 : Int32)])), (u8.2.1, .inl (cI, 4, .inl (fun _ => 0))), (u8.2.2.1, .inl (cI, 24, .inl (fun _ => 0))), (u8.2.2.2.1, .inl (cI, 60, .inl (fun _ => 0))), (u8.2.2.2.2.1, .inl (cI, 60, .inl (fun _ => 0))), (u8.2.2.2.2.2.1, .inl (cI, 60, .inl (fun _ => 0))), (u8.2.2.2.2.2.2.1, .inl (cJ, 1625, .inr (.inl y_na_n8))), (u8.2.2.2.2.2.2.2, .inl (cJ, 25, .inr (.inl (fun _ => 0))))]) (va_A [(h_t, .inr (1, [.null, .int 0, .null, .null]))] sz)) 8 1868 (va_A [(h_t, .inr (1, [.null, .int 0, .null, .null]))] sz) := by
  refine Met.ofW (cc := cX1_init) (maxL := 3) (ret := none) (by decide) rfl ?_
  intro p e s m args below meth c s₁ B hml hv
  obtain ⟨hargs, hsz, hP, hK, hN, hD0⟩ := hv
  have hx := B.exec
  have hb := B.bytes
  have hr := B.returns
  have hts := atoms_spec (ws := wsX1_init) B.pre
  have hown : s.vm.findClass RX1 = some m.cls := findClass_of_methodNamed B.named
  have hlocks := B.notSynchronized
  have hin : meth.name = "<init>" := (name_of_methodNamed B.named B.method).1
  subst hsz
  have hD := hD0.self (sz := s.heap.size)
  generalize hAe : va_A [(h_t, .inr (1, [.null, .int 0, .null, .null]))] s.heap.size = A at hD ⊢
  have hA : ∀ q : Nat, s.heap.size ≤ q → A q := fun q h => by rw [← hAe]; exact Or.inr h
  have hS : va_S A s.heap s.heap [] := va_S.rf
  have hP : va_P (dC, dI) vwCl [(h_t, .inr (1, [.null, .int 0, .null, .null]))] s.heap := hP
  have hl := lv_entry [.ref h_t] (n := 3) (Nat.le_of_ble_eq_true rfl)
  rw [show entryFrame m args 3 = entryFrame m ([.ref h_t] : List Value).toArray 3 from by rw [hargs], lg_entry_eq]
  generalize (lg_sl [.ref h_t] ++ List.replicate (3 - (lg_sl [.ref h_t]).length) Slot.unset).toArray = ls at hl ⊢
  have hl : lv_has ls 3 [(0, .ref h_t)] := hl
  generalize hQQ : MQ below (va_Qv (fun (_ : Nat × Nat × Nat × Nat × Nat × Nat × Nat × Nat) => True) (fun (u8 : Nat × Nat × Nat × Nat × Nat × Nat × Nat × Nat) (t : State) => va_P (dC, dI) vwCl [(h_t, .inr (1, [.ref u8.1, .int (0 : Int32), .ref u8.2.2.2.2.2.2.1, .ref u8.2.2.2.2.2.2.2])), (u8.1, .inr (4, [.ref u8.2.1, .ref u8.2.2.1, .ref u8.2.2.2.1, .ref u8.2.2.2.2.1, .ref u8.2.2.2.2.2.1, .int (0 : Int32), .int (0 : Int32), .int (0 : Int32), .int (0 : Int32), .int (0 : Int32)])), (u8.2.1, .inl (cI, 4, .inl (fun _ => 0))), (u8.2.2.1, .inl (cI, 24, .inl (fun _ => 0))), (u8.2.2.2.1, .inl (cI, 60, .inl (fun _ => 0))), (u8.2.2.2.2.1, .inl (cI, 60, .inl (fun _ => 0))), (u8.2.2.2.2.2.1, .inl (cI, 60, .inl (fun _ => 0))), (u8.2.2.2.2.2.2.1, .inl (cJ, 1625, .inr (.inl y_na_n8))), (u8.2.2.2.2.2.2.2, .inl (cJ, 25, .inr (.inl (fun _ => 0))))] t.heap ∧ va_K (dC, dI) vwCl (tyA cI cJ cC cS) t ∧ va_D A [(h_t, .inr (1, [.ref u8.1, .int (0 : Int32), .ref u8.2.2.2.2.2.2.1, .ref u8.2.2.2.2.2.2.2])), (u8.1, .inr (4, [.ref u8.2.1, .ref u8.2.2.1, .ref u8.2.2.2.1, .ref u8.2.2.2.2.1, .ref u8.2.2.2.2.2.1, .int (0 : Int32), .int (0 : Int32), .int (0 : Int32), .int (0 : Int32), .int (0 : Int32)])), (u8.2.1, .inl (cI, 4, .inl (fun _ => 0))), (u8.2.2.1, .inl (cI, 24, .inl (fun _ => 0))), (u8.2.2.2.1, .inl (cI, 60, .inl (fun _ => 0))), (u8.2.2.2.2.1, .inl (cI, 60, .inl (fun _ => 0))), (u8.2.2.2.2.2.1, .inl (cI, 60, .inl (fun _ => 0))), (u8.2.2.2.2.2.2.1, .inl (cJ, 1625, .inr (.inl y_na_n8))), (u8.2.2.2.2.2.2.2, .inl (cJ, 25, .inr (.inl (fun _ => 0))))]) A) args s 8 1868 A = QQ
  obtain ⟨H, hH⟩ : ∃ H : Heap, H = s.heap := ⟨_, rfl⟩
  obtain ⟨locs, hlocs⟩ : ∃ locs : List Loc, locs = [] := ⟨_, rfl⟩
  rw [← hH] at hP
  have hS : va_S A s.heap H locs := by rw [hH, hlocs]; exact hS
  suffices hZ : W p l e (headSpec wsX1_init ({ frames := 3, cells := 8, slots := 1868, locals := 61 } : Room)).room s m args below meth c H locs 0 0 QQ (F0 m 0 ls []) by rw [hH, hlocs] at hZ; exact hZ
  clear hH hlocs
  have hL23 : ∀ (n23 : Nat) , ∀ (q_t_n5 : Nat) (q_t_n5_n6 : Nat) (q_t_n5_n14 : Nat) (q_t_n5_n22 : Nat) (q_t_n5_n30 : Nat) (q_t_n5_n38 : Nat) (q_n8 : Nat) (q_n16 : Nat) (x1 : Int32) (na_n8 : Nat → Int64) (H : Heap) (locs : List Loc) (ls : Array Slot), fNu_init_23 n23 x1 na_n8 = some y_na_n8 → va_P (dC, dI) vwCl [(h_t, .inr (1, [.ref q_t_n5, .int (0 : Int32), .ref q_n8, .ref q_n16])), (q_t_n5, .inr (4, [.ref q_t_n5_n6, .ref q_t_n5_n14, .ref q_t_n5_n22, .ref q_t_n5_n30, .ref q_t_n5_n38, .int (0 : Int32), .int (0 : Int32), .int (0 : Int32), .int (0 : Int32), .int (0 : Int32)])), (q_t_n5_n6, .inl (cI, 4, .inl (fun _ => 0))), (q_t_n5_n14, .inl (cI, 24, .inl (fun _ => 0))), (q_t_n5_n22, .inl (cI, 60, .inl (fun _ => 0))), (q_t_n5_n30, .inl (cI, 60, .inl (fun _ => 0))), (q_t_n5_n38, .inl (cI, 60, .inl (fun _ => 0))), (q_n8, .inl (cJ, 1625, .inr (.inl na_n8))), (q_n16, .inl (cJ, 25, .inr (.inl (fun _ => 0))))] H → va_D A [(h_t, .inr (1, [.ref q_t_n5, .int (0 : Int32), .ref q_n8, .ref q_n16])), (q_t_n5, .inr (4, [.ref q_t_n5_n6, .ref q_t_n5_n14, .ref q_t_n5_n22, .ref q_t_n5_n30, .ref q_t_n5_n38, .int (0 : Int32), .int (0 : Int32), .int (0 : Int32), .int (0 : Int32), .int (0 : Int32)])), (q_t_n5_n6, .inl (cI, 4, .inl (fun _ => 0))), (q_t_n5_n14, .inl (cI, 24, .inl (fun _ => 0))), (q_t_n5_n22, .inl (cI, 60, .inl (fun _ => 0))), (q_t_n5_n30, .inl (cI, 60, .inl (fun _ => 0))), (q_t_n5_n38, .inl (cI, 60, .inl (fun _ => 0))), (q_n8, .inl (cJ, 1625, .inr (.inl na_n8))), (q_n16, .inl (cJ, 25, .inr (.inl (fun _ => 0))))] → va_S A s.heap H locs → lv_has ls 3 [(1, .int x1), (0, .ref h_t)] → W p l e (headSpec wsX1_init ({ frames := 3, cells := 8, slots := 1868, locals := 61 } : Room)).room s m args below meth c H locs 8 1868 QQ (F0 m 23 ls []) := by
    intro n23
    induction n23 with
    | zero =>
      intro q_t_n5 q_t_n5_n6 q_t_n5_n14 q_t_n5_n22 q_t_n5_n30 q_t_n5_n38 q_n8 q_n16 x1 na_n8 H locs ls hres
      rw [fNu_init_23] at hres
      cases hres
    | succ n23 ih23 =>
      have hL30 : ∀ (n30 : Nat) , ∀ (q_t_n5 : Nat) (q_t_n5_n6 : Nat) (q_t_n5_n14 : Nat) (q_t_n5_n22 : Nat) (q_t_n5_n30 : Nat) (q_t_n5_n38 : Nat) (q_n8 : Nat) (q_n16 : Nat) (x1 : Int32) (x2 : Int32) (na_n8 : Nat → Int64) (H : Heap) (locs : List Loc) (ls : Array Slot), fNu_init_30 (fNu_init_23 n23) n30 x1 x2 na_n8 = some y_na_n8 → va_P (dC, dI) vwCl [(h_t, .inr (1, [.ref q_t_n5, .int (0 : Int32), .ref q_n8, .ref q_n16])), (q_t_n5, .inr (4, [.ref q_t_n5_n6, .ref q_t_n5_n14, .ref q_t_n5_n22, .ref q_t_n5_n30, .ref q_t_n5_n38, .int (0 : Int32), .int (0 : Int32), .int (0 : Int32), .int (0 : Int32), .int (0 : Int32)])), (q_t_n5_n6, .inl (cI, 4, .inl (fun _ => 0))), (q_t_n5_n14, .inl (cI, 24, .inl (fun _ => 0))), (q_t_n5_n22, .inl (cI, 60, .inl (fun _ => 0))), (q_t_n5_n30, .inl (cI, 60, .inl (fun _ => 0))), (q_t_n5_n38, .inl (cI, 60, .inl (fun _ => 0))), (q_n8, .inl (cJ, 1625, .inr (.inl na_n8))), (q_n16, .inl (cJ, 25, .inr (.inl (fun _ => 0))))] H → va_D A [(h_t, .inr (1, [.ref q_t_n5, .int (0 : Int32), .ref q_n8, .ref q_n16])), (q_t_n5, .inr (4, [.ref q_t_n5_n6, .ref q_t_n5_n14, .ref q_t_n5_n22, .ref q_t_n5_n30, .ref q_t_n5_n38, .int (0 : Int32), .int (0 : Int32), .int (0 : Int32), .int (0 : Int32), .int (0 : Int32)])), (q_t_n5_n6, .inl (cI, 4, .inl (fun _ => 0))), (q_t_n5_n14, .inl (cI, 24, .inl (fun _ => 0))), (q_t_n5_n22, .inl (cI, 60, .inl (fun _ => 0))), (q_t_n5_n30, .inl (cI, 60, .inl (fun _ => 0))), (q_t_n5_n38, .inl (cI, 60, .inl (fun _ => 0))), (q_n8, .inl (cJ, 1625, .inr (.inl na_n8))), (q_n16, .inl (cJ, 25, .inr (.inl (fun _ => 0))))] → va_S A s.heap H locs → lv_has ls 3 [(2, .int x2), (1, .int x1), (0, .ref h_t)] → W p l e (headSpec wsX1_init ({ frames := 3, cells := 8, slots := 1868, locals := 61 } : Room)).room s m args below meth c H locs 8 1868 QQ (F0 m 30 ls []) := by
        intro n30
        induction n30 with
        | zero =>
          intro q_t_n5 q_t_n5_n6 q_t_n5_n14 q_t_n5_n22 q_t_n5_n30 q_t_n5_n38 q_n8 q_n16 x1 x2 na_n8 H locs ls hres
          rw [fNu_init_30] at hres
          cases hres
        | succ n30 ih30 =>
          intro q_t_n5 q_t_n5_n6 q_t_n5_n14 q_t_n5_n22 q_t_n5_n30 q_t_n5_n38 q_n8 q_n16 x1 x2 na_n8 H locs ls hres hP hD hS hl
          rw [fNu_init_30] at hres
          refine lv_iload_n hx hb dX1_init_30 rfl (lv_at hl 0 rfl) ?_
          refine lv_bipush (v := (25 : Int32)) hx hb dX1_init_31 (by decide) ?_
          refine lv_icmp_ge (tgt := 53) hx hb dX1_init_33 (by decide) (fun c_3 => ?_) (fun c_3 => ?_)
          · have hres := it_of hres c_3
            refine lv_iinc (v := (x1 + 1)) (lv' := [(1, .int (x1 + 1)), (2, .int x2), (0, .ref h_t)]) hx hb dX1_init_53 hl (k := 1) rfl rfl (by decide) rfl (fun ls hl => ?_)
            refine lv_goto (tgt := 23) hx hb dX1_init_56 (by decide) ?_
            exact ih23 q_t_n5 q_t_n5_n6 q_t_n5_n14 q_t_n5_n22 q_t_n5_n30 q_t_n5_n38 q_n8 q_n16 (x1 + 1) na_n8 H locs ls hres hP hD hS (lv_sub hl [0, 2] rfl)
          · have hres := ie_of hres c_3
            refine lv_aload_n hx hb dX1_init_36 rfl (lv_at hl 2 rfl) ?_
            refine lv_iload_n hx hb dX1_init_37 rfl (lv_at hl 1 rfl) ?_
            refine lv_iload_n hx hb dX1_init_38 rfl (lv_at hl 0 rfl) ?_
            refine lv_iload_n hx hb dX1_init_39 rfl (lv_at hl 0 rfl) ?_
            obtain ⟨o4, ho4, hres⟩ := bd_of hres
            have hPc := hP.sub (ws' := []) [] rfl
            have hDc := hD.sub (ws' := []) [] (by decide) rfl
            have hFc := va_free (wc := []) hD hS hA [] rfl
            refine va_calli (va_runSN (As := [.int x1, .int x2, .int x2]) (rest := [.ref h_t]) ⟨hx, hb, hml, hown, hts⟩ (cRN_partIndex l dC dI cI cJ cC cS H.size x1 x2 x2 o4 ho4) ⟨va_cnB 3 hts gX1_init_X10_partIndex_n18 rfl rfl rfl (nwP hN (by decide +kernel : Cond.methodLinkNest "RepeatNests$Numbers" 18 ({ cls := "RepeatNests", name := "partIndex", desc := "(III)I" } : Jvm.MethodName) "RepeatNests" ∈ nwAll)) (hts _ kNu_init_X1_init_6) (by decide +kernel) ⟨Nat.le_of_ble_eq_true rfl, Nat.le_of_ble_eq_true rfl⟩, hts _ kNu_init_X1_init_7, trivial⟩ ⟨fun a U g mk q => by obtain ⟨q0, q1, qP, qK, qN, qD⟩ := q; exact ⟨q0, q1, qP, va_K.moved (u := U) (U := U.calling g mk a) (Vm.Alike.refl U.vm) qK, nwS (u := U) (U := U.calling g mk a) rfl qN, qD⟩, fun U hU hW => ⟨rfl, by rw [hU], by rw [hU]; exact hPc, va_K.moved hW.alike hK, nwW hW hN, hDc.weaken (fun _ _ _ _ => trivial)⟩⟩ rfl rfl hl.1 rfl (lv_room (Nat.le_of_ble_eq_true rfl)) dX1_init_40 ⟨Nat.le_of_ble_eq_true rfl, Nat.le_of_ble_eq_true rfl⟩) hS (fun q _ h => hFc q h) hFc (fun r9 u9 t H1 locs ht hvm hw hB hz1 hk1 hS => ?_)
            have hw := hw.symm
            subst hw
            obtain ⟨hP1, hK1, hD1⟩ := hB
            rw [ht] at hP1
            obtain ⟨hP, hD⟩ := va_join (wr := [(h_t, .inr (1, [.ref q_t_n5, .int (0 : Int32), .ref q_n8, .ref q_n16])), (q_t_n5, .inr (4, [.ref q_t_n5_n6, .ref q_t_n5_n14, .ref q_t_n5_n22, .ref q_t_n5_n30, .ref q_t_n5_n38, .int (0 : Int32), .int (0 : Int32), .int (0 : Int32), .int (0 : Int32), .int (0 : Int32)])), (q_t_n5_n6, .inl (cI, 4, .inl (fun _ => 0))), (q_t_n5_n14, .inl (cI, 24, .inl (fun _ => 0))), (q_t_n5_n22, .inl (cI, 60, .inl (fun _ => 0))), (q_t_n5_n30, .inl (cI, 60, .inl (fun _ => 0))), (q_t_n5_n38, .inl (cI, 60, .inl (fun _ => 0))), (q_n8, .inl (cJ, 1625, .inr (.inl na_n8))), (q_n16, .inl (cJ, 25, .inr (.inl (fun _ => 0))))]) (w1 := []) hP hD [] [0, 1, 2, 3, 4, 5, 6, 7, 8] rfl rfl (by decide) (by decide) hk1 hFc hP1 hD1
            generalize H1 = H at hP hS ⊢
            have hP : va_P (dC, dI) vwCl [(h_t, .inr (1, [.ref q_t_n5, .int (0 : Int32), .ref q_n8, .ref q_n16])), (q_t_n5, .inr (4, [.ref q_t_n5_n6, .ref q_t_n5_n14, .ref q_t_n5_n22, .ref q_t_n5_n30, .ref q_t_n5_n38, .int (0 : Int32), .int (0 : Int32), .int (0 : Int32), .int (0 : Int32), .int (0 : Int32)])), (q_t_n5_n6, .inl (cI, 4, .inl (fun _ => 0))), (q_t_n5_n14, .inl (cI, 24, .inl (fun _ => 0))), (q_t_n5_n22, .inl (cI, 60, .inl (fun _ => 0))), (q_t_n5_n30, .inl (cI, 60, .inl (fun _ => 0))), (q_t_n5_n38, .inl (cI, 60, .inl (fun _ => 0))), (q_n8, .inl (cJ, 1625, .inr (.inl na_n8))), (q_n16, .inl (cJ, 25, .inr (.inl (fun _ => 0))))] H := hP
            have hD : va_D A [(h_t, .inr (1, [.ref q_t_n5, .int (0 : Int32), .ref q_n8, .ref q_n16])), (q_t_n5, .inr (4, [.ref q_t_n5_n6, .ref q_t_n5_n14, .ref q_t_n5_n22, .ref q_t_n5_n30, .ref q_t_n5_n38, .int (0 : Int32), .int (0 : Int32), .int (0 : Int32), .int (0 : Int32), .int (0 : Int32)])), (q_t_n5_n6, .inl (cI, 4, .inl (fun _ => 0))), (q_t_n5_n14, .inl (cI, 24, .inl (fun _ => 0))), (q_t_n5_n22, .inl (cI, 60, .inl (fun _ => 0))), (q_t_n5_n30, .inl (cI, 60, .inl (fun _ => 0))), (q_t_n5_n38, .inl (cI, 60, .inl (fun _ => 0))), (q_n8, .inl (cJ, 1625, .inr (.inl na_n8))), (q_n16, .inl (cJ, 25, .inr (.inl (fun _ => 0))))] := hD
            refine lv_lconst (v := (1 : Int64)) hx hb dX1_init_43 (by decide) ?_
            obtain ⟨o5, ho5, hres⟩ := bd_of hres
            have hPc := hP.sub (ws' := [(h_t, .inr (1, [.ref q_t_n5, .int (0 : Int32), .ref q_n8, .ref q_n16])), (q_n8, .inl (cJ, 1625, .inr (.inl na_n8)))]) [0, 7] rfl
            have hDc := hD.sub (ws' := [(h_t, .inr (1, [.ref q_t_n5, .int (0 : Int32), .ref q_n8, .ref q_n16])), (q_n8, .inl (cJ, 1625, .inr (.inl na_n8)))]) [0, 7] (by decide) rfl
            have hFc := va_free (wc := [(h_t, .inr (1, [.ref q_t_n5, .int (0 : Int32), .ref q_n8, .ref q_n16])), (q_n8, .inl (cJ, 1625, .inr (.inl na_n8)))]) hD hS hA [0, 7] rfl
            refine va_callv (va_runV (As := [.int o4, .long (1 : Int64)]) (rest := []) ⟨hx, hb, hml, hown, hts⟩ (cNu_put l dC dI cI cJ cC cS h_t q_t_n5 q_n8 q_n16 H.size (0 : Int32) na_n8 o4 (1 : Int64) o5 ho5) (cwV 2 hts gX1_init_X1_put rfl rfl rfl (by decide +kernel) ⟨Nat.le_of_ble_eq_true rfl, Nat.le_of_ble_eq_true rfl⟩) ⟨fun a U g mk q => by obtain ⟨q0, q1, qP, qK, qN, qD⟩ := q; exact ⟨q0, q1, qP, va_K.moved (u := U) (U := U.calling g mk a) (Vm.Alike.refl U.vm) qK, nwS (u := U) (U := U.calling g mk a) rfl qN, qD⟩, va_recv hK hPc (ci := 1) (q0 := 0) rfl rfl, fun U hU hW => ⟨rfl, by rw [hU], by rw [hU]; exact hPc, va_K.moved hW.alike hK, nwW hW hN, hDc.weaken (fun _ _ _ _ => trivial)⟩⟩ rfl rfl hl.1 rfl (lv_room (Nat.le_of_ble_eq_true rfl)) dX1_init_44 ⟨Nat.le_of_ble_eq_true rfl, Nat.le_of_ble_eq_true rfl⟩) hS (fun q _ h => hFc q h) hFc (fun u9 t H1 locs ht hvm hw hB hz1 hk1 hS => ?_)
            obtain ⟨hP1, hK1, hD1⟩ := hB
            rw [ht] at hP1
            obtain ⟨hP, hD⟩ := va_join (wr := [(q_t_n5, .inr (4, [.ref q_t_n5_n6, .ref q_t_n5_n14, .ref q_t_n5_n22, .ref q_t_n5_n30, .ref q_t_n5_n38, .int (0 : Int32), .int (0 : Int32), .int (0 : Int32), .int (0 : Int32), .int (0 : Int32)])), (q_t_n5_n6, .inl (cI, 4, .inl (fun _ => 0))), (q_t_n5_n14, .inl (cI, 24, .inl (fun _ => 0))), (q_t_n5_n22, .inl (cI, 60, .inl (fun _ => 0))), (q_t_n5_n30, .inl (cI, 60, .inl (fun _ => 0))), (q_t_n5_n38, .inl (cI, 60, .inl (fun _ => 0))), (q_n16, .inl (cJ, 25, .inr (.inl (fun _ => 0))))]) (w1 := [(h_t, .inr (1, [.ref q_t_n5, .int (0 : Int32), .ref q_n8, .ref q_n16])), (q_n8, .inl (cJ, 1625, .inr (.inl o5)))]) hP hD [0, 7] [1, 2, 3, 4, 5, 6, 8] rfl rfl (by decide) (by decide) hk1 hFc hP1 hD1
            generalize H1 = H at hP hS ⊢
            have hP : va_P (dC, dI) vwCl [(q_t_n5, .inr (4, [.ref q_t_n5_n6, .ref q_t_n5_n14, .ref q_t_n5_n22, .ref q_t_n5_n30, .ref q_t_n5_n38, .int (0 : Int32), .int (0 : Int32), .int (0 : Int32), .int (0 : Int32), .int (0 : Int32)])), (q_t_n5_n6, .inl (cI, 4, .inl (fun _ => 0))), (q_t_n5_n14, .inl (cI, 24, .inl (fun _ => 0))), (q_t_n5_n22, .inl (cI, 60, .inl (fun _ => 0))), (q_t_n5_n30, .inl (cI, 60, .inl (fun _ => 0))), (q_t_n5_n38, .inl (cI, 60, .inl (fun _ => 0))), (q_n16, .inl (cJ, 25, .inr (.inl (fun _ => 0)))), (h_t, .inr (1, [.ref q_t_n5, .int (0 : Int32), .ref q_n8, .ref q_n16])), (q_n8, .inl (cJ, 1625, .inr (.inl o5)))] H := hP
            have hD : va_D A [(q_t_n5, .inr (4, [.ref q_t_n5_n6, .ref q_t_n5_n14, .ref q_t_n5_n22, .ref q_t_n5_n30, .ref q_t_n5_n38, .int (0 : Int32), .int (0 : Int32), .int (0 : Int32), .int (0 : Int32), .int (0 : Int32)])), (q_t_n5_n6, .inl (cI, 4, .inl (fun _ => 0))), (q_t_n5_n14, .inl (cI, 24, .inl (fun _ => 0))), (q_t_n5_n22, .inl (cI, 60, .inl (fun _ => 0))), (q_t_n5_n30, .inl (cI, 60, .inl (fun _ => 0))), (q_t_n5_n38, .inl (cI, 60, .inl (fun _ => 0))), (q_n16, .inl (cJ, 25, .inr (.inl (fun _ => 0)))), (h_t, .inr (1, [.ref q_t_n5, .int (0 : Int32), .ref q_n8, .ref q_n16])), (q_n8, .inl (cJ, 1625, .inr (.inl o5)))] := hD
            refine lv_iinc (v := (x2 + 1)) (lv' := [(2, .int (x2 + 1)), (1, .int x1), (0, .ref h_t)]) hx hb dX1_init_47 hl (k := 0) rfl rfl (by decide) rfl (fun ls hl => ?_)
            refine lv_goto (tgt := 30) hx hb dX1_init_50 (by decide) ?_
            exact ih30 q_t_n5 q_t_n5_n6 q_t_n5_n14 q_t_n5_n22 q_t_n5_n30 q_t_n5_n38 q_n8 q_n16 x1 (x2 + 1) o5 H locs ls hres (hP.sub [7, 0, 1, 2, 3, 4, 5, 8, 6] rfl) (hD.sub [7, 0, 1, 2, 3, 4, 5, 8, 6] (by decide) rfl) hS (lv_sub hl [0, 1, 2] rfl)
      intro q_t_n5 q_t_n5_n6 q_t_n5_n14 q_t_n5_n22 q_t_n5_n30 q_t_n5_n38 q_n8 q_n16 x1 na_n8 H locs ls hres hP hD hS hl
      rw [fNu_init_23] at hres
      refine lv_iload_n hx hb dX1_init_23 rfl (lv_at hl 0 rfl) ?_
      refine lv_iconst (v := (5 : Int32)) hx hb dX1_init_24 (by decide) ?_
      refine lv_icmp_ge (tgt := 59) hx hb dX1_init_25 (by decide) (fun c_2 => ?_) (fun c_2 => ?_)
      · have hres := it_of hres c_2
        refine W.widen (k := 8) (n := 1868) (Nat.le_of_ble_eq_true rfl) (Nat.le_of_ble_eq_true rfl) ?_
        have e9_0 := Option.some.inj hres
        subst e9_0
        rw [← hQQ]
        exact W.vret hx hb hr (fun t ht hW => ⟨⟨(q_t_n5, q_t_n5_n6, q_t_n5_n14, q_t_n5_n22, q_t_n5_n30, q_t_n5_n38, q_n8, q_n16), rfl, trivial, by rw [ht]; exact hP, va_K.moved hW.alike hK, hD⟩, hS.F ht⟩) hS.2.2 dX1_init_59
      · have hres := ie_of hres c_2
        refine lv_iconst (v := (0 : Int32)) hx hb dX1_init_28 (by decide) ?_
        refine lv_istore_n (lv' := [(2, .int (0 : Int32)), (1, .int x1), (0, .ref h_t)]) hx hb dX1_init_29 rfl hl (by decide) rfl (fun ls hl => ?_)
        exact hL30 FU q_t_n5 q_t_n5_n6 q_t_n5_n14 q_t_n5_n22 q_t_n5_n30 q_t_n5_n38 q_n8 q_n16 x1 (0 : Int32) na_n8 H locs ls hres hP hD hS (lv_sub hl [0, 1, 2] rfl)
  rw [fNu_init] at hres
  refine lv_aload_n hx hb dX1_init_0 rfl (lv_at hl 0 rfl) ?_
  obtain ⟨o1, ho1, hres⟩ := bd_of hres
  have hPc := hP.sub (ws' := [(h_t, .inr (1, [.null, .int 0, .null, .null]))]) [0] rfl
  have hDc := hD.sub (ws' := [(h_t, .inr (1, [.null, .int 0, .null, .null]))]) [0] (by decide) rfl
  have hFc := va_free (wc := [(h_t, .inr (1, [.null, .int 0, .null, .null]))]) hD hS hA [0] rfl
  refine va_callv (va_runIN (As := []) (rest := []) ⟨hx, hb, hml, hown, hts⟩ (cPtNu_init l dC dI cI cJ cC cS h_t H.size ho1) ⟨va_cnB 0 hts gX1_init_X2_init_n3 rfl rfl rfl (nwP hN (by decide +kernel : Cond.methodLinkNest "RepeatNests$Numbers" 3 ({ cls := "RepeatNests$Parts", name := "<init>", desc := "()V" } : Jvm.MethodName) "RepeatNests" ∈ nwAll)) (hts _ kNu_init_X1_init_0) (by decide +kernel) ⟨Nat.le_of_ble_eq_true rfl, Nat.le_of_ble_eq_true rfl⟩, rfl, hts _ kNu_init_X1_init_1⟩ ⟨fun a U g mk q => by obtain ⟨q0, q1, qP, qK, qN, qD⟩ := q; exact ⟨q0, q1, qP, va_K.moved (u := U) (U := U.calling g mk a) (Vm.Alike.refl U.vm) qK, nwS (u := U) (U := U.calling g mk a) rfl qN, qD⟩, fun U hU hW => ⟨rfl, by rw [hU], by rw [hU]; exact hPc, va_K.moved hW.alike hK, nwW hW hN, hDc.weaken (fun _ _ _ _ => trivial)⟩⟩ rfl rfl hl.1 rfl (lv_room (Nat.le_of_ble_eq_true rfl)) dX1_init_1 ⟨Nat.le_of_ble_eq_true rfl, Nat.le_of_ble_eq_true rfl⟩) hS (fun q _ h => hFc q h) hFc (fun u9 t H1 locs ht hvm hw hB hz1 hk1 hS => ?_)
  obtain ⟨q_t_n5, q_t_n5_n6, q_t_n5_n14, q_t_n5_n22, q_t_n5_n30, q_t_n5_n38⟩ := u9
  obtain ⟨hP1, hK1, hD1⟩ := hB
  rw [ht] at hP1
  obtain ⟨hP, hD⟩ := va_join (wr := []) (w1 := [(h_t, .inr (1, [.ref q_t_n5, .int (0 : Int32), .null, .null])), (q_t_n5, .inr (4, [.ref q_t_n5_n6, .ref q_t_n5_n14, .ref q_t_n5_n22, .ref q_t_n5_n30, .ref q_t_n5_n38, .int (0 : Int32), .int (0 : Int32), .int (0 : Int32), .int (0 : Int32), .int (0 : Int32)])), (q_t_n5_n6, .inl (cI, 4, .inl (fun _ => 0))), (q_t_n5_n14, .inl (cI, 24, .inl (fun _ => 0))), (q_t_n5_n22, .inl (cI, 60, .inl (fun _ => 0))), (q_t_n5_n30, .inl (cI, 60, .inl (fun _ => 0))), (q_t_n5_n38, .inl (cI, 60, .inl (fun _ => 0)))]) hP hD [0] [] rfl rfl (by decide) (by decide) hk1 hFc hP1 hD1
  generalize H1 = H at hP hS ⊢
  have hP : va_P (dC, dI) vwCl [(h_t, .inr (1, [.ref q_t_n5, .int (0 : Int32), .null, .null])), (q_t_n5, .inr (4, [.ref q_t_n5_n6, .ref q_t_n5_n14, .ref q_t_n5_n22, .ref q_t_n5_n30, .ref q_t_n5_n38, .int (0 : Int32), .int (0 : Int32), .int (0 : Int32), .int (0 : Int32), .int (0 : Int32)])), (q_t_n5_n6, .inl (cI, 4, .inl (fun _ => 0))), (q_t_n5_n14, .inl (cI, 24, .inl (fun _ => 0))), (q_t_n5_n22, .inl (cI, 60, .inl (fun _ => 0))), (q_t_n5_n30, .inl (cI, 60, .inl (fun _ => 0))), (q_t_n5_n38, .inl (cI, 60, .inl (fun _ => 0)))] H := hP
  have hD : va_D A [(h_t, .inr (1, [.ref q_t_n5, .int (0 : Int32), .null, .null])), (q_t_n5, .inr (4, [.ref q_t_n5_n6, .ref q_t_n5_n14, .ref q_t_n5_n22, .ref q_t_n5_n30, .ref q_t_n5_n38, .int (0 : Int32), .int (0 : Int32), .int (0 : Int32), .int (0 : Int32), .int (0 : Int32)])), (q_t_n5_n6, .inl (cI, 4, .inl (fun _ => 0))), (q_t_n5_n14, .inl (cI, 24, .inl (fun _ => 0))), (q_t_n5_n22, .inl (cI, 60, .inl (fun _ => 0))), (q_t_n5_n30, .inl (cI, 60, .inl (fun _ => 0))), (q_t_n5_n38, .inl (cI, 60, .inl (fun _ => 0)))] := hD
  refine W.widen (k := 6) (n := 218) (Nat.le_of_ble_eq_true rfl) (Nat.le_of_ble_eq_true rfl) ?_
  refine lv_aload_n hx hb dX1_init_4 rfl (lv_at hl 0 rfl) ?_
  refine lv_sipush (v := (1625 : Int32)) hx hb dX1_init_5 (by decide) ?_
  refine va_newa hx hb (atype := .long) (hts _ kNu_init_X1_init_2) (ty := .long) rfl hK hP hD hS hA (N' := 1625) (a0 := (1625, .inr (.inl (fun _ => 0)))) (fun cA => rfl) (by decide) (by decide) (Nat.le_of_ble_eq_true rfl) (Nat.le_of_ble_eq_true rfl) (Nat.le_of_ble_eq_true rfl) dX1_init_8 (fun q_n8 cA H hK9 hP hD hS => ?_)
  have eA := newA_J hK9
  subst eA
  clear hK9
  have hP : va_P (dC, dI) vwCl [(h_t, .inr (1, [.ref q_t_n5, .int (0 : Int32), .null, .null])), (q_t_n5, .inr (4, [.ref q_t_n5_n6, .ref q_t_n5_n14, .ref q_t_n5_n22, .ref q_t_n5_n30, .ref q_t_n5_n38, .int (0 : Int32), .int (0 : Int32), .int (0 : Int32), .int (0 : Int32), .int (0 : Int32)])), (q_t_n5_n6, .inl (cI, 4, .inl (fun _ => 0))), (q_t_n5_n14, .inl (cI, 24, .inl (fun _ => 0))), (q_t_n5_n22, .inl (cI, 60, .inl (fun _ => 0))), (q_t_n5_n30, .inl (cI, 60, .inl (fun _ => 0))), (q_t_n5_n38, .inl (cI, 60, .inl (fun _ => 0))), (q_n8, .inl (cJ, 1625, .inr (.inl (fun _ => 0))))] H := hP
  have hD : va_D A [(h_t, .inr (1, [.ref q_t_n5, .int (0 : Int32), .null, .null])), (q_t_n5, .inr (4, [.ref q_t_n5_n6, .ref q_t_n5_n14, .ref q_t_n5_n22, .ref q_t_n5_n30, .ref q_t_n5_n38, .int (0 : Int32), .int (0 : Int32), .int (0 : Int32), .int (0 : Int32), .int (0 : Int32)])), (q_t_n5_n6, .inl (cI, 4, .inl (fun _ => 0))), (q_t_n5_n14, .inl (cI, 24, .inl (fun _ => 0))), (q_t_n5_n22, .inl (cI, 60, .inl (fun _ => 0))), (q_t_n5_n30, .inl (cI, 60, .inl (fun _ => 0))), (q_t_n5_n38, .inl (cI, 60, .inl (fun _ => 0))), (q_n8, .inl (cJ, 1625, .inr (.inl (fun _ => 0))))] := hD
  refine W.widen (k := 7) (n := 1843) (Nat.le_of_ble_eq_true rfl) (Nat.le_of_ble_eq_true rfl) ?_
  refine va_putF (D := (dC, dI)) (ci := 1) (v := .ref q_n8) (ty := .array .long) (C := RX1) (T := TX1) (N := 4) hx hb hts iNu_init_X1_init_4 tyX1 tyX1_ok nmX1 hown hK hP hD hS 0 rfl rfl 2 (by decide) (hts _ kNu_init_X1_init_3) (fun _ h9 => h9) rfl hin rfl (by decide +kernel) rfl rfl (Nat.le_of_ble_eq_true rfl) dX1_init_10 (fun H locs hP hD hS => ?_)
  have hP : va_P (dC, dI) vwCl [(h_t, .inr (1, [.ref q_t_n5, .int (0 : Int32), .ref q_n8, .null])), (q_t_n5, .inr (4, [.ref q_t_n5_n6, .ref q_t_n5_n14, .ref q_t_n5_n22, .ref q_t_n5_n30, .ref q_t_n5_n38, .int (0 : Int32), .int (0 : Int32), .int (0 : Int32), .int (0 : Int32), .int (0 : Int32)])), (q_t_n5_n6, .inl (cI, 4, .inl (fun _ => 0))), (q_t_n5_n14, .inl (cI, 24, .inl (fun _ => 0))), (q_t_n5_n22, .inl (cI, 60, .inl (fun _ => 0))), (q_t_n5_n30, .inl (cI, 60, .inl (fun _ => 0))), (q_t_n5_n38, .inl (cI, 60, .inl (fun _ => 0))), (q_n8, .inl (cJ, 1625, .inr (.inl (fun _ => 0))))] H := hP
  have hD : va_D A [(h_t, .inr (1, [.ref q_t_n5, .int (0 : Int32), .ref q_n8, .null])), (q_t_n5, .inr (4, [.ref q_t_n5_n6, .ref q_t_n5_n14, .ref q_t_n5_n22, .ref q_t_n5_n30, .ref q_t_n5_n38, .int (0 : Int32), .int (0 : Int32), .int (0 : Int32), .int (0 : Int32), .int (0 : Int32)])), (q_t_n5_n6, .inl (cI, 4, .inl (fun _ => 0))), (q_t_n5_n14, .inl (cI, 24, .inl (fun _ => 0))), (q_t_n5_n22, .inl (cI, 60, .inl (fun _ => 0))), (q_t_n5_n30, .inl (cI, 60, .inl (fun _ => 0))), (q_t_n5_n38, .inl (cI, 60, .inl (fun _ => 0))), (q_n8, .inl (cJ, 1625, .inr (.inl (fun _ => 0))))] := hD
  refine lv_aload_n hx hb dX1_init_13 rfl (lv_at hl 0 rfl) ?_
  refine lv_bipush (v := (25 : Int32)) hx hb dX1_init_14 (by decide) ?_
  refine va_newa hx hb (atype := .long) (hts _ kNu_init_X1_init_2) (ty := .long) rfl hK hP hD hS hA (N' := 25) (a0 := (25, .inr (.inl (fun _ => 0)))) (fun cA => rfl) (by decide) (by decide) (Nat.le_of_ble_eq_true rfl) (Nat.le_of_ble_eq_true rfl) (Nat.le_of_ble_eq_true rfl) dX1_init_16 (fun q_n16 cA H hK9 hP hD hS => ?_)
  have eA := newA_J hK9
  subst eA
  clear hK9
  have hP : va_P (dC, dI) vwCl [(h_t, .inr (1, [.ref q_t_n5, .int (0 : Int32), .ref q_n8, .null])), (q_t_n5, .inr (4, [.ref q_t_n5_n6, .ref q_t_n5_n14, .ref q_t_n5_n22, .ref q_t_n5_n30, .ref q_t_n5_n38, .int (0 : Int32), .int (0 : Int32), .int (0 : Int32), .int (0 : Int32), .int (0 : Int32)])), (q_t_n5_n6, .inl (cI, 4, .inl (fun _ => 0))), (q_t_n5_n14, .inl (cI, 24, .inl (fun _ => 0))), (q_t_n5_n22, .inl (cI, 60, .inl (fun _ => 0))), (q_t_n5_n30, .inl (cI, 60, .inl (fun _ => 0))), (q_t_n5_n38, .inl (cI, 60, .inl (fun _ => 0))), (q_n8, .inl (cJ, 1625, .inr (.inl (fun _ => 0)))), (q_n16, .inl (cJ, 25, .inr (.inl (fun _ => 0))))] H := hP
  have hD : va_D A [(h_t, .inr (1, [.ref q_t_n5, .int (0 : Int32), .ref q_n8, .null])), (q_t_n5, .inr (4, [.ref q_t_n5_n6, .ref q_t_n5_n14, .ref q_t_n5_n22, .ref q_t_n5_n30, .ref q_t_n5_n38, .int (0 : Int32), .int (0 : Int32), .int (0 : Int32), .int (0 : Int32), .int (0 : Int32)])), (q_t_n5_n6, .inl (cI, 4, .inl (fun _ => 0))), (q_t_n5_n14, .inl (cI, 24, .inl (fun _ => 0))), (q_t_n5_n22, .inl (cI, 60, .inl (fun _ => 0))), (q_t_n5_n30, .inl (cI, 60, .inl (fun _ => 0))), (q_t_n5_n38, .inl (cI, 60, .inl (fun _ => 0))), (q_n8, .inl (cJ, 1625, .inr (.inl (fun _ => 0)))), (q_n16, .inl (cJ, 25, .inr (.inl (fun _ => 0))))] := hD
  refine W.widen (k := 8) (n := 1868) (Nat.le_of_ble_eq_true rfl) (Nat.le_of_ble_eq_true rfl) ?_
  refine va_putF (D := (dC, dI)) (ci := 1) (v := .ref q_n16) (ty := .array .long) (C := RX1) (T := TX1) (N := 4) hx hb hts iNu_init_X1_init_4 tyX1 tyX1_ok nmX1 hown hK hP hD hS 0 rfl rfl 3 (by decide) (hts _ kNu_init_X1_init_5) (fun _ h9 => h9) rfl hin rfl (by decide +kernel) rfl rfl (Nat.le_of_ble_eq_true rfl) dX1_init_18 (fun H locs hP hD hS => ?_)
  have hP : va_P (dC, dI) vwCl [(h_t, .inr (1, [.ref q_t_n5, .int (0 : Int32), .ref q_n8, .ref q_n16])), (q_t_n5, .inr (4, [.ref q_t_n5_n6, .ref q_t_n5_n14, .ref q_t_n5_n22, .ref q_t_n5_n30, .ref q_t_n5_n38, .int (0 : Int32), .int (0 : Int32), .int (0 : Int32), .int (0 : Int32), .int (0 : Int32)])), (q_t_n5_n6, .inl (cI, 4, .inl (fun _ => 0))), (q_t_n5_n14, .inl (cI, 24, .inl (fun _ => 0))), (q_t_n5_n22, .inl (cI, 60, .inl (fun _ => 0))), (q_t_n5_n30, .inl (cI, 60, .inl (fun _ => 0))), (q_t_n5_n38, .inl (cI, 60, .inl (fun _ => 0))), (q_n8, .inl (cJ, 1625, .inr (.inl (fun _ => 0)))), (q_n16, .inl (cJ, 25, .inr (.inl (fun _ => 0))))] H := hP
  have hD : va_D A [(h_t, .inr (1, [.ref q_t_n5, .int (0 : Int32), .ref q_n8, .ref q_n16])), (q_t_n5, .inr (4, [.ref q_t_n5_n6, .ref q_t_n5_n14, .ref q_t_n5_n22, .ref q_t_n5_n30, .ref q_t_n5_n38, .int (0 : Int32), .int (0 : Int32), .int (0 : Int32), .int (0 : Int32), .int (0 : Int32)])), (q_t_n5_n6, .inl (cI, 4, .inl (fun _ => 0))), (q_t_n5_n14, .inl (cI, 24, .inl (fun _ => 0))), (q_t_n5_n22, .inl (cI, 60, .inl (fun _ => 0))), (q_t_n5_n30, .inl (cI, 60, .inl (fun _ => 0))), (q_t_n5_n38, .inl (cI, 60, .inl (fun _ => 0))), (q_n8, .inl (cJ, 1625, .inr (.inl (fun _ => 0)))), (q_n16, .inl (cJ, 25, .inr (.inl (fun _ => 0))))] := hD
  refine lv_iconst (v := (0 : Int32)) hx hb dX1_init_21 (by decide) ?_
  refine lv_istore_n (lv' := [(1, .int (0 : Int32)), (0, .ref h_t)]) hx hb dX1_init_22 rfl hl (by decide) rfl (fun ls hl => ?_)
  exact hL23 FU q_t_n5 q_t_n5_n6 q_t_n5_n14 q_t_n5_n22 q_t_n5_n30 q_t_n5_n38 q_n8 q_n16 (0 : Int32) (fun _ => 0) H locs ls hres hP hD hS (lv_sub hl [0, 1] rfl)

-- Nu_number
theorem kNu_number_X1_number_0 : Cond.initialized yX10_partIndex.cls ∈ wsX1_number := by decide +kernel
theorem kNu_number_X1_number_1 : Cond.static yX10_partIndex ∈ wsX1_number := by decide +kernel
theorem kNu_number_X1_number_2 : Cond.fieldLink RX1 9 "RepeatNests$Numbers" "table" "[J" ∈ wsX1_number := by decide +kernel
theorem iNu_number_X1_number_3 : ∀ w ∈ wsX10, w ∈ wsX1_number := by decide +kernel
set_option maxHeartbeats 4000000 in
set_option maxRecDepth 100000 in
theorem cNu_number (l : Launch) (dC : Nat → ClassId) (dI : Nat → Nat → Nat) (cI cJ cC cS : ClassId) (h_t h_t_repeats h_t_table h_t_items : Nat) (sz : Nat) (t_fresh : Int32) (t_table : Nat → Int64) (x1 : Int32) (x2 : Int32) (x3 : Int32) (r : Int64) (hres : fNu_number t_table x1 x2 x3 = some r) :
    Met l yX1_number wsX1_number ({ frames := 1, cells := 0, slots := 0, locals := 22 } : Room) (va_Pc [.ref h_t, .int x1, .int x2, .int x3] (fun (U : State) => U.heap.size = sz ∧ va_P (dC, dI) vwCl [(h_t, .inr (1, [.ref h_t_repeats, .int t_fresh, .ref h_t_table, .ref h_t_items])), (h_t_table, .inl (cJ, 1625, .inr (.inl t_table)))] U.heap ∧ va_K (dC, dI) vwCl (tyA cI cJ cC cS) U ∧ nwN U ∧ va_D (fun _ => True) [(h_t, .inr (1, [.ref h_t_repeats, .int t_fresh, .ref h_t_table, .ref h_t_items])), (h_t_table, .inl (cJ, 1625, .inr (.inl t_table)))])) (va_Ql (fun (r9 : Int64) (_ : Unit) => r9 = r) (fun (_ : Unit) (t : State) => va_P (dC, dI) vwCl [(h_t, .inr (1, [.ref h_t_repeats, .int t_fresh, .ref h_t_table, .ref h_t_items])), (h_t_table, .inl (cJ, 1625, .inr (.inl t_table)))] t.heap ∧ va_K (dC, dI) vwCl (tyA cI cJ cC cS) t ∧ va_D (va_A [(h_t, .inr (1, [.ref h_t_repeats, .int t_fresh, .ref h_t_table, .ref h_t_items])), (h_t_table, .inl (cJ, 1625, .inr (.inl t_table)))] sz) [(h_t, .inr (1, [.ref h_t_repeats, .int t_fresh, .ref h_t_table, .ref h_t_items])), (h_t_table, .inl (cJ, 1625, .inr (.inl t_table)))]) (va_A [(h_t, .inr (1, [.ref h_t_repeats, .int t_fresh, .ref h_t_table, .ref h_t_items])), (h_t_table, .inl (cJ, 1625, .inr (.inl t_table)))] sz)) 0 0 (va_A [(h_t, .inr (1, [.ref h_t_repeats, .int t_fresh, .ref h_t_table, .ref h_t_items])), (h_t_table, .inl (cJ, 1625, .inr (.inl t_table)))] sz) := by
  refine Met.ofW (cc := cX1_number) (maxL := 5) (ret := (some .long)) (by decide) rfl ?_
  intro p e s m args below meth c s₁ B hml hv
  obtain ⟨hargs, hsz, hP, hK, hN, hD0⟩ := hv
  have hx := B.exec
  have hb := B.bytes
  have hr := B.returns
  have hts := atoms_spec (ws := wsX1_number) B.pre
  have hown : s.vm.findClass RX1 = some m.cls := findClass_of_methodNamed B.named
  have hlocks := B.notSynchronized
  subst hsz
  have hD := hD0.self (sz := s.heap.size)
  generalize hAe : va_A [(h_t, .inr (1, [.ref h_t_repeats, .int t_fresh, .ref h_t_table, .ref h_t_items])), (h_t_table, .inl (cJ, 1625, .inr (.inl t_table)))] s.heap.size = A at hD ⊢
  have hA : ∀ q : Nat, s.heap.size ≤ q → A q := fun q h => by rw [← hAe]; exact Or.inr h
  have hS : va_S A s.heap s.heap [] := va_S.rf
  have hP : va_P (dC, dI) vwCl [(h_t, .inr (1, [.ref h_t_repeats, .int t_fresh, .ref h_t_table, .ref h_t_items])), (h_t_table, .inl (cJ, 1625, .inr (.inl t_table)))] s.heap := hP
  have hl := lv_entry [.ref h_t, .int x1, .int x2, .int x3] (n := 5) (Nat.le_of_ble_eq_true rfl)
  rw [show entryFrame m args 5 = entryFrame m ([.ref h_t, .int x1, .int x2, .int x3] : List Value).toArray 5 from by rw [hargs], lg_entry_eq]
  generalize (lg_sl [.ref h_t, .int x1, .int x2, .int x3] ++ List.replicate (5 - (lg_sl [.ref h_t, .int x1, .int x2, .int x3]).length) Slot.unset).toArray = ls at hl ⊢
  have hl : lv_has ls 5 [(0, .ref h_t), (1, .int x1), (2, .int x2), (3, .int x3)] := hl
  generalize hQQ : MQ below (va_Ql (fun (r9 : Int64) (_ : Unit) => r9 = r) (fun (_ : Unit) (t : State) => va_P (dC, dI) vwCl [(h_t, .inr (1, [.ref h_t_repeats, .int t_fresh, .ref h_t_table, .ref h_t_items])), (h_t_table, .inl (cJ, 1625, .inr (.inl t_table)))] t.heap ∧ va_K (dC, dI) vwCl (tyA cI cJ cC cS) t ∧ va_D A [(h_t, .inr (1, [.ref h_t_repeats, .int t_fresh, .ref h_t_table, .ref h_t_items])), (h_t_table, .inl (cJ, 1625, .inr (.inl t_table)))]) A) args s 0 0 A = QQ
  obtain ⟨H, hH⟩ : ∃ H : Heap, H = s.heap := ⟨_, rfl⟩
  obtain ⟨locs, hlocs⟩ : ∃ locs : List Loc, locs = [] := ⟨_, rfl⟩
  rw [← hH] at hP
  have hS : va_S A s.heap H locs := by rw [hH, hlocs]; exact hS
  suffices hZ : W p l e (headSpec wsX1_number ({ frames := 1, cells := 0, slots := 0, locals := 22 } : Room)).room s m args below meth c H locs 0 0 QQ (F0 m 0 ls []) by rw [hH, hlocs] at hZ; exact hZ
  clear hH hlocs
  rw [fNu_number] at hres
  refine lv_iload_n hx hb dX1_number_0 rfl (lv_at hl 1 rfl) ?_
  refine lv_iload_n hx hb dX1_number_1 rfl (lv_at hl 2 rfl) ?_
  refine lv_iload_n hx hb dX1_number_2 rfl (lv_at hl 3 rfl) ?_
  obtain ⟨o1, ho1, hres⟩ := bd_of hres
  have hPc := hP.sub (ws' := []) [] rfl
  have hDc := hD.sub (ws' := []) [] (by decide) rfl
  have hFc := va_free (wc := []) hD hS hA [] rfl
  refine va_calli (va_runSN (As := [.int x1, .int x2, .int x3]) (rest := []) ⟨hx, hb, hml, hown, hts⟩ (cRN_partIndex l dC dI cI cJ cC cS H.size x1 x2 x3 o1 ho1) ⟨va_cnB 3 hts gX1_number_X10_partIndex_n18 rfl rfl rfl (nwP hN (by decide +kernel : Cond.methodLinkNest "RepeatNests$Numbers" 18 ({ cls := "RepeatNests", name := "partIndex", desc := "(III)I" } : Jvm.MethodName) "RepeatNests" ∈ nwAll)) (hts _ kNu_number_X1_number_0) (by decide +kernel) ⟨Nat.le_of_ble_eq_true rfl, Nat.le_of_ble_eq_true rfl⟩, hts _ kNu_number_X1_number_1, trivial⟩ ⟨fun a U g mk q => by obtain ⟨q0, q1, qP, qK, qN, qD⟩ := q; exact ⟨q0, q1, qP, va_K.moved (u := U) (U := U.calling g mk a) (Vm.Alike.refl U.vm) qK, nwS (u := U) (U := U.calling g mk a) rfl qN, qD⟩, fun U hU hW => ⟨rfl, by rw [hU], by rw [hU]; exact hPc, va_K.moved hW.alike hK, nwW hW hN, hDc.weaken (fun _ _ _ _ => trivial)⟩⟩ rfl rfl hl.1 rfl (lv_room (Nat.le_of_ble_eq_true rfl)) dX1_number_3 ⟨Nat.zero_le _, Nat.zero_le _⟩) hS (fun q _ h => hFc q h) hFc (fun r9 u9 t H1 locs ht hvm hw hB hz1 hk1 hS => ?_)
  have hw := hw.symm
  subst hw
  obtain ⟨hP1, hK1, hD1⟩ := hB
  rw [ht] at hP1
  obtain ⟨hP, hD⟩ := va_join (wr := [(h_t, .inr (1, [.ref h_t_repeats, .int t_fresh, .ref h_t_table, .ref h_t_items])), (h_t_table, .inl (cJ, 1625, .inr (.inl t_table)))]) (w1 := []) hP hD [] [0, 1] rfl rfl (by decide) (by decide) hk1 hFc hP1 hD1
  generalize H1 = H at hP hS ⊢
  have hP : va_P (dC, dI) vwCl [(h_t, .inr (1, [.ref h_t_repeats, .int t_fresh, .ref h_t_table, .ref h_t_items])), (h_t_table, .inl (cJ, 1625, .inr (.inl t_table)))] H := hP
  have hD : va_D A [(h_t, .inr (1, [.ref h_t_repeats, .int t_fresh, .ref h_t_table, .ref h_t_items])), (h_t_table, .inl (cJ, 1625, .inr (.inl t_table)))] := hD
  refine lv_istore (lv' := [(4, .int o1), (0, .ref h_t), (1, .int x1), (2, .int x2), (3, .int x3)]) hx hb dX1_number_6 hl (by decide) rfl (fun ls hl => ?_)
  refine lv_iload hx hb dX1_number_8 (lv_at hl 0 rfl) ?_
  refine lv_if_lt (tgt := 33) hx hb dX1_number_10 (by decide) (fun c_2 => ?_) (fun c_2 => ?_)
  · have hres := it_of hres c_2
    refine lv_lconst (v := (0 : Int64)) hx hb dX1_number_33 (by decide) ?_
    have e9_0 := Option.some.inj hres
    subst e9_0
    rw [← hQQ]
    exact W.lret (v := (0 : Int64)) hx hb hr (fun t ht hW => ⟨⟨(0 : Int64), (), rfl, rfl, by rw [ht]; exact hP, va_K.moved hW.alike hK, hD⟩, hS.F ht⟩) hS.2.2 dX1_number_34
  · have hres := ie_of hres c_2
    refine lv_iload hx hb dX1_number_13 (lv_at hl 0 rfl) ?_
    refine lv_aload_n hx hb dX1_number_15 rfl (lv_at hl 1 rfl) ?_
    refine va_get (D := (dC, dI)) (ci := 1) (v := .ref h_t_table) (C := RX1) (T := TX1) (N := 4) hx hb hts iNu_number_X1_number_3 hown hK hP 0 rfl rfl 2 (by decide) (hts _ kNu_number_X1_number_2) (fun _ h9 => h9) rfl dX1_number_16 ?_
    refine va_alen hx hb hK hP 1 1 rfl (ty := .long) rfl (v := (1625 : Int32)) (by show Int32.ofNat 1625 = (1625 : Int32); decide) dX1_number_19 ?_
    refine lv_icmp_ge (tgt := 33) hx hb dX1_number_20 (by decide) (fun c_3 => ?_) (fun c_3 => ?_)
    · have hres := it_of hres c_3
      refine lv_lconst (v := (0 : Int64)) hx hb dX1_number_33 (by decide) ?_
      have e9_0 := Option.some.inj hres
      subst e9_0
      rw [← hQQ]
      exact W.lret (v := (0 : Int64)) hx hb hr (fun t ht hW => ⟨⟨(0 : Int64), (), rfl, rfl, by rw [ht]; exact hP, va_K.moved hW.alike hK, hD⟩, hS.F ht⟩) hS.2.2 dX1_number_34
    · have hres := ie_of hres c_3
      refine lv_aload_n hx hb dX1_number_23 rfl (lv_at hl 1 rfl) ?_
      refine va_get (D := (dC, dI)) (ci := 1) (v := .ref h_t_table) (C := RX1) (T := TX1) (N := 4) hx hb hts iNu_number_X1_number_3 hown hK hP 0 rfl rfl 2 (by decide) (hts _ kNu_number_X1_number_2) (fun _ h9 => h9) rfl dX1_number_24 ?_
      refine lv_iload hx hb dX1_number_27 (lv_at hl 0 rfl) ?_
      obtain ⟨c_4, hres⟩ := ck_of hres
      refine va_lald hx hb hK hP 1 1 rfl rfl c_4 dX1_number_29 ?_
      refine lv_goto (tgt := 34) hx hb dX1_number_30 (by decide) ?_
      have e9_0 := Option.some.inj hres
      subst e9_0
      rw [← hQQ]
      exact W.lret (v := (rdL t_table o1)) hx hb hr (fun t ht hW => ⟨⟨(rdL t_table o1), (), rfl, rfl, by rw [ht]; exact hP, va_K.moved hW.alike hK, hD⟩, hS.F ht⟩) hS.2.2 dX1_number_34

-- Nu_fillPart
theorem kNu_fillPart_X1_fillPart_0 : Cond.initialized yX10_partIndex.cls ∈ wsX1_fillPart := by decide +kernel
theorem kNu_fillPart_X1_fillPart_1 : Cond.static yX10_partIndex ∈ wsX1_fillPart := by decide +kernel
theorem kNu_fillPart_X1_fillPart_2 : Cond.fieldLink RX1 9 "RepeatNests$Numbers" "table" "[J" ∈ wsX1_fillPart := by decide +kernel
theorem iNu_fillPart_X1_fillPart_3 : ∀ w ∈ wsX10, w ∈ wsX1_fillPart := by decide +kernel
theorem kNu_fillPart_X1_fillPart_4 : Cond.fieldLink RX1 15 "RepeatNests$Numbers" "items" "[J" ∈ wsX1_fillPart := by decide +kernel
set_option maxHeartbeats 4000000 in
set_option maxRecDepth 100000 in
theorem cNu_fillPart (l : Launch) (dC : Nat → ClassId) (dI : Nat → Nat → Nat) (cI cJ cC cS : ClassId) (h_t h_t_repeats h_t_table h_t_items : Nat) (sz : Nat) (t_fresh : Int32) (t_items : Nat → Int64) (t_table : Nat → Int64) (x1 : Int32) (x2 : Int32) (x3 : Int32) (y_t_table : Nat → Int64) (hres : fNu_fillPart t_items t_table x1 x2 x3 = some y_t_table) :
    Met l yX1_fillPart wsX1_fillPart ({ frames := 1, cells := 0, slots := 0, locals := 23 } : Room) (va_Pc [.ref h_t, .int x1, .int x2, .int x3] (fun (U : State) => U.heap.size = sz ∧ va_P (dC, dI) vwCl [(h_t, .inr (1, [.ref h_t_repeats, .int t_fresh, .ref h_t_table, .ref h_t_items])), (h_t_items, .inl (cJ, 25, .inr (.inl t_items))), (h_t_table, .inl (cJ, 1625, .inr (.inl t_table)))] U.heap ∧ va_K (dC, dI) vwCl (tyA cI cJ cC cS) U ∧ nwN U ∧ va_D (fun _ => True) [(h_t, .inr (1, [.ref h_t_repeats, .int t_fresh, .ref h_t_table, .ref h_t_items])), (h_t_items, .inl (cJ, 25, .inr (.inl t_items))), (h_t_table, .inl (cJ, 1625, .inr (.inl t_table)))])) (va_Qv (fun (_ : Unit) => True) (fun (_ : Unit) (t : State) => va_P (dC, dI) vwCl [(h_t, .inr (1, [.ref h_t_repeats, .int t_fresh, .ref h_t_table, .ref h_t_items])), (h_t_items, .inl (cJ, 25, .inr (.inl t_items))), (h_t_table, .inl (cJ, 1625, .inr (.inl y_t_table)))] t.heap ∧ va_K (dC, dI) vwCl (tyA cI cJ cC cS) t ∧ va_D (va_A [(h_t, .inr (1, [.ref h_t_repeats, .int t_fresh, .ref h_t_table, .ref h_t_items])), (h_t_items, .inl (cJ, 25, .inr (.inl t_items))), (h_t_table, .inl (cJ, 1625, .inr (.inl t_table)))] sz) [(h_t, .inr (1, [.ref h_t_repeats, .int t_fresh, .ref h_t_table, .ref h_t_items])), (h_t_items, .inl (cJ, 25, .inr (.inl t_items))), (h_t_table, .inl (cJ, 1625, .inr (.inl y_t_table)))]) (va_A [(h_t, .inr (1, [.ref h_t_repeats, .int t_fresh, .ref h_t_table, .ref h_t_items])), (h_t_items, .inl (cJ, 25, .inr (.inl t_items))), (h_t_table, .inl (cJ, 1625, .inr (.inl t_table)))] sz)) 0 0 (va_A [(h_t, .inr (1, [.ref h_t_repeats, .int t_fresh, .ref h_t_table, .ref h_t_items])), (h_t_items, .inl (cJ, 25, .inr (.inl t_items))), (h_t_table, .inl (cJ, 1625, .inr (.inl t_table)))] sz) := by
  refine Met.ofW (cc := cX1_fillPart) (maxL := 8) (ret := none) (by decide) rfl ?_
  intro p e s m args below meth c s₁ B hml hv
  obtain ⟨hargs, hsz, hP, hK, hN, hD0⟩ := hv
  have hx := B.exec
  have hb := B.bytes
  have hr := B.returns
  have hts := atoms_spec (ws := wsX1_fillPart) B.pre
  have hown : s.vm.findClass RX1 = some m.cls := findClass_of_methodNamed B.named
  have hlocks := B.notSynchronized
  subst hsz
  have hD := hD0.self (sz := s.heap.size)
  generalize hAe : va_A [(h_t, .inr (1, [.ref h_t_repeats, .int t_fresh, .ref h_t_table, .ref h_t_items])), (h_t_items, .inl (cJ, 25, .inr (.inl t_items))), (h_t_table, .inl (cJ, 1625, .inr (.inl t_table)))] s.heap.size = A at hD ⊢
  have hA : ∀ q : Nat, s.heap.size ≤ q → A q := fun q h => by rw [← hAe]; exact Or.inr h
  have hS : va_S A s.heap s.heap [] := va_S.rf
  have hP : va_P (dC, dI) vwCl [(h_t, .inr (1, [.ref h_t_repeats, .int t_fresh, .ref h_t_table, .ref h_t_items])), (h_t_items, .inl (cJ, 25, .inr (.inl t_items))), (h_t_table, .inl (cJ, 1625, .inr (.inl t_table)))] s.heap := hP
  have hl := lv_entry [.ref h_t, .int x1, .int x2, .int x3] (n := 8) (Nat.le_of_ble_eq_true rfl)
  rw [show entryFrame m args 8 = entryFrame m ([.ref h_t, .int x1, .int x2, .int x3] : List Value).toArray 8 from by rw [hargs], lg_entry_eq]
  generalize (lg_sl [.ref h_t, .int x1, .int x2, .int x3] ++ List.replicate (8 - (lg_sl [.ref h_t, .int x1, .int x2, .int x3]).length) Slot.unset).toArray = ls at hl ⊢
  have hl : lv_has ls 8 [(0, .ref h_t), (1, .int x1), (2, .int x2), (3, .int x3)] := hl
  generalize hQQ : MQ below (va_Qv (fun (_ : Unit) => True) (fun (_ : Unit) (t : State) => va_P (dC, dI) vwCl [(h_t, .inr (1, [.ref h_t_repeats, .int t_fresh, .ref h_t_table, .ref h_t_items])), (h_t_items, .inl (cJ, 25, .inr (.inl t_items))), (h_t_table, .inl (cJ, 1625, .inr (.inl y_t_table)))] t.heap ∧ va_K (dC, dI) vwCl (tyA cI cJ cC cS) t ∧ va_D A [(h_t, .inr (1, [.ref h_t_repeats, .int t_fresh, .ref h_t_table, .ref h_t_items])), (h_t_items, .inl (cJ, 25, .inr (.inl t_items))), (h_t_table, .inl (cJ, 1625, .inr (.inl y_t_table)))]) A) args s 0 0 A = QQ
  obtain ⟨H, hH⟩ : ∃ H : Heap, H = s.heap := ⟨_, rfl⟩
  obtain ⟨locs, hlocs⟩ : ∃ locs : List Loc, locs = [] := ⟨_, rfl⟩
  rw [← hH] at hP
  have hS : va_S A s.heap H locs := by rw [hH, hlocs]; exact hS
  suffices hZ : W p l e (headSpec wsX1_fillPart ({ frames := 1, cells := 0, slots := 0, locals := 23 } : Room)).room s m args below meth c H locs 0 0 QQ (F0 m 0 ls []) by rw [hH, hlocs] at hZ; exact hZ
  clear hH hlocs
  have hK80 : ∀ (x4 : Int64) (t_table : Nat → Int64) (H : Heap) (locs : List Loc) (ls : Array Slot), fNu_fillPart_80 x1 x2 x3 x4 t_table = some y_t_table → va_P (dC, dI) vwCl [(h_t, .inr (1, [.ref h_t_repeats, .int t_fresh, .ref h_t_table, .ref h_t_items])), (h_t_items, .inl (cJ, 25, .inr (.inl t_items))), (h_t_table, .inl (cJ, 1625, .inr (.inl t_table)))] H → va_D A [(h_t, .inr (1, [.ref h_t_repeats, .int t_fresh, .ref h_t_table, .ref h_t_items])), (h_t_items, .inl (cJ, 25, .inr (.inl t_items))), (h_t_table, .inl (cJ, 1625, .inr (.inl t_table)))] → va_S A s.heap H locs → lv_has ls 8 [(0, .ref h_t), (1, .int x1), (2, .int x2), (3, .int x3), (4, .long x4)] → W p l e (headSpec wsX1_fillPart ({ frames := 1, cells := 0, slots := 0, locals := 23 } : Room)).room s m args below meth c H locs 0 0 QQ (F0 m 80 ls []) := by
    intro x4 t_table H locs ls hres hP hD hS hl
    rw [fNu_fillPart_80] at hres
    refine lv_aload_n hx hb dX1_fillPart_80 rfl (lv_at hl 0 rfl) ?_
    refine lv_iload_n hx hb dX1_fillPart_81 rfl (lv_at hl 1 rfl) ?_
    refine lv_iload_n hx hb dX1_fillPart_82 rfl (lv_at hl 2 rfl) ?_
    refine lv_iload_n hx hb dX1_fillPart_83 rfl (lv_at hl 3 rfl) ?_
    obtain ⟨o1, ho1, hres⟩ := bd_of hres
    have hPc := hP.sub (ws' := []) [] rfl
    have hDc := hD.sub (ws' := []) [] (by decide) rfl
    have hFc := va_free (wc := []) hD hS hA [] rfl
    refine va_calli (va_runSN (As := [.int x1, .int x2, .int x3]) (rest := [.ref h_t]) ⟨hx, hb, hml, hown, hts⟩ (cRN_partIndex l dC dI cI cJ cC cS H.size x1 x2 x3 o1 ho1) ⟨va_cnB 3 hts gX1_fillPart_X10_partIndex_n18 rfl rfl rfl (nwP hN (by decide +kernel : Cond.methodLinkNest "RepeatNests$Numbers" 18 ({ cls := "RepeatNests", name := "partIndex", desc := "(III)I" } : Jvm.MethodName) "RepeatNests" ∈ nwAll)) (hts _ kNu_fillPart_X1_fillPart_0) (by decide +kernel) ⟨Nat.le_of_ble_eq_true rfl, Nat.le_of_ble_eq_true rfl⟩, hts _ kNu_fillPart_X1_fillPart_1, trivial⟩ ⟨fun a U g mk q => by obtain ⟨q0, q1, qP, qK, qN, qD⟩ := q; exact ⟨q0, q1, qP, va_K.moved (u := U) (U := U.calling g mk a) (Vm.Alike.refl U.vm) qK, nwS (u := U) (U := U.calling g mk a) rfl qN, qD⟩, fun U hU hW => ⟨rfl, by rw [hU], by rw [hU]; exact hPc, va_K.moved hW.alike hK, nwW hW hN, hDc.weaken (fun _ _ _ _ => trivial)⟩⟩ rfl rfl hl.1 rfl (lv_room (Nat.le_of_ble_eq_true rfl)) dX1_fillPart_84 ⟨Nat.zero_le _, Nat.zero_le _⟩) hS (fun q _ h => hFc q h) hFc (fun r9 u9 t H1 locs ht hvm hw hB hz1 hk1 hS => ?_)
    have hw := hw.symm
    subst hw
    obtain ⟨hP1, hK1, hD1⟩ := hB
    rw [ht] at hP1
    obtain ⟨hP, hD⟩ := va_join (wr := [(h_t, .inr (1, [.ref h_t_repeats, .int t_fresh, .ref h_t_table, .ref h_t_items])), (h_t_items, .inl (cJ, 25, .inr (.inl t_items))), (h_t_table, .inl (cJ, 1625, .inr (.inl t_table)))]) (w1 := []) hP hD [] [0, 1, 2] rfl rfl (by decide) (by decide) hk1 hFc hP1 hD1
    generalize H1 = H at hP hS ⊢
    have hP : va_P (dC, dI) vwCl [(h_t, .inr (1, [.ref h_t_repeats, .int t_fresh, .ref h_t_table, .ref h_t_items])), (h_t_items, .inl (cJ, 25, .inr (.inl t_items))), (h_t_table, .inl (cJ, 1625, .inr (.inl t_table)))] H := hP
    have hD : va_D A [(h_t, .inr (1, [.ref h_t_repeats, .int t_fresh, .ref h_t_table, .ref h_t_items])), (h_t_items, .inl (cJ, 25, .inr (.inl t_items))), (h_t_table, .inl (cJ, 1625, .inr (.inl t_table)))] := hD
    refine lv_lload hx hb dX1_fillPart_87 (lv_at hl 4 rfl) ?_
    obtain ⟨o2, ho2, hres⟩ := bd_of hres
    have hPc := hP.sub (ws' := [(h_t, .inr (1, [.ref h_t_repeats, .int t_fresh, .ref h_t_table, .ref h_t_items])), (h_t_table, .inl (cJ, 1625, .inr (.inl t_table)))]) [0, 2] rfl
    have hDc := hD.sub (ws' := [(h_t, .inr (1, [.ref h_t_repeats, .int t_fresh, .ref h_t_table, .ref h_t_items])), (h_t_table, .inl (cJ, 1625, .inr (.inl t_table)))]) [0, 2] (by decide) rfl
    have hFc := va_free (wc := [(h_t, .inr (1, [.ref h_t_repeats, .int t_fresh, .ref h_t_table, .ref h_t_items])), (h_t_table, .inl (cJ, 1625, .inr (.inl t_table)))]) hD hS hA [0, 2] rfl
    refine va_callv (va_runV (As := [.int o1, .long x4]) (rest := []) ⟨hx, hb, hml, hown, hts⟩ (cNu_put l dC dI cI cJ cC cS h_t h_t_repeats h_t_table h_t_items H.size t_fresh t_table o1 x4 o2 ho2) (cwV 2 hts gX1_fillPart_X1_put rfl rfl rfl (by decide +kernel) ⟨Nat.le_of_ble_eq_true rfl, Nat.le_of_ble_eq_true rfl⟩) ⟨fun a U g mk q => by obtain ⟨q0, q1, qP, qK, qN, qD⟩ := q; exact ⟨q0, q1, qP, va_K.moved (u := U) (U := U.calling g mk a) (Vm.Alike.refl U.vm) qK, nwS (u := U) (U := U.calling g mk a) rfl qN, qD⟩, va_recv hK hPc (ci := 1) (q0 := 0) rfl rfl, fun U hU hW => ⟨rfl, by rw [hU], by rw [hU]; exact hPc, va_K.moved hW.alike hK, nwW hW hN, hDc.weaken (fun _ _ _ _ => trivial)⟩⟩ rfl rfl hl.1 rfl (lv_room (Nat.le_of_ble_eq_true rfl)) dX1_fillPart_89 ⟨Nat.zero_le _, Nat.zero_le _⟩) hS (fun q _ h => hFc q h) hFc (fun u9 t H1 locs ht hvm hw hB hz1 hk1 hS => ?_)
    obtain ⟨hP1, hK1, hD1⟩ := hB
    rw [ht] at hP1
    obtain ⟨hP, hD⟩ := va_join (wr := [(h_t_items, .inl (cJ, 25, .inr (.inl t_items)))]) (w1 := [(h_t, .inr (1, [.ref h_t_repeats, .int t_fresh, .ref h_t_table, .ref h_t_items])), (h_t_table, .inl (cJ, 1625, .inr (.inl o2)))]) hP hD [0, 2] [1] rfl rfl (by decide) (by decide) hk1 hFc hP1 hD1
    generalize H1 = H at hP hS ⊢
    have hP : va_P (dC, dI) vwCl [(h_t_items, .inl (cJ, 25, .inr (.inl t_items))), (h_t, .inr (1, [.ref h_t_repeats, .int t_fresh, .ref h_t_table, .ref h_t_items])), (h_t_table, .inl (cJ, 1625, .inr (.inl o2)))] H := hP
    have hD : va_D A [(h_t_items, .inl (cJ, 25, .inr (.inl t_items))), (h_t, .inr (1, [.ref h_t_repeats, .int t_fresh, .ref h_t_table, .ref h_t_items])), (h_t_table, .inl (cJ, 1625, .inr (.inl o2)))] := hD
    have e9_0 := Option.some.inj hres
    subst e9_0
    rw [← hQQ]
    exact W.vret hx hb hr (fun t ht hW => ⟨⟨(), rfl, trivial, by rw [ht]; exact hP.sub [1, 0, 2] rfl, va_K.moved hW.alike hK, hD.sub [1, 0, 2] (by decide) rfl⟩, hS.F ht⟩) hS.2.2 dX1_fillPart_92
  have hL18 : ∀ (n18 : Nat) , ∀ (x4 : Int64) (x6 : Int32) (x7 : Int32) (t_table : Nat → Int64) (H : Heap) (locs : List Loc) (ls : Array Slot), fNu_fillPart_18 t_items x1 x2 x3 n18 x4 x6 x7 t_table = some y_t_table → va_P (dC, dI) vwCl [(h_t, .inr (1, [.ref h_t_repeats, .int t_fresh, .ref h_t_table, .ref h_t_items])), (h_t_items, .inl (cJ, 25, .inr (.inl t_items))), (h_t_table, .inl (cJ, 1625, .inr (.inl t_table)))] H → va_D A [(h_t, .inr (1, [.ref h_t_repeats, .int t_fresh, .ref h_t_table, .ref h_t_items])), (h_t_items, .inl (cJ, 25, .inr (.inl t_items))), (h_t_table, .inl (cJ, 1625, .inr (.inl t_table)))] → va_S A s.heap H locs → lv_has ls 8 [(0, .ref h_t), (1, .int x1), (2, .int x2), (3, .int x3), (4, .long x4), (6, .int x6), (7, .int x7)] → W p l e (headSpec wsX1_fillPart ({ frames := 1, cells := 0, slots := 0, locals := 23 } : Room)).room s m args below meth c H locs 0 0 QQ (F0 m 18 ls []) := by
    intro n18
    induction n18 with
    | zero =>
      intro x4 x6 x7 t_table H locs ls hres
      rw [fNu_fillPart_18] at hres
      cases hres
    | succ n18 ih18 =>
      intro x4 x6 x7 t_table H locs ls hres hP hD hS hl
      rw [fNu_fillPart_18] at hres
      refine lv_iload hx hb dX1_fillPart_18 (lv_at hl 6 rfl) ?_
      refine lv_if_lt (tgt := 80) hx hb dX1_fillPart_20 (by decide) (fun c_3 => ?_) (fun c_3 => ?_)
      · have hres := it_of hres c_3
        exact hK80 x4 t_table H locs ls hres hP hD hS (lv_sub hl [0, 1, 2, 3, 4] rfl)
      · have hres := ie_of hres c_3
        refine lv_iload hx hb dX1_fillPart_23 (lv_at hl 6 rfl) ?_
        refine lv_iload_n hx hb dX1_fillPart_25 rfl (lv_at hl 3 rfl) ?_
        refine lv_icmp_gt (tgt := 80) hx hb dX1_fillPart_26 (by decide) (fun c_4 => ?_) (fun c_4 => ?_)
        · have hres := it_of hres c_4
          exact hK80 x4 t_table H locs ls hres hP hD hS (lv_sub hl [0, 1, 2, 3, 4] rfl)
        · have hres := ie_of hres c_4
          refine lv_iload hx hb dX1_fillPart_29 (lv_at hl 6 rfl) ?_
          refine lv_bipush (v := (25 : Int32)) hx hb dX1_fillPart_31 (by decide) ?_
          refine lv_icmp_ge (tgt := 80) hx hb dX1_fillPart_33 (by decide) (fun c_5 => ?_) (fun c_5 => ?_)
          · have hres := it_of hres c_5
            exact hK80 x4 t_table H locs ls hres hP hD hS (lv_sub hl [0, 1, 2, 3, 4] rfl)
          · have hres := ie_of hres c_5
            refine lv_iload hx hb dX1_fillPart_36 (lv_at hl 5 rfl) ?_
            refine lv_if_lt (tgt := 80) hx hb dX1_fillPart_38 (by decide) (fun c_6 => ?_) (fun c_6 => ?_)
            · have hres := it_of hres c_6
              exact hK80 x4 t_table H locs ls hres hP hD hS (lv_sub hl [0, 1, 2, 3, 4] rfl)
            · have hres := ie_of hres c_6
              refine lv_iload hx hb dX1_fillPart_41 (lv_at hl 5 rfl) ?_
              refine lv_aload_n hx hb dX1_fillPart_43 rfl (lv_at hl 0 rfl) ?_
              refine va_get (D := (dC, dI)) (ci := 1) (v := .ref h_t_table) (C := RX1) (T := TX1) (N := 4) hx hb hts iNu_fillPart_X1_fillPart_3 hown hK hP 0 rfl rfl 2 (by decide) (hts _ kNu_fillPart_X1_fillPart_2) (fun _ h9 => h9) rfl dX1_fillPart_44 ?_
              refine va_alen hx hb hK hP 2 1 rfl (ty := .long) rfl (v := (1625 : Int32)) (by show Int32.ofNat 1625 = (1625 : Int32); decide) dX1_fillPart_47 ?_
              refine lv_icmp_ge (tgt := 80) hx hb dX1_fillPart_48 (by decide) (fun c_7 => ?_) (fun c_7 => ?_)
              · have hres := it_of hres c_7
                exact hK80 x4 t_table H locs ls hres hP hD hS (lv_sub hl [0, 1, 2, 3, 4] rfl)
              · have hres := ie_of hres c_7
                refine lv_lload hx hb dX1_fillPart_51 (lv_at hl 4 rfl) ?_
                refine lv_aload_n hx hb dX1_fillPart_53 rfl (lv_at hl 0 rfl) ?_
                refine va_get (D := (dC, dI)) (ci := 1) (v := .ref h_t_items) (C := RX1) (T := TX1) (N := 4) hx hb hts iNu_fillPart_X1_fillPart_3 hown hK hP 0 rfl rfl 3 (by decide) (hts _ kNu_fillPart_X1_fillPart_4) (fun _ h9 => h9) rfl dX1_fillPart_54 ?_
                refine lv_iload hx hb dX1_fillPart_57 (lv_at hl 6 rfl) ?_
                obtain ⟨c_8, hres⟩ := ck_of hres
                refine va_lald hx hb hK hP 1 1 rfl rfl c_8 dX1_fillPart_59 ?_
                refine lv_aload_n hx hb dX1_fillPart_60 rfl (lv_at hl 0 rfl) ?_
                refine va_get (D := (dC, dI)) (ci := 1) (v := .ref h_t_table) (C := RX1) (T := TX1) (N := 4) hx hb hts iNu_fillPart_X1_fillPart_3 hown hK hP 0 rfl rfl 2 (by decide) (hts _ kNu_fillPart_X1_fillPart_2) (fun _ h9 => h9) rfl dX1_fillPart_61 ?_
                refine lv_iload hx hb dX1_fillPart_64 (lv_at hl 5 rfl) ?_
                obtain ⟨c_9, hres⟩ := ck_of hres
                refine va_lald hx hb hK hP 2 1 rfl rfl c_9 dX1_fillPart_66 ?_
                refine lv_lmul hx hb dX1_fillPart_67 ?_
                refine lv_ladd hx hb dX1_fillPart_68 ?_
                refine lv_lstore (lv' := [(4, .long (x4 + ((rdL t_items x7) * (rdL t_table x6)))), (0, .ref h_t), (1, .int x1), (2, .int x2), (3, .int x3), (6, .int x6), (7, .int x7)]) hx hb dX1_fillPart_69 hl (by decide) rfl (fun ls hl => ?_)
                refine lv_iinc (v := (x6 + 1)) (lv' := [(6, .int (x6 + 1)), (4, .long (x4 + ((rdL t_items x7) * (rdL t_table x6)))), (0, .ref h_t), (1, .int x1), (2, .int x2), (3, .int x3), (7, .int x7)]) hx hb dX1_fillPart_71 hl (k := 5) rfl rfl (by decide) rfl (fun ls hl => ?_)
                refine lv_iinc (v := (x7 + 1)) (lv' := [(7, .int (x7 + 1)), (6, .int (x6 + 1)), (4, .long (x4 + ((rdL t_items x7) * (rdL t_table x6)))), (0, .ref h_t), (1, .int x1), (2, .int x2), (3, .int x3)]) hx hb dX1_fillPart_74 hl (k := 6) rfl rfl (by decide) rfl (fun ls hl => ?_)
                refine lv_goto (tgt := 18) hx hb dX1_fillPart_77 (by decide) ?_
                exact ih18 (x4 + ((rdL t_items x7) * (rdL t_table x6))) (x6 + 1) (x7 + 1) t_table H locs ls hres hP hD hS (lv_sub hl [3, 4, 5, 6, 2, 1, 0] rfl)
  rw [fNu_fillPart] at hres
  refine lv_lconst (v := (0 : Int64)) hx hb dX1_fillPart_0 (by decide) ?_
  refine lv_lstore (lv' := [(4, .long (0 : Int64)), (0, .ref h_t), (1, .int x1), (2, .int x2), (3, .int x3)]) hx hb dX1_fillPart_1 hl (by decide) rfl (fun ls hl => ?_)
  refine lv_iload_n hx hb dX1_fillPart_3 rfl (lv_at hl 2 rfl) ?_
  refine lv_iload_n hx hb dX1_fillPart_4 rfl (lv_at hl 3 rfl) ?_
  refine lv_iconst (v := (1 : Int32)) hx hb dX1_fillPart_5 (by decide) ?_
  refine lv_iadd hx hb dX1_fillPart_6 ?_
  refine lv_iload_n hx hb dX1_fillPart_7 rfl (lv_at hl 4 rfl) ?_
  obtain ⟨o10, ho10, hres⟩ := bd_of hres
  have hPc := hP.sub (ws' := []) [] rfl
  have hDc := hD.sub (ws' := []) [] (by decide) rfl
  have hFc := va_free (wc := []) hD hS hA [] rfl
  refine va_calli (va_runSN (As := [.int x1, .int (x2 + (1 : Int32)), .int x3]) (rest := []) ⟨hx, hb, hml, hown, hts⟩ (cRN_partIndex l dC dI cI cJ cC cS H.size x1 (x2 + (1 : Int32)) x3 o10 ho10) ⟨va_cnB 3 hts gX1_fillPart_X10_partIndex_n18 rfl rfl rfl (nwP hN (by decide +kernel : Cond.methodLinkNest "RepeatNests$Numbers" 18 ({ cls := "RepeatNests", name := "partIndex", desc := "(III)I" } : Jvm.MethodName) "RepeatNests" ∈ nwAll)) (hts _ kNu_fillPart_X1_fillPart_0) (by decide +kernel) ⟨Nat.le_of_ble_eq_true rfl, Nat.le_of_ble_eq_true rfl⟩, hts _ kNu_fillPart_X1_fillPart_1, trivial⟩ ⟨fun a U g mk q => by obtain ⟨q0, q1, qP, qK, qN, qD⟩ := q; exact ⟨q0, q1, qP, va_K.moved (u := U) (U := U.calling g mk a) (Vm.Alike.refl U.vm) qK, nwS (u := U) (U := U.calling g mk a) rfl qN, qD⟩, fun U hU hW => ⟨rfl, by rw [hU], by rw [hU]; exact hPc, va_K.moved hW.alike hK, nwW hW hN, hDc.weaken (fun _ _ _ _ => trivial)⟩⟩ rfl rfl hl.1 rfl (lv_room (Nat.le_of_ble_eq_true rfl)) dX1_fillPart_8 ⟨Nat.zero_le _, Nat.zero_le _⟩) hS (fun q _ h => hFc q h) hFc (fun r9 u9 t H1 locs ht hvm hw hB hz1 hk1 hS => ?_)
  have hw := hw.symm
  subst hw
  obtain ⟨hP1, hK1, hD1⟩ := hB
  rw [ht] at hP1
  obtain ⟨hP, hD⟩ := va_join (wr := [(h_t, .inr (1, [.ref h_t_repeats, .int t_fresh, .ref h_t_table, .ref h_t_items])), (h_t_items, .inl (cJ, 25, .inr (.inl t_items))), (h_t_table, .inl (cJ, 1625, .inr (.inl t_table)))]) (w1 := []) hP hD [] [0, 1, 2] rfl rfl (by decide) (by decide) hk1 hFc hP1 hD1
  generalize H1 = H at hP hS ⊢
  have hP : va_P (dC, dI) vwCl [(h_t, .inr (1, [.ref h_t_repeats, .int t_fresh, .ref h_t_table, .ref h_t_items])), (h_t_items, .inl (cJ, 25, .inr (.inl t_items))), (h_t_table, .inl (cJ, 1625, .inr (.inl t_table)))] H := hP
  have hD : va_D A [(h_t, .inr (1, [.ref h_t_repeats, .int t_fresh, .ref h_t_table, .ref h_t_items])), (h_t_items, .inl (cJ, 25, .inr (.inl t_items))), (h_t_table, .inl (cJ, 1625, .inr (.inl t_table)))] := hD
  refine lv_istore (lv' := [(6, .int o10), (4, .long (0 : Int64)), (0, .ref h_t), (1, .int x1), (2, .int x2), (3, .int x3)]) hx hb dX1_fillPart_11 hl (by decide) rfl (fun ls hl => ?_)
  refine lv_iload_n hx hb dX1_fillPart_13 rfl (lv_at hl 4 rfl) ?_
  refine lv_iconst (v := (1 : Int32)) hx hb dX1_fillPart_14 (by decide) ?_
  refine lv_iadd hx hb dX1_fillPart_15 ?_
  refine lv_istore (lv' := [(7, .int (x2 + (1 : Int32))), (6, .int o10), (4, .long (0 : Int64)), (0, .ref h_t), (1, .int x1), (2, .int x2), (3, .int x3)]) hx hb dX1_fillPart_16 hl (by decide) rfl (fun ls hl => ?_)
  exact hL18 FU (0 : Int64) o10 (x2 + (1 : Int32)) t_table H locs ls hres hP hD hS (lv_sub hl [3, 4, 5, 6, 2, 1, 0] rfl)

-- Nu_findItems
theorem kNu_findItems_X1_findItems_0 : Cond.fieldLink RX1 15 "RepeatNests$Numbers" "items" "[J" ∈ wsX1_findItems := by decide +kernel
theorem iNu_findItems_X1_findItems_1 : ∀ w ∈ wsX10, w ∈ wsX1_findItems := by decide +kernel
theorem kNu_findItems_X1_findItems_2 : Cond.fieldLink RX1 26 "RepeatNests$Numbers" "repeats" "LRepeatNests$Repeats;" ∈ wsX1_findItems := by decide +kernel
theorem kNu_findItems_X1_findItems_3 : Cond.sameField "RepeatNests$Numbers" "RepeatNests$Parts" "repeats" "LRepeatNests$Repeats;" ∈ wsX1_findItems := by decide +kernel
theorem iNu_findItems_X1_findItems_4 : ∀ w ∈ wsX50, w ∈ wsX1_findItems := by decide +kernel
theorem kNu_findItems_X1_findItems_5 : Cond.initialized yX10_partIndex.cls ∈ wsX1_findItems := by decide +kernel
theorem kNu_findItems_X1_findItems_6 : Cond.static yX10_partIndex ∈ wsX1_findItems := by decide +kernel
theorem kNu_findItems_X1_findItems_7 : Cond.fieldLink RX1 9 "RepeatNests$Numbers" "table" "[J" ∈ wsX1_findItems := by decide +kernel
set_option maxHeartbeats 4000000 in
set_option maxRecDepth 100000 in
theorem cNu_findItems (l : Launch) (dC : Nat → ClassId) (dI : Nat → Nat → Nat) (cI cJ cC cS : ClassId) (h_t h_t_repeats h_t_table h_t_items h_t_repeats_standing h_t_repeats_unlike h_t_repeats_blocks h_t_repeats_ends h_t_repeats_prices h_u : Nat) (sz : Nat) (t_fresh : Int32) (t_items : Nat → Int64) (t_repeats_rowSize : Int32) (t_repeats_repeatPrice : Int32) (t_repeats_correctionPrice : Int32) (t_repeats_mostCorrections : Int32) (t_repeats_number : Int32) (t_repeats_blocks : Nat → Int32) (t_repeats_ends : Nat → Int32) (t_table : Nat → Int64) (x2 : Int32) (x3 : Int32) (x4 : Int32) (y_t_items : Nat → Int64) (hres : fNu_findItems t_repeats_number t_repeats_blocks t_repeats_ends t_table t_items x2 x3 x4 = some y_t_items) :
    Met l yX1_findItems wsX1_findItems ({ frames := 1, cells := 0, slots := 0, locals := 22 } : Room) (va_Pc [.ref h_t, .ref h_u, .int x2, .int x3, .int x4] (fun (U : State) => U.heap.size = sz ∧ va_P (dC, dI) vwCl [(h_t, .inr (1, [.ref h_t_repeats, .int t_fresh, .ref h_t_table, .ref h_t_items])), (h_t_items, .inl (cJ, 25, .inr (.inl t_items))), (h_t_repeats, .inr (4, [.ref h_t_repeats_standing, .ref h_t_repeats_unlike, .ref h_t_repeats_blocks, .ref h_t_repeats_ends, .ref h_t_repeats_prices, .int t_repeats_rowSize, .int t_repeats_repeatPrice, .int t_repeats_correctionPrice, .int t_repeats_mostCorrections, .int t_repeats_number])), (h_t_repeats_blocks, .inl (cI, 60, .inl t_repeats_blocks)), (h_t_repeats_ends, .inl (cI, 60, .inl t_repeats_ends)), (h_t_table, .inl (cJ, 1625, .inr (.inl t_table)))] U.heap ∧ va_K (dC, dI) vwCl (tyA cI cJ cC cS) U ∧ nwN U ∧ va_D (fun _ => True) [(h_t, .inr (1, [.ref h_t_repeats, .int t_fresh, .ref h_t_table, .ref h_t_items])), (h_t_items, .inl (cJ, 25, .inr (.inl t_items))), (h_t_repeats, .inr (4, [.ref h_t_repeats_standing, .ref h_t_repeats_unlike, .ref h_t_repeats_blocks, .ref h_t_repeats_ends, .ref h_t_repeats_prices, .int t_repeats_rowSize, .int t_repeats_repeatPrice, .int t_repeats_correctionPrice, .int t_repeats_mostCorrections, .int t_repeats_number])), (h_t_repeats_blocks, .inl (cI, 60, .inl t_repeats_blocks)), (h_t_repeats_ends, .inl (cI, 60, .inl t_repeats_ends)), (h_t_table, .inl (cJ, 1625, .inr (.inl t_table)))])) (va_Qv (fun (_ : Unit) => True) (fun (_ : Unit) (t : State) => va_P (dC, dI) vwCl [(h_t, .inr (1, [.ref h_t_repeats, .int t_fresh, .ref h_t_table, .ref h_t_items])), (h_t_items, .inl (cJ, 25, .inr (.inl y_t_items))), (h_t_repeats, .inr (4, [.ref h_t_repeats_standing, .ref h_t_repeats_unlike, .ref h_t_repeats_blocks, .ref h_t_repeats_ends, .ref h_t_repeats_prices, .int t_repeats_rowSize, .int t_repeats_repeatPrice, .int t_repeats_correctionPrice, .int t_repeats_mostCorrections, .int t_repeats_number])), (h_t_repeats_blocks, .inl (cI, 60, .inl t_repeats_blocks)), (h_t_repeats_ends, .inl (cI, 60, .inl t_repeats_ends)), (h_t_table, .inl (cJ, 1625, .inr (.inl t_table)))] t.heap ∧ va_K (dC, dI) vwCl (tyA cI cJ cC cS) t ∧ va_D (va_A [(h_t, .inr (1, [.ref h_t_repeats, .int t_fresh, .ref h_t_table, .ref h_t_items])), (h_t_items, .inl (cJ, 25, .inr (.inl t_items))), (h_t_repeats, .inr (4, [.ref h_t_repeats_standing, .ref h_t_repeats_unlike, .ref h_t_repeats_blocks, .ref h_t_repeats_ends, .ref h_t_repeats_prices, .int t_repeats_rowSize, .int t_repeats_repeatPrice, .int t_repeats_correctionPrice, .int t_repeats_mostCorrections, .int t_repeats_number])), (h_t_repeats_blocks, .inl (cI, 60, .inl t_repeats_blocks)), (h_t_repeats_ends, .inl (cI, 60, .inl t_repeats_ends)), (h_t_table, .inl (cJ, 1625, .inr (.inl t_table)))] sz) [(h_t, .inr (1, [.ref h_t_repeats, .int t_fresh, .ref h_t_table, .ref h_t_items])), (h_t_items, .inl (cJ, 25, .inr (.inl y_t_items))), (h_t_repeats, .inr (4, [.ref h_t_repeats_standing, .ref h_t_repeats_unlike, .ref h_t_repeats_blocks, .ref h_t_repeats_ends, .ref h_t_repeats_prices, .int t_repeats_rowSize, .int t_repeats_repeatPrice, .int t_repeats_correctionPrice, .int t_repeats_mostCorrections, .int t_repeats_number])), (h_t_repeats_blocks, .inl (cI, 60, .inl t_repeats_blocks)), (h_t_repeats_ends, .inl (cI, 60, .inl t_repeats_ends)), (h_t_table, .inl (cJ, 1625, .inr (.inl t_table)))]) (va_A [(h_t, .inr (1, [.ref h_t_repeats, .int t_fresh, .ref h_t_table, .ref h_t_items])), (h_t_items, .inl (cJ, 25, .inr (.inl t_items))), (h_t_repeats, .inr (4, [.ref h_t_repeats_standing, .ref h_t_repeats_unlike, .ref h_t_repeats_blocks, .ref h_t_repeats_ends, .ref h_t_repeats_prices, .int t_repeats_rowSize, .int t_repeats_repeatPrice, .int t_repeats_correctionPrice, .int t_repeats_mostCorrections, .int t_repeats_number])), (h_t_repeats_blocks, .inl (cI, 60, .inl t_repeats_blocks)), (h_t_repeats_ends, .inl (cI, 60, .inl t_repeats_ends)), (h_t_table, .inl (cJ, 1625, .inr (.inl t_table)))] sz)) 0 0 (va_A [(h_t, .inr (1, [.ref h_t_repeats, .int t_fresh, .ref h_t_table, .ref h_t_items])), (h_t_items, .inl (cJ, 25, .inr (.inl t_items))), (h_t_repeats, .inr (4, [.ref h_t_repeats_standing, .ref h_t_repeats_unlike, .ref h_t_repeats_blocks, .ref h_t_repeats_ends, .ref h_t_repeats_prices, .int t_repeats_rowSize, .int t_repeats_repeatPrice, .int t_repeats_correctionPrice, .int t_repeats_mostCorrections, .int t_repeats_number])), (h_t_repeats_blocks, .inl (cI, 60, .inl t_repeats_blocks)), (h_t_repeats_ends, .inl (cI, 60, .inl t_repeats_ends)), (h_t_table, .inl (cJ, 1625, .inr (.inl t_table)))] sz) := by
  refine Met.ofW (cc := cX1_findItems) (maxL := 8) (ret := none) (by decide) rfl ?_
  intro p e s m args below meth c s₁ B hml hv
  obtain ⟨hargs, hsz, hP, hK, hN, hD0⟩ := hv
  have hx := B.exec
  have hb := B.bytes
  have hr := B.returns
  have hts := atoms_spec (ws := wsX1_findItems) B.pre
  have hown : s.vm.findClass RX1 = some m.cls := findClass_of_methodNamed B.named
  have hlocks := B.notSynchronized
  subst hsz
  have hD := hD0.self (sz := s.heap.size)
  generalize hAe : va_A [(h_t, .inr (1, [.ref h_t_repeats, .int t_fresh, .ref h_t_table, .ref h_t_items])), (h_t_items, .inl (cJ, 25, .inr (.inl t_items))), (h_t_repeats, .inr (4, [.ref h_t_repeats_standing, .ref h_t_repeats_unlike, .ref h_t_repeats_blocks, .ref h_t_repeats_ends, .ref h_t_repeats_prices, .int t_repeats_rowSize, .int t_repeats_repeatPrice, .int t_repeats_correctionPrice, .int t_repeats_mostCorrections, .int t_repeats_number])), (h_t_repeats_blocks, .inl (cI, 60, .inl t_repeats_blocks)), (h_t_repeats_ends, .inl (cI, 60, .inl t_repeats_ends)), (h_t_table, .inl (cJ, 1625, .inr (.inl t_table)))] s.heap.size = A at hD ⊢
  have hA : ∀ q : Nat, s.heap.size ≤ q → A q := fun q h => by rw [← hAe]; exact Or.inr h
  have hS : va_S A s.heap s.heap [] := va_S.rf
  have hP : va_P (dC, dI) vwCl [(h_t, .inr (1, [.ref h_t_repeats, .int t_fresh, .ref h_t_table, .ref h_t_items])), (h_t_items, .inl (cJ, 25, .inr (.inl t_items))), (h_t_repeats, .inr (4, [.ref h_t_repeats_standing, .ref h_t_repeats_unlike, .ref h_t_repeats_blocks, .ref h_t_repeats_ends, .ref h_t_repeats_prices, .int t_repeats_rowSize, .int t_repeats_repeatPrice, .int t_repeats_correctionPrice, .int t_repeats_mostCorrections, .int t_repeats_number])), (h_t_repeats_blocks, .inl (cI, 60, .inl t_repeats_blocks)), (h_t_repeats_ends, .inl (cI, 60, .inl t_repeats_ends)), (h_t_table, .inl (cJ, 1625, .inr (.inl t_table)))] s.heap := hP
  have hl := lv_entry [.ref h_t, .ref h_u, .int x2, .int x3, .int x4] (n := 8) (Nat.le_of_ble_eq_true rfl)
  rw [show entryFrame m args 8 = entryFrame m ([.ref h_t, .ref h_u, .int x2, .int x3, .int x4] : List Value).toArray 8 from by rw [hargs], lg_entry_eq]
  generalize (lg_sl [.ref h_t, .ref h_u, .int x2, .int x3, .int x4] ++ List.replicate (8 - (lg_sl [.ref h_t, .ref h_u, .int x2, .int x3, .int x4]).length) Slot.unset).toArray = ls at hl ⊢
  have hl : lv_has ls 8 [(0, .ref h_t), (1, .ref h_u), (2, .int x2), (3, .int x3), (4, .int x4)] := hl
  generalize hQQ : MQ below (va_Qv (fun (_ : Unit) => True) (fun (_ : Unit) (t : State) => va_P (dC, dI) vwCl [(h_t, .inr (1, [.ref h_t_repeats, .int t_fresh, .ref h_t_table, .ref h_t_items])), (h_t_items, .inl (cJ, 25, .inr (.inl y_t_items))), (h_t_repeats, .inr (4, [.ref h_t_repeats_standing, .ref h_t_repeats_unlike, .ref h_t_repeats_blocks, .ref h_t_repeats_ends, .ref h_t_repeats_prices, .int t_repeats_rowSize, .int t_repeats_repeatPrice, .int t_repeats_correctionPrice, .int t_repeats_mostCorrections, .int t_repeats_number])), (h_t_repeats_blocks, .inl (cI, 60, .inl t_repeats_blocks)), (h_t_repeats_ends, .inl (cI, 60, .inl t_repeats_ends)), (h_t_table, .inl (cJ, 1625, .inr (.inl t_table)))] t.heap ∧ va_K (dC, dI) vwCl (tyA cI cJ cC cS) t ∧ va_D A [(h_t, .inr (1, [.ref h_t_repeats, .int t_fresh, .ref h_t_table, .ref h_t_items])), (h_t_items, .inl (cJ, 25, .inr (.inl y_t_items))), (h_t_repeats, .inr (4, [.ref h_t_repeats_standing, .ref h_t_repeats_unlike, .ref h_t_repeats_blocks, .ref h_t_repeats_ends, .ref h_t_repeats_prices, .int t_repeats_rowSize, .int t_repeats_repeatPrice, .int t_repeats_correctionPrice, .int t_repeats_mostCorrections, .int t_repeats_number])), (h_t_repeats_blocks, .inl (cI, 60, .inl t_repeats_blocks)), (h_t_repeats_ends, .inl (cI, 60, .inl t_repeats_ends)), (h_t_table, .inl (cJ, 1625, .inr (.inl t_table)))]) A) args s 0 0 A = QQ
  obtain ⟨H, hH⟩ : ∃ H : Heap, H = s.heap := ⟨_, rfl⟩
  obtain ⟨locs, hlocs⟩ : ∃ locs : List Loc, locs = [] := ⟨_, rfl⟩
  rw [← hH] at hP
  have hS : va_S A s.heap H locs := by rw [hH, hlocs]; exact hS
  suffices hZ : W p l e (headSpec wsX1_findItems ({ frames := 1, cells := 0, slots := 0, locals := 22 } : Room)).room s m args below meth c H locs 0 0 QQ (F0 m 0 ls []) by rw [hH, hlocs] at hZ; exact hZ
  clear hH hlocs
  have hL53 : ∀ (n53 : Nat) , ∀ (x5 : Int32) (t_items : Nat → Int64) (H : Heap) (locs : List Loc) (ls : Array Slot), fNu_findItems_53 t_repeats_number t_repeats_blocks t_repeats_ends t_table x2 x3 x4 n53 x5 t_items = some y_t_items → va_P (dC, dI) vwCl [(h_t, .inr (1, [.ref h_t_repeats, .int t_fresh, .ref h_t_table, .ref h_t_items])), (h_t_items, .inl (cJ, 25, .inr (.inl t_items))), (h_t_repeats, .inr (4, [.ref h_t_repeats_standing, .ref h_t_repeats_unlike, .ref h_t_repeats_blocks, .ref h_t_repeats_ends, .ref h_t_repeats_prices, .int t_repeats_rowSize, .int t_repeats_repeatPrice, .int t_repeats_correctionPrice, .int t_repeats_mostCorrections, .int t_repeats_number])), (h_t_repeats_blocks, .inl (cI, 60, .inl t_repeats_blocks)), (h_t_repeats_ends, .inl (cI, 60, .inl t_repeats_ends)), (h_t_table, .inl (cJ, 1625, .inr (.inl t_table)))] H → va_D A [(h_t, .inr (1, [.ref h_t_repeats, .int t_fresh, .ref h_t_table, .ref h_t_items])), (h_t_items, .inl (cJ, 25, .inr (.inl t_items))), (h_t_repeats, .inr (4, [.ref h_t_repeats_standing, .ref h_t_repeats_unlike, .ref h_t_repeats_blocks, .ref h_t_repeats_ends, .ref h_t_repeats_prices, .int t_repeats_rowSize, .int t_repeats_repeatPrice, .int t_repeats_correctionPrice, .int t_repeats_mostCorrections, .int t_repeats_number])), (h_t_repeats_blocks, .inl (cI, 60, .inl t_repeats_blocks)), (h_t_repeats_ends, .inl (cI, 60, .inl t_repeats_ends)), (h_t_table, .inl (cJ, 1625, .inr (.inl t_table)))] → va_S A s.heap H locs → lv_has ls 8 [(0, .ref h_t), (2, .int x2), (3, .int x3), (4, .int x4), (5, .int x5)] → W p l e (headSpec wsX1_findItems ({ frames := 1, cells := 0, slots := 0, locals := 22 } : Room)).room s m args below meth c H locs 0 0 QQ (F0 m 53 ls []) := by
    intro n53
    induction n53 with
    | zero =>
      intro x5 t_items H locs ls hres
      rw [fNu_findItems_53] at hres
      cases hres
    | succ n53 ih53 =>
      intro x5 t_items H locs ls hres hP hD hS hl
      rw [fNu_findItems_53] at hres
      refine lv_iload_n hx hb dX1_findItems_53 rfl (lv_at hl 1 rfl) ?_
      refine lv_if_le (tgt := 166) hx hb dX1_findItems_54 (by decide) (fun c_7 => ?_) (fun c_7 => ?_)
      · have hres := it_of hres c_7
        have e9_0 := Option.some.inj hres
        subst e9_0
        rw [← hQQ]
        exact W.vret hx hb hr (fun t ht hW => ⟨⟨(), rfl, trivial, by rw [ht]; exact hP, va_K.moved hW.alike hK, hD⟩, hS.F ht⟩) hS.2.2 dX1_findItems_166
      · have hres := ie_of hres c_7
        refine lv_iload hx hb dX1_findItems_57 (lv_at hl 4 rfl) ?_
        refine lv_aload_n hx hb dX1_findItems_59 rfl (lv_at hl 0 rfl) ?_
        refine va_get (D := (dC, dI)) (ci := 1) (v := .ref h_t_repeats) (C := RX1) (T := TX1) (N := 4) hx hb hts iNu_findItems_X1_findItems_1 hown hK hP 0 rfl rfl 0 (by decide) (hts _ kNu_findItems_X1_findItems_2) (u_same (hts _ kNu_findItems_X1_findItems_3)) rfl dX1_findItems_60 ?_
        refine va_getN (D := (dC, dI)) (ci := 4) (v := .int t_repeats_number) (C := RX5) (T := TX5) (N := 10) hx hb hts iNu_findItems_X1_findItems_4 hown hK hP 2 rfl rfl 9 (by decide) (nwU hN (by decide +kernel : Cond.fieldLinkNest "RepeatNests$Numbers" 30 "RepeatNests$Repeats" "number" "I" "RepeatNests" ∈ nwAll)) (fun _ h9 => h9) rfl dX1_findItems_63 ?_
        refine lv_icmp_ge (tgt := 166) hx hb dX1_findItems_66 (by decide) (fun c_8 => ?_) (fun c_8 => ?_)
        · have hres := it_of hres c_8
          have e9_0 := Option.some.inj hres
          subst e9_0
          rw [← hQQ]
          exact W.vret hx hb hr (fun t ht hW => ⟨⟨(), rfl, trivial, by rw [ht]; exact hP, va_K.moved hW.alike hK, hD⟩, hS.F ht⟩) hS.2.2 dX1_findItems_166
        · have hres := ie_of hres c_8
          refine lv_iload hx hb dX1_findItems_69 (lv_at hl 4 rfl) ?_
          refine lv_bipush (v := (60 : Int32)) hx hb dX1_findItems_71 (by decide) ?_
          refine lv_icmp_ge (tgt := 166) hx hb dX1_findItems_73 (by decide) (fun c_9 => ?_) (fun c_9 => ?_)
          · have hres := it_of hres c_9
            have e9_0 := Option.some.inj hres
            subst e9_0
            rw [← hQQ]
            exact W.vret hx hb hr (fun t ht hW => ⟨⟨(), rfl, trivial, by rw [ht]; exact hP, va_K.moved hW.alike hK, hD⟩, hS.F ht⟩) hS.2.2 dX1_findItems_166
          · have hres := ie_of hres c_9
            refine lv_aload_n hx hb dX1_findItems_76 rfl (lv_at hl 0 rfl) ?_
            refine va_get (D := (dC, dI)) (ci := 1) (v := .ref h_t_repeats) (C := RX1) (T := TX1) (N := 4) hx hb hts iNu_findItems_X1_findItems_1 hown hK hP 0 rfl rfl 0 (by decide) (hts _ kNu_findItems_X1_findItems_2) (u_same (hts _ kNu_findItems_X1_findItems_3)) rfl dX1_findItems_77 ?_
            refine va_getN (D := (dC, dI)) (ci := 4) (v := .ref h_t_repeats_ends) (C := RX5) (T := TX5) (N := 10) hx hb hts iNu_findItems_X1_findItems_4 hown hK hP 2 rfl rfl 3 (by decide) (nwU hN (by decide +kernel : Cond.fieldLinkNest "RepeatNests$Numbers" 36 "RepeatNests$Repeats" "ends" "[I" "RepeatNests" ∈ nwAll)) (fun _ h9 => h9) rfl dX1_findItems_80 ?_
            refine lv_iload hx hb dX1_findItems_83 (lv_at hl 4 rfl) ?_
            obtain ⟨c_10, hres⟩ := ck_of hres
            refine va_iald hx hb hK hP 4 0 rfl rfl c_10 dX1_findItems_85 ?_
            refine lv_istore (lv' := [(6, .int (rd t_repeats_ends x5)), (0, .ref h_t), (2, .int x2), (3, .int x3), (4, .int x4), (5, .int x5)]) hx hb dX1_findItems_86 hl (by decide) rfl (fun ls hl => ?_)
            refine lv_iload_n hx hb dX1_findItems_88 rfl (lv_at hl 2 rfl) ?_
            refine lv_iconst (v := (1 : Int32)) hx hb dX1_findItems_89 (by decide) ?_
            refine lv_isub hx hb dX1_findItems_90 ?_
            refine lv_iload_n hx hb dX1_findItems_91 rfl (lv_at hl 3 rfl) ?_
            refine lv_iload_n hx hb dX1_findItems_92 rfl (lv_at hl 3 rfl) ?_
            refine lv_aload_n hx hb dX1_findItems_93 rfl (lv_at hl 1 rfl) ?_
            refine va_get (D := (dC, dI)) (ci := 1) (v := .ref h_t_repeats) (C := RX1) (T := TX1) (N := 4) hx hb hts iNu_findItems_X1_findItems_1 hown hK hP 0 rfl rfl 0 (by decide) (hts _ kNu_findItems_X1_findItems_2) (u_same (hts _ kNu_findItems_X1_findItems_3)) rfl dX1_findItems_94 ?_
            refine va_getN (D := (dC, dI)) (ci := 4) (v := .ref h_t_repeats_blocks) (C := RX5) (T := TX5) (N := 10) hx hb hts iNu_findItems_X1_findItems_4 hown hK hP 2 rfl rfl 2 (by decide) (nwU hN (by decide +kernel : Cond.fieldLinkNest "RepeatNests$Numbers" 40 "RepeatNests$Repeats" "blocks" "[I" "RepeatNests" ∈ nwAll)) (fun _ h9 => h9) rfl dX1_findItems_97 ?_
            refine lv_iload hx hb dX1_findItems_100 (lv_at hl 5 rfl) ?_
            obtain ⟨c_11, hres⟩ := ck_of hres
            refine va_iald hx hb hK hP 3 0 rfl rfl c_11 dX1_findItems_102 ?_
            refine lv_iadd hx hb dX1_findItems_103 ?_
            obtain ⟨o12, ho12, hres⟩ := bd_of hres
            have hPc := hP.sub (ws' := []) [] rfl
            have hDc := hD.sub (ws' := []) [] (by decide) rfl
            have hFc := va_free (wc := []) hD hS hA [] rfl
            refine va_calli (va_runSN (As := [.int (x2 - (1 : Int32)), .int x3, .int (x3 + (rd t_repeats_blocks x5))]) (rest := []) ⟨hx, hb, hml, hown, hts⟩ (cRN_partIndex l dC dI cI cJ cC cS H.size (x2 - (1 : Int32)) x3 (x3 + (rd t_repeats_blocks x5)) o12 ho12) ⟨va_cnB 3 hts gX1_findItems_X10_partIndex_n18 rfl rfl rfl (nwP hN (by decide +kernel : Cond.methodLinkNest "RepeatNests$Numbers" 18 ({ cls := "RepeatNests", name := "partIndex", desc := "(III)I" } : Jvm.MethodName) "RepeatNests" ∈ nwAll)) (hts _ kNu_findItems_X1_findItems_5) (by decide +kernel) ⟨Nat.le_of_ble_eq_true rfl, Nat.le_of_ble_eq_true rfl⟩, hts _ kNu_findItems_X1_findItems_6, trivial⟩ ⟨fun a U g mk q => by obtain ⟨q0, q1, qP, qK, qN, qD⟩ := q; exact ⟨q0, q1, qP, va_K.moved (u := U) (U := U.calling g mk a) (Vm.Alike.refl U.vm) qK, nwS (u := U) (U := U.calling g mk a) rfl qN, qD⟩, fun U hU hW => ⟨rfl, by rw [hU], by rw [hU]; exact hPc, va_K.moved hW.alike hK, nwW hW hN, hDc.weaken (fun _ _ _ _ => trivial)⟩⟩ rfl rfl hl.1 rfl (lv_room (Nat.le_of_ble_eq_true rfl)) dX1_findItems_104 ⟨Nat.zero_le _, Nat.zero_le _⟩) hS (fun q _ h => hFc q h) hFc (fun r9 u9 t H1 locs ht hvm hw hB hz1 hk1 hS => ?_)
            have hw := hw.symm
            subst hw
            obtain ⟨hP1, hK1, hD1⟩ := hB
            rw [ht] at hP1
            obtain ⟨hP, hD⟩ := va_join (wr := [(h_t, .inr (1, [.ref h_t_repeats, .int t_fresh, .ref h_t_table, .ref h_t_items])), (h_t_items, .inl (cJ, 25, .inr (.inl t_items))), (h_t_repeats, .inr (4, [.ref h_t_repeats_standing, .ref h_t_repeats_unlike, .ref h_t_repeats_blocks, .ref h_t_repeats_ends, .ref h_t_repeats_prices, .int t_repeats_rowSize, .int t_repeats_repeatPrice, .int t_repeats_correctionPrice, .int t_repeats_mostCorrections, .int t_repeats_number])), (h_t_repeats_blocks, .inl (cI, 60, .inl t_repeats_blocks)), (h_t_repeats_ends, .inl (cI, 60, .inl t_repeats_ends)), (h_t_table, .inl (cJ, 1625, .inr (.inl t_table)))]) (w1 := []) hP hD [] [0, 1, 2, 3, 4, 5] rfl rfl (by decide) (by decide) hk1 hFc hP1 hD1
            generalize H1 = H at hP hS ⊢
            have hP : va_P (dC, dI) vwCl [(h_t, .inr (1, [.ref h_t_repeats, .int t_fresh, .ref h_t_table, .ref h_t_items])), (h_t_items, .inl (cJ, 25, .inr (.inl t_items))), (h_t_repeats, .inr (4, [.ref h_t_repeats_standing, .ref h_t_repeats_unlike, .ref h_t_repeats_blocks, .ref h_t_repeats_ends, .ref h_t_repeats_prices, .int t_repeats_rowSize, .int t_repeats_repeatPrice, .int t_repeats_correctionPrice, .int t_repeats_mostCorrections, .int t_repeats_number])), (h_t_repeats_blocks, .inl (cI, 60, .inl t_repeats_blocks)), (h_t_repeats_ends, .inl (cI, 60, .inl t_repeats_ends)), (h_t_table, .inl (cJ, 1625, .inr (.inl t_table)))] H := hP
            have hD : va_D A [(h_t, .inr (1, [.ref h_t_repeats, .int t_fresh, .ref h_t_table, .ref h_t_items])), (h_t_items, .inl (cJ, 25, .inr (.inl t_items))), (h_t_repeats, .inr (4, [.ref h_t_repeats_standing, .ref h_t_repeats_unlike, .ref h_t_repeats_blocks, .ref h_t_repeats_ends, .ref h_t_repeats_prices, .int t_repeats_rowSize, .int t_repeats_repeatPrice, .int t_repeats_correctionPrice, .int t_repeats_mostCorrections, .int t_repeats_number])), (h_t_repeats_blocks, .inl (cI, 60, .inl t_repeats_blocks)), (h_t_repeats_ends, .inl (cI, 60, .inl t_repeats_ends)), (h_t_table, .inl (cJ, 1625, .inr (.inl t_table)))] := hD
            refine lv_istore (lv' := [(7, .int o12), (6, .int (rd t_repeats_ends x5)), (0, .ref h_t), (2, .int x2), (3, .int x3), (4, .int x4), (5, .int x5)]) hx hb dX1_findItems_107 hl (by decide) rfl (fun ls hl => ?_)
            refine lv_iload hx hb dX1_findItems_109 (lv_at hl 1 rfl) ?_
            refine lv_if_lt (tgt := 160) hx hb dX1_findItems_111 (by decide) (fun c_13 => ?_) (fun c_13 => ?_)
            · have hres := it_of hres c_13
              refine lv_iinc (v := (x5 + 1)) (lv' := [(5, .int (x5 + 1)), (7, .int o12), (6, .int (rd t_repeats_ends x5)), (0, .ref h_t), (2, .int x2), (3, .int x3), (4, .int x4)]) hx hb dX1_findItems_160 hl (k := 6) rfl rfl (by decide) rfl (fun ls hl => ?_)
              refine lv_goto (tgt := 53) hx hb dX1_findItems_163 (by decide) ?_
              exact ih53 (x5 + 1) t_items H locs ls hres hP hD hS (lv_sub hl [3, 4, 5, 6, 0] rfl)
            · have hres := ie_of hres c_13
              refine lv_iload hx hb dX1_findItems_114 (lv_at hl 1 rfl) ?_
              refine lv_iload hx hb dX1_findItems_116 (lv_at hl 5 rfl) ?_
              refine lv_icmp_gt (tgt := 160) hx hb dX1_findItems_118 (by decide) (fun c_14 => ?_) (fun c_14 => ?_)
              · have hres := it_of hres c_14
                refine lv_iinc (v := (x5 + 1)) (lv' := [(5, .int (x5 + 1)), (7, .int o12), (6, .int (rd t_repeats_ends x5)), (0, .ref h_t), (2, .int x2), (3, .int x3), (4, .int x4)]) hx hb dX1_findItems_160 hl (k := 6) rfl rfl (by decide) rfl (fun ls hl => ?_)
                refine lv_goto (tgt := 53) hx hb dX1_findItems_163 (by decide) ?_
                exact ih53 (x5 + 1) t_items H locs ls hres hP hD hS (lv_sub hl [3, 4, 5, 6, 0] rfl)
              · have hres := ie_of hres c_14
                refine lv_iload hx hb dX1_findItems_121 (lv_at hl 1 rfl) ?_
                refine lv_bipush (v := (25 : Int32)) hx hb dX1_findItems_123 (by decide) ?_
                refine lv_icmp_ge (tgt := 160) hx hb dX1_findItems_125 (by decide) (fun c_15 => ?_) (fun c_15 => ?_)
                · have hres := it_of hres c_15
                  refine lv_iinc (v := (x5 + 1)) (lv' := [(5, .int (x5 + 1)), (7, .int o12), (6, .int (rd t_repeats_ends x5)), (0, .ref h_t), (2, .int x2), (3, .int x3), (4, .int x4)]) hx hb dX1_findItems_160 hl (k := 6) rfl rfl (by decide) rfl (fun ls hl => ?_)
                  refine lv_goto (tgt := 53) hx hb dX1_findItems_163 (by decide) ?_
                  exact ih53 (x5 + 1) t_items H locs ls hres hP hD hS (lv_sub hl [3, 4, 5, 6, 0] rfl)
                · have hres := ie_of hres c_15
                  refine lv_iload hx hb dX1_findItems_128 (lv_at hl 0 rfl) ?_
                  refine lv_if_lt (tgt := 160) hx hb dX1_findItems_130 (by decide) (fun c_16 => ?_) (fun c_16 => ?_)
                  · have hres := it_of hres c_16
                    refine lv_iinc (v := (x5 + 1)) (lv' := [(5, .int (x5 + 1)), (7, .int o12), (6, .int (rd t_repeats_ends x5)), (0, .ref h_t), (2, .int x2), (3, .int x3), (4, .int x4)]) hx hb dX1_findItems_160 hl (k := 6) rfl rfl (by decide) rfl (fun ls hl => ?_)
                    refine lv_goto (tgt := 53) hx hb dX1_findItems_163 (by decide) ?_
                    exact ih53 (x5 + 1) t_items H locs ls hres hP hD hS (lv_sub hl [3, 4, 5, 6, 0] rfl)
                  · have hres := ie_of hres c_16
                    refine lv_iload hx hb dX1_findItems_133 (lv_at hl 0 rfl) ?_
                    refine lv_aload_n hx hb dX1_findItems_135 rfl (lv_at hl 2 rfl) ?_
                    refine va_get (D := (dC, dI)) (ci := 1) (v := .ref h_t_table) (C := RX1) (T := TX1) (N := 4) hx hb hts iNu_findItems_X1_findItems_1 hown hK hP 0 rfl rfl 2 (by decide) (hts _ kNu_findItems_X1_findItems_7) (fun _ h9 => h9) rfl dX1_findItems_136 ?_
                    refine va_alen hx hb hK hP 5 1 rfl (ty := .long) rfl (v := (1625 : Int32)) (by show Int32.ofNat 1625 = (1625 : Int32); decide) dX1_findItems_139 ?_
                    refine lv_icmp_ge (tgt := 160) hx hb dX1_findItems_140 (by decide) (fun c_17 => ?_) (fun c_17 => ?_)
                    · have hres := it_of hres c_17
                      refine lv_iinc (v := (x5 + 1)) (lv' := [(5, .int (x5 + 1)), (7, .int o12), (6, .int (rd t_repeats_ends x5)), (0, .ref h_t), (2, .int x2), (3, .int x3), (4, .int x4)]) hx hb dX1_findItems_160 hl (k := 6) rfl rfl (by decide) rfl (fun ls hl => ?_)
                      refine lv_goto (tgt := 53) hx hb dX1_findItems_163 (by decide) ?_
                      exact ih53 (x5 + 1) t_items H locs ls hres hP hD hS (lv_sub hl [3, 4, 5, 6, 0] rfl)
                    · have hres := ie_of hres c_17
                      refine lv_aload_n hx hb dX1_findItems_143 rfl (lv_at hl 2 rfl) ?_
                      refine va_get (D := (dC, dI)) (ci := 1) (v := .ref h_t_items) (C := RX1) (T := TX1) (N := 4) hx hb hts iNu_findItems_X1_findItems_1 hown hK hP 0 rfl rfl 3 (by decide) (hts _ kNu_findItems_X1_findItems_0) (fun _ h9 => h9) rfl dX1_findItems_144 ?_
                      refine lv_iload hx hb dX1_findItems_147 (lv_at hl 1 rfl) ?_
                      refine lv_dup2_11 hx hb dX1_findItems_149 rfl rfl ?_
                      obtain ⟨c_18, hres⟩ := ck_of hres
                      refine va_lald hx hb hK hP 1 1 rfl rfl c_18 dX1_findItems_150 ?_
                      refine lv_aload_n hx hb dX1_findItems_151 rfl (lv_at hl 2 rfl) ?_
                      refine va_get (D := (dC, dI)) (ci := 1) (v := .ref h_t_table) (C := RX1) (T := TX1) (N := 4) hx hb hts iNu_findItems_X1_findItems_1 hown hK hP 0 rfl rfl 2 (by decide) (hts _ kNu_findItems_X1_findItems_7) (fun _ h9 => h9) rfl dX1_findItems_152 ?_
                      refine lv_iload hx hb dX1_findItems_155 (lv_at hl 0 rfl) ?_
                      obtain ⟨c_19, hres⟩ := ck_of hres
                      refine va_lald hx hb hK hP 5 1 rfl rfl c_19 dX1_findItems_157 ?_
                      refine lv_ladd hx hb dX1_findItems_158 ?_
                      obtain ⟨c_20, hres⟩ := ck_of hres
                      refine va_last hx hb hK hP hD hS 1 1 rfl rfl c_20 dX1_findItems_159 (fun H locs hP hD hS => ?_)
                      have hP : va_P (dC, dI) vwCl [(h_t, .inr (1, [.ref h_t_repeats, .int t_fresh, .ref h_t_table, .ref h_t_items])), (h_t_items, .inl (cJ, 25, .inr (.inl (wrL t_items (rd t_repeats_ends x5) ((rdL t_items (rd t_repeats_ends x5)) + (rdL t_table o12)))))), (h_t_repeats, .inr (4, [.ref h_t_repeats_standing, .ref h_t_repeats_unlike, .ref h_t_repeats_blocks, .ref h_t_repeats_ends, .ref h_t_repeats_prices, .int t_repeats_rowSize, .int t_repeats_repeatPrice, .int t_repeats_correctionPrice, .int t_repeats_mostCorrections, .int t_repeats_number])), (h_t_repeats_blocks, .inl (cI, 60, .inl t_repeats_blocks)), (h_t_repeats_ends, .inl (cI, 60, .inl t_repeats_ends)), (h_t_table, .inl (cJ, 1625, .inr (.inl t_table)))] H := hP
                      have hD : va_D A [(h_t, .inr (1, [.ref h_t_repeats, .int t_fresh, .ref h_t_table, .ref h_t_items])), (h_t_items, .inl (cJ, 25, .inr (.inl (wrL t_items (rd t_repeats_ends x5) ((rdL t_items (rd t_repeats_ends x5)) + (rdL t_table o12)))))), (h_t_repeats, .inr (4, [.ref h_t_repeats_standing, .ref h_t_repeats_unlike, .ref h_t_repeats_blocks, .ref h_t_repeats_ends, .ref h_t_repeats_prices, .int t_repeats_rowSize, .int t_repeats_repeatPrice, .int t_repeats_correctionPrice, .int t_repeats_mostCorrections, .int t_repeats_number])), (h_t_repeats_blocks, .inl (cI, 60, .inl t_repeats_blocks)), (h_t_repeats_ends, .inl (cI, 60, .inl t_repeats_ends)), (h_t_table, .inl (cJ, 1625, .inr (.inl t_table)))] := hD
                      refine lv_iinc (v := (x5 + 1)) (lv' := [(5, .int (x5 + 1)), (7, .int o12), (6, .int (rd t_repeats_ends x5)), (0, .ref h_t), (2, .int x2), (3, .int x3), (4, .int x4)]) hx hb dX1_findItems_160 hl (k := 6) rfl rfl (by decide) rfl (fun ls hl => ?_)
                      refine lv_goto (tgt := 53) hx hb dX1_findItems_163 (by decide) ?_
                      exact ih53 (x5 + 1) (wrL t_items (rd t_repeats_ends x5) ((rdL t_items (rd t_repeats_ends x5)) + (rdL t_table o12))) H locs ls hres hP hD hS (lv_sub hl [3, 4, 5, 6, 0] rfl)
  have hL5 : ∀ (n5 : Nat) , ∀ (x5 : Int32) (t_items : Nat → Int64) (H : Heap) (locs : List Loc) (ls : Array Slot), fNu_findItems_5 t_repeats_number t_repeats_blocks t_repeats_ends t_table x2 x3 x4 n5 x5 t_items = some y_t_items → va_P (dC, dI) vwCl [(h_t, .inr (1, [.ref h_t_repeats, .int t_fresh, .ref h_t_table, .ref h_t_items])), (h_t_items, .inl (cJ, 25, .inr (.inl t_items))), (h_t_repeats, .inr (4, [.ref h_t_repeats_standing, .ref h_t_repeats_unlike, .ref h_t_repeats_blocks, .ref h_t_repeats_ends, .ref h_t_repeats_prices, .int t_repeats_rowSize, .int t_repeats_repeatPrice, .int t_repeats_correctionPrice, .int t_repeats_mostCorrections, .int t_repeats_number])), (h_t_repeats_blocks, .inl (cI, 60, .inl t_repeats_blocks)), (h_t_repeats_ends, .inl (cI, 60, .inl t_repeats_ends)), (h_t_table, .inl (cJ, 1625, .inr (.inl t_table)))] H → va_D A [(h_t, .inr (1, [.ref h_t_repeats, .int t_fresh, .ref h_t_table, .ref h_t_items])), (h_t_items, .inl (cJ, 25, .inr (.inl t_items))), (h_t_repeats, .inr (4, [.ref h_t_repeats_standing, .ref h_t_repeats_unlike, .ref h_t_repeats_blocks, .ref h_t_repeats_ends, .ref h_t_repeats_prices, .int t_repeats_rowSize, .int t_repeats_repeatPrice, .int t_repeats_correctionPrice, .int t_repeats_mostCorrections, .int t_repeats_number])), (h_t_repeats_blocks, .inl (cI, 60, .inl t_repeats_blocks)), (h_t_repeats_ends, .inl (cI, 60, .inl t_repeats_ends)), (h_t_table, .inl (cJ, 1625, .inr (.inl t_table)))] → va_S A s.heap H locs → lv_has ls 8 [(0, .ref h_t), (2, .int x2), (3, .int x3), (4, .int x4), (5, .int x5)] → W p l e (headSpec wsX1_findItems ({ frames := 1, cells := 0, slots := 0, locals := 22 } : Room)).room s m args below meth c H locs 0 0 QQ (F0 m 5 ls []) := by
    intro n5
    induction n5 with
    | zero =>
      intro x5 t_items H locs ls hres
      rw [fNu_findItems_5] at hres
      cases hres
    | succ n5 ih5 =>
      intro x5 t_items H locs ls hres hP hD hS hl
      rw [fNu_findItems_5] at hres
      refine lv_iload hx hb dX1_findItems_5 (lv_at hl 4 rfl) ?_
      refine lv_if_lt (tgt := 50) hx hb dX1_findItems_7 (by decide) (fun c_1 => ?_) (fun c_1 => ?_)
      · have hres := it_of hres c_1
        refine lv_iconst (v := (0 : Int32)) hx hb dX1_findItems_50 (by decide) ?_
        refine lv_istore (lv' := [(5, .int (0 : Int32)), (0, .ref h_t), (2, .int x2), (3, .int x3), (4, .int x4)]) hx hb dX1_findItems_51 hl (by decide) rfl (fun ls hl => ?_)
        exact hL53 FU (0 : Int32) t_items H locs ls hres hP hD hS (lv_sub hl [1, 2, 3, 4, 0] rfl)
      · have hres := ie_of hres c_1
        refine lv_iload hx hb dX1_findItems_10 (lv_at hl 4 rfl) ?_
        refine lv_iload hx hb dX1_findItems_12 (lv_at hl 3 rfl) ?_
        refine lv_icmp_gt (tgt := 50) hx hb dX1_findItems_14 (by decide) (fun c_2 => ?_) (fun c_2 => ?_)
        · have hres := it_of hres c_2
          refine lv_iconst (v := (0 : Int32)) hx hb dX1_findItems_50 (by decide) ?_
          refine lv_istore (lv' := [(5, .int (0 : Int32)), (0, .ref h_t), (2, .int x2), (3, .int x3), (4, .int x4)]) hx hb dX1_findItems_51 hl (by decide) rfl (fun ls hl => ?_)
          exact hL53 FU (0 : Int32) t_items H locs ls hres hP hD hS (lv_sub hl [1, 2, 3, 4, 0] rfl)
        · have hres := ie_of hres c_2
          refine lv_iload hx hb dX1_findItems_17 (lv_at hl 4 rfl) ?_
          refine lv_bipush (v := (25 : Int32)) hx hb dX1_findItems_19 (by decide) ?_
          refine lv_icmp_ge (tgt := 50) hx hb dX1_findItems_21 (by decide) (fun c_3 => ?_) (fun c_3 => ?_)
          · have hres := it_of hres c_3
            refine lv_iconst (v := (0 : Int32)) hx hb dX1_findItems_50 (by decide) ?_
            refine lv_istore (lv' := [(5, .int (0 : Int32)), (0, .ref h_t), (2, .int x2), (3, .int x3), (4, .int x4)]) hx hb dX1_findItems_51 hl (by decide) rfl (fun ls hl => ?_)
            exact hL53 FU (0 : Int32) t_items H locs ls hres hP hD hS (lv_sub hl [1, 2, 3, 4, 0] rfl)
          · have hres := ie_of hres c_3
            refine lv_aload_n hx hb dX1_findItems_24 rfl (lv_at hl 0 rfl) ?_
            refine va_get (D := (dC, dI)) (ci := 1) (v := .ref h_t_items) (C := RX1) (T := TX1) (N := 4) hx hb hts iNu_findItems_X1_findItems_1 hown hK hP 0 rfl rfl 3 (by decide) (hts _ kNu_findItems_X1_findItems_0) (fun _ h9 => h9) rfl dX1_findItems_25 ?_
            refine lv_iload hx hb dX1_findItems_28 (lv_at hl 4 rfl) ?_
            refine lv_iload hx hb dX1_findItems_30 (lv_at hl 4 rfl) ?_
            refine lv_iload_n hx hb dX1_findItems_32 rfl (lv_at hl 2 rfl) ?_
            refine lv_iconst (v := (1 : Int32)) hx hb dX1_findItems_33 (by decide) ?_
            refine lv_iadd hx hb dX1_findItems_34 ?_
            refine lv_icmp_ne (tgt := 42) hx hb dX1_findItems_35 (by decide) (fun c_4 => ?_) (fun c_4 => ?_)
            · have hres := ie_of hres c_4
              refine lv_lconst (v := (0 : Int64)) hx hb dX1_findItems_42 (by decide) ?_
              obtain ⟨c_5, hres⟩ := ck_of hres
              refine va_last hx hb hK hP hD hS 1 1 rfl rfl c_5 dX1_findItems_43 (fun H locs hP hD hS => ?_)
              have hP : va_P (dC, dI) vwCl [(h_t, .inr (1, [.ref h_t_repeats, .int t_fresh, .ref h_t_table, .ref h_t_items])), (h_t_items, .inl (cJ, 25, .inr (.inl (wrL t_items x5 (0 : Int64))))), (h_t_repeats, .inr (4, [.ref h_t_repeats_standing, .ref h_t_repeats_unlike, .ref h_t_repeats_blocks, .ref h_t_repeats_ends, .ref h_t_repeats_prices, .int t_repeats_rowSize, .int t_repeats_repeatPrice, .int t_repeats_correctionPrice, .int t_repeats_mostCorrections, .int t_repeats_number])), (h_t_repeats_blocks, .inl (cI, 60, .inl t_repeats_blocks)), (h_t_repeats_ends, .inl (cI, 60, .inl t_repeats_ends)), (h_t_table, .inl (cJ, 1625, .inr (.inl t_table)))] H := hP
              have hD : va_D A [(h_t, .inr (1, [.ref h_t_repeats, .int t_fresh, .ref h_t_table, .ref h_t_items])), (h_t_items, .inl (cJ, 25, .inr (.inl (wrL t_items x5 (0 : Int64))))), (h_t_repeats, .inr (4, [.ref h_t_repeats_standing, .ref h_t_repeats_unlike, .ref h_t_repeats_blocks, .ref h_t_repeats_ends, .ref h_t_repeats_prices, .int t_repeats_rowSize, .int t_repeats_repeatPrice, .int t_repeats_correctionPrice, .int t_repeats_mostCorrections, .int t_repeats_number])), (h_t_repeats_blocks, .inl (cI, 60, .inl t_repeats_blocks)), (h_t_repeats_ends, .inl (cI, 60, .inl t_repeats_ends)), (h_t_table, .inl (cJ, 1625, .inr (.inl t_table)))] := hD
              refine lv_iinc (v := (x5 + 1)) (lv' := [(5, .int (x5 + 1)), (0, .ref h_t), (2, .int x2), (3, .int x3), (4, .int x4)]) hx hb dX1_findItems_44 hl (k := 4) rfl rfl (by decide) rfl (fun ls hl => ?_)
              refine lv_goto (tgt := 5) hx hb dX1_findItems_47 (by decide) ?_
              exact ih5 (x5 + 1) (wrL t_items x5 (0 : Int64)) H locs ls hres hP hD hS (lv_sub hl [1, 2, 3, 4, 0] rfl)
            · have hres := it_of hres c_4
              refine lv_lconst (v := (1 : Int64)) hx hb dX1_findItems_38 (by decide) ?_
              refine lv_goto (tgt := 43) hx hb dX1_findItems_39 (by decide) ?_
              obtain ⟨c_6, hres⟩ := ck_of hres
              refine va_last hx hb hK hP hD hS 1 1 rfl rfl c_6 dX1_findItems_43 (fun H locs hP hD hS => ?_)
              have hP : va_P (dC, dI) vwCl [(h_t, .inr (1, [.ref h_t_repeats, .int t_fresh, .ref h_t_table, .ref h_t_items])), (h_t_items, .inl (cJ, 25, .inr (.inl (wrL t_items x5 (1 : Int64))))), (h_t_repeats, .inr (4, [.ref h_t_repeats_standing, .ref h_t_repeats_unlike, .ref h_t_repeats_blocks, .ref h_t_repeats_ends, .ref h_t_repeats_prices, .int t_repeats_rowSize, .int t_repeats_repeatPrice, .int t_repeats_correctionPrice, .int t_repeats_mostCorrections, .int t_repeats_number])), (h_t_repeats_blocks, .inl (cI, 60, .inl t_repeats_blocks)), (h_t_repeats_ends, .inl (cI, 60, .inl t_repeats_ends)), (h_t_table, .inl (cJ, 1625, .inr (.inl t_table)))] H := hP
              have hD : va_D A [(h_t, .inr (1, [.ref h_t_repeats, .int t_fresh, .ref h_t_table, .ref h_t_items])), (h_t_items, .inl (cJ, 25, .inr (.inl (wrL t_items x5 (1 : Int64))))), (h_t_repeats, .inr (4, [.ref h_t_repeats_standing, .ref h_t_repeats_unlike, .ref h_t_repeats_blocks, .ref h_t_repeats_ends, .ref h_t_repeats_prices, .int t_repeats_rowSize, .int t_repeats_repeatPrice, .int t_repeats_correctionPrice, .int t_repeats_mostCorrections, .int t_repeats_number])), (h_t_repeats_blocks, .inl (cI, 60, .inl t_repeats_blocks)), (h_t_repeats_ends, .inl (cI, 60, .inl t_repeats_ends)), (h_t_table, .inl (cJ, 1625, .inr (.inl t_table)))] := hD
              refine lv_iinc (v := (x5 + 1)) (lv' := [(5, .int (x5 + 1)), (0, .ref h_t), (2, .int x2), (3, .int x3), (4, .int x4)]) hx hb dX1_findItems_44 hl (k := 4) rfl rfl (by decide) rfl (fun ls hl => ?_)
              refine lv_goto (tgt := 5) hx hb dX1_findItems_47 (by decide) ?_
              exact ih5 (x5 + 1) (wrL t_items x5 (1 : Int64)) H locs ls hres hP hD hS (lv_sub hl [1, 2, 3, 4, 0] rfl)
  rw [fNu_findItems] at hres
  refine lv_iload_n hx hb dX1_findItems_0 rfl (lv_at hl 3 rfl) ?_
  refine lv_iconst (v := (1 : Int32)) hx hb dX1_findItems_1 (by decide) ?_
  refine lv_iadd hx hb dX1_findItems_2 ?_
  refine lv_istore (lv' := [(5, .int (x3 + (1 : Int32))), (0, .ref h_t), (1, .ref h_u), (2, .int x2), (3, .int x3), (4, .int x4)]) hx hb dX1_findItems_3 hl (by decide) rfl (fun ls hl => ?_)
  exact hL5 FU (x3 + (1 : Int32)) t_items H locs ls hres hP hD hS (lv_sub hl [1, 3, 4, 5, 0] rfl)

-- Nu_fill
theorem kNu_fill_X2_fill_0 : Cond.fieldLink RX2 12 "RepeatNests$Parts" "repeats" "LRepeatNests$Repeats;" ∈ wsX2_fill := by decide +kernel
theorem iNu_fill_X2_fill_1 : ∀ w ∈ wsX10, w ∈ wsX2_fill := by decide +kernel
theorem iNu_fill_X2_fill_2 : ∀ w ∈ wsX70, w ∈ wsX2_fill := by decide +kernel
theorem kNu_fill_X2_fill_3 : Cond.methodLink RX2 40 Lib.Math.min.name ∈ wsX2_fill := by decide +kernel
theorem kNu_fill_X2_fill_4 : Cond.static Lib.Math.min.name ∈ wsX2_fill := by decide +kernel
theorem kNu_fill_X2_fill_5 : Cond.initialized "java/lang/Math" ∈ wsX2_fill := by decide +kernel
theorem kNu_fill_X2_fill_6 : Cond.code Lib.Math.min.name Lib.Math.min.code 2 (some .int) ∈ wsX2_fill := by decide +kernel
set_option maxHeartbeats 4000000 in
set_option maxRecDepth 100000 in
theorem cNu_fill (l : Launch) (dC : Nat → ClassId) (dI : Nat → Nat → Nat) (cI cJ cC cS : ClassId) (h_t h_t_repeats h_t_table h_t_items h_t_repeats_standing h_t_repeats_unlike h_t_repeats_blocks h_t_repeats_ends h_t_repeats_prices h_u h_u_letters h_u_settings : Nat) (sz : Nat) (t_fresh : Int32) (t_items : Nat → Int64) (t_repeats_rowSize : Int32) (t_repeats_repeatPrice : Int32) (t_repeats_correctionPrice : Int32) (t_repeats_mostCorrections : Int32) (t_repeats_number : Int32) (t_repeats_blocks : Nat → Int32) (t_repeats_ends : Nat → Int32) (t_repeats_prices : Nat → Int32) (t_repeats_standing : Nat → Int32) (t_repeats_unlike : Nat → Int32) (t_table : Nat → Int64) (u_size : Int32) (u_letters : Nat → Int32) (u_settings : Nat → Int32) (x2 : Int32) (x3 : Int32) (y_t_items : Nat → Int64) (y_t_repeats_rowSize : Int32) (y_t_repeats_repeatPrice : Int32) (y_t_repeats_correctionPrice : Int32) (y_t_repeats_mostCorrections : Int32) (y_t_repeats_number : Int32) (y_t_repeats_blocks : Nat → Int32) (y_t_repeats_ends : Nat → Int32) (y_t_repeats_prices : Nat → Int32) (y_t_repeats_standing : Nat → Int32) (y_t_repeats_unlike : Nat → Int32) (y_t_table : Nat → Int64) (hres : fNu_fill u_size u_letters u_settings t_items t_repeats_number t_repeats_blocks t_repeats_ends t_repeats_prices t_repeats_standing t_repeats_unlike t_table x2 x3 = some (y_t_items, y_t_repeats_rowSize, y_t_repeats_repeatPrice, y_t_repeats_correctionPrice, y_t_repeats_mostCorrections, y_t_repeats_number, y_t_repeats_blocks, y_t_repeats_ends, y_t_repeats_prices, y_t_repeats_standing, y_t_repeats_unlike, y_t_table)) :
    Met l yX2_fill wsX2_fill ({ frames := 3, cells := 0, slots := 0, locals := 68 } : Room) (va_Pc [.ref h_t, .ref h_u, .int x2, .int x3] (fun (U : State) => U.heap.size = sz ∧ va_P (dC, dI) vwCl [(h_t, .inr (1, [.ref h_t_repeats, .int t_fresh, .ref h_t_table, .ref h_t_items])), (h_t_items, .inl (cJ, 25, .inr (.inl t_items))), (h_t_repeats, .inr (4, [.ref h_t_repeats_standing, .ref h_t_repeats_unlike, .ref h_t_repeats_blocks, .ref h_t_repeats_ends, .ref h_t_repeats_prices, .int t_repeats_rowSize, .int t_repeats_repeatPrice, .int t_repeats_correctionPrice, .int t_repeats_mostCorrections, .int t_repeats_number])), (h_t_repeats_blocks, .inl (cI, 60, .inl t_repeats_blocks)), (h_t_repeats_ends, .inl (cI, 60, .inl t_repeats_ends)), (h_t_repeats_prices, .inl (cI, 60, .inl t_repeats_prices)), (h_t_repeats_standing, .inl (cI, 4, .inl t_repeats_standing)), (h_t_repeats_unlike, .inl (cI, 24, .inl t_repeats_unlike)), (h_t_table, .inl (cJ, 1625, .inr (.inl t_table))), (h_u, .inr (6, [.ref h_u_letters, .ref h_u_settings, .int u_size])), (h_u_letters, .inl (cI, 24, .inl u_letters)), (h_u_settings, .inl (cI, 5, .inl u_settings))] U.heap ∧ va_K (dC, dI) vwCl (tyA cI cJ cC cS) U ∧ nwN U ∧ va_D (fun _ => True) [(h_t, .inr (1, [.ref h_t_repeats, .int t_fresh, .ref h_t_table, .ref h_t_items])), (h_t_items, .inl (cJ, 25, .inr (.inl t_items))), (h_t_repeats, .inr (4, [.ref h_t_repeats_standing, .ref h_t_repeats_unlike, .ref h_t_repeats_blocks, .ref h_t_repeats_ends, .ref h_t_repeats_prices, .int t_repeats_rowSize, .int t_repeats_repeatPrice, .int t_repeats_correctionPrice, .int t_repeats_mostCorrections, .int t_repeats_number])), (h_t_repeats_blocks, .inl (cI, 60, .inl t_repeats_blocks)), (h_t_repeats_ends, .inl (cI, 60, .inl t_repeats_ends)), (h_t_repeats_prices, .inl (cI, 60, .inl t_repeats_prices)), (h_t_repeats_standing, .inl (cI, 4, .inl t_repeats_standing)), (h_t_repeats_unlike, .inl (cI, 24, .inl t_repeats_unlike)), (h_t_table, .inl (cJ, 1625, .inr (.inl t_table))), (h_u, .inr (6, [.ref h_u_letters, .ref h_u_settings, .int u_size])), (h_u_letters, .inl (cI, 24, .inl u_letters)), (h_u_settings, .inl (cI, 5, .inl u_settings))])) (va_Qv (fun (_ : Unit) => True) (fun (_ : Unit) (t : State) => va_P (dC, dI) vwCl [(h_t, .inr (1, [.ref h_t_repeats, .int t_fresh, .ref h_t_table, .ref h_t_items])), (h_t_items, .inl (cJ, 25, .inr (.inl y_t_items))), (h_t_repeats, .inr (4, [.ref h_t_repeats_standing, .ref h_t_repeats_unlike, .ref h_t_repeats_blocks, .ref h_t_repeats_ends, .ref h_t_repeats_prices, .int y_t_repeats_rowSize, .int y_t_repeats_repeatPrice, .int y_t_repeats_correctionPrice, .int y_t_repeats_mostCorrections, .int y_t_repeats_number])), (h_t_repeats_blocks, .inl (cI, 60, .inl y_t_repeats_blocks)), (h_t_repeats_ends, .inl (cI, 60, .inl y_t_repeats_ends)), (h_t_repeats_prices, .inl (cI, 60, .inl y_t_repeats_prices)), (h_t_repeats_standing, .inl (cI, 4, .inl y_t_repeats_standing)), (h_t_repeats_unlike, .inl (cI, 24, .inl y_t_repeats_unlike)), (h_t_table, .inl (cJ, 1625, .inr (.inl y_t_table))), (h_u, .inr (6, [.ref h_u_letters, .ref h_u_settings, .int u_size])), (h_u_letters, .inl (cI, 24, .inl u_letters)), (h_u_settings, .inl (cI, 5, .inl u_settings))] t.heap ∧ va_K (dC, dI) vwCl (tyA cI cJ cC cS) t ∧ va_D (va_A [(h_t, .inr (1, [.ref h_t_repeats, .int t_fresh, .ref h_t_table, .ref h_t_items])), (h_t_items, .inl (cJ, 25, .inr (.inl t_items))), (h_t_repeats, .inr (4, [.ref h_t_repeats_standing, .ref h_t_repeats_unlike, .ref h_t_repeats_blocks, .ref h_t_repeats_ends, .ref h_t_repeats_prices, .int t_repeats_rowSize, .int t_repeats_repeatPrice, .int t_repeats_correctionPrice, .int t_repeats_mostCorrections, .int t_repeats_number])), (h_t_repeats_blocks, .inl (cI, 60, .inl t_repeats_blocks)), (h_t_repeats_ends, .inl (cI, 60, .inl t_repeats_ends)), (h_t_repeats_prices, .inl (cI, 60, .inl t_repeats_prices)), (h_t_repeats_standing, .inl (cI, 4, .inl t_repeats_standing)), (h_t_repeats_unlike, .inl (cI, 24, .inl t_repeats_unlike)), (h_t_table, .inl (cJ, 1625, .inr (.inl t_table))), (h_u, .inr (6, [.ref h_u_letters, .ref h_u_settings, .int u_size])), (h_u_letters, .inl (cI, 24, .inl u_letters)), (h_u_settings, .inl (cI, 5, .inl u_settings))] sz) [(h_t, .inr (1, [.ref h_t_repeats, .int t_fresh, .ref h_t_table, .ref h_t_items])), (h_t_items, .inl (cJ, 25, .inr (.inl y_t_items))), (h_t_repeats, .inr (4, [.ref h_t_repeats_standing, .ref h_t_repeats_unlike, .ref h_t_repeats_blocks, .ref h_t_repeats_ends, .ref h_t_repeats_prices, .int y_t_repeats_rowSize, .int y_t_repeats_repeatPrice, .int y_t_repeats_correctionPrice, .int y_t_repeats_mostCorrections, .int y_t_repeats_number])), (h_t_repeats_blocks, .inl (cI, 60, .inl y_t_repeats_blocks)), (h_t_repeats_ends, .inl (cI, 60, .inl y_t_repeats_ends)), (h_t_repeats_prices, .inl (cI, 60, .inl y_t_repeats_prices)), (h_t_repeats_standing, .inl (cI, 4, .inl y_t_repeats_standing)), (h_t_repeats_unlike, .inl (cI, 24, .inl y_t_repeats_unlike)), (h_t_table, .inl (cJ, 1625, .inr (.inl y_t_table))), (h_u, .inr (6, [.ref h_u_letters, .ref h_u_settings, .int u_size])), (h_u_letters, .inl (cI, 24, .inl u_letters)), (h_u_settings, .inl (cI, 5, .inl u_settings))]) (va_A [(h_t, .inr (1, [.ref h_t_repeats, .int t_fresh, .ref h_t_table, .ref h_t_items])), (h_t_items, .inl (cJ, 25, .inr (.inl t_items))), (h_t_repeats, .inr (4, [.ref h_t_repeats_standing, .ref h_t_repeats_unlike, .ref h_t_repeats_blocks, .ref h_t_repeats_ends, .ref h_t_repeats_prices, .int t_repeats_rowSize, .int t_repeats_repeatPrice, .int t_repeats_correctionPrice, .int t_repeats_mostCorrections, .int t_repeats_number])), (h_t_repeats_blocks, .inl (cI, 60, .inl t_repeats_blocks)), (h_t_repeats_ends, .inl (cI, 60, .inl t_repeats_ends)), (h_t_repeats_prices, .inl (cI, 60, .inl t_repeats_prices)), (h_t_repeats_standing, .inl (cI, 4, .inl t_repeats_standing)), (h_t_repeats_unlike, .inl (cI, 24, .inl t_repeats_unlike)), (h_t_table, .inl (cJ, 1625, .inr (.inl t_table))), (h_u, .inr (6, [.ref h_u_letters, .ref h_u_settings, .int u_size])), (h_u_letters, .inl (cI, 24, .inl u_letters)), (h_u_settings, .inl (cI, 5, .inl u_settings))] sz)) 0 0 (va_A [(h_t, .inr (1, [.ref h_t_repeats, .int t_fresh, .ref h_t_table, .ref h_t_items])), (h_t_items, .inl (cJ, 25, .inr (.inl t_items))), (h_t_repeats, .inr (4, [.ref h_t_repeats_standing, .ref h_t_repeats_unlike, .ref h_t_repeats_blocks, .ref h_t_repeats_ends, .ref h_t_repeats_prices, .int t_repeats_rowSize, .int t_repeats_repeatPrice, .int t_repeats_correctionPrice, .int t_repeats_mostCorrections, .int t_repeats_number])), (h_t_repeats_blocks, .inl (cI, 60, .inl t_repeats_blocks)), (h_t_repeats_ends, .inl (cI, 60, .inl t_repeats_ends)), (h_t_repeats_prices, .inl (cI, 60, .inl t_repeats_prices)), (h_t_repeats_standing, .inl (cI, 4, .inl t_repeats_standing)), (h_t_repeats_unlike, .inl (cI, 24, .inl t_repeats_unlike)), (h_t_table, .inl (cJ, 1625, .inr (.inl t_table))), (h_u, .inr (6, [.ref h_u_letters, .ref h_u_settings, .int u_size])), (h_u_letters, .inl (cI, 24, .inl u_letters)), (h_u_settings, .inl (cI, 5, .inl u_settings))] sz) := by
  refine Met.ofW (cc := cX2_fill) (maxL := 11) (ret := none) (by decide) rfl ?_
  intro p e s m args below meth c s₁ B hml hv
  obtain ⟨hargs, hsz, hP, hK, hN, hD0⟩ := hv
  have hx := B.exec
  have hb := B.bytes
  have hr := B.returns
  have hts := atoms_spec (ws := wsX2_fill) B.pre
  have hown : s.vm.findClass RX2 = some m.cls := findClass_of_methodNamed B.named
  have hlocks := B.notSynchronized
  subst hsz
  have hD := hD0.self (sz := s.heap.size)
  generalize hAe : va_A [(h_t, .inr (1, [.ref h_t_repeats, .int t_fresh, .ref h_t_table, .ref h_t_items])), (h_t_items, .inl (cJ, 25, .inr (.inl t_items))), (h_t_repeats, .inr (4, [.ref h_t_repeats_standing, .ref h_t_repeats_unlike, .ref h_t_repeats_blocks, .ref h_t_repeats_ends, .ref h_t_repeats_prices, .int t_repeats_rowSize, .int t_repeats_repeatPrice, .int t_repeats_correctionPrice, .int t_repeats_mostCorrections, .int t_repeats_number])), (h_t_repeats_blocks, .inl (cI, 60, .inl t_repeats_blocks)), (h_t_repeats_ends, .inl (cI, 60, .inl t_repeats_ends)), (h_t_repeats_prices, .inl (cI, 60, .inl t_repeats_prices)), (h_t_repeats_standing, .inl (cI, 4, .inl t_repeats_standing)), (h_t_repeats_unlike, .inl (cI, 24, .inl t_repeats_unlike)), (h_t_table, .inl (cJ, 1625, .inr (.inl t_table))), (h_u, .inr (6, [.ref h_u_letters, .ref h_u_settings, .int u_size])), (h_u_letters, .inl (cI, 24, .inl u_letters)), (h_u_settings, .inl (cI, 5, .inl u_settings))] s.heap.size = A at hD ⊢
  have hA : ∀ q : Nat, s.heap.size ≤ q → A q := fun q h => by rw [← hAe]; exact Or.inr h
  have hS : va_S A s.heap s.heap [] := va_S.rf
  have hP : va_P (dC, dI) vwCl [(h_t, .inr (1, [.ref h_t_repeats, .int t_fresh, .ref h_t_table, .ref h_t_items])), (h_t_items, .inl (cJ, 25, .inr (.inl t_items))), (h_t_repeats, .inr (4, [.ref h_t_repeats_standing, .ref h_t_repeats_unlike, .ref h_t_repeats_blocks, .ref h_t_repeats_ends, .ref h_t_repeats_prices, .int t_repeats_rowSize, .int t_repeats_repeatPrice, .int t_repeats_correctionPrice, .int t_repeats_mostCorrections, .int t_repeats_number])), (h_t_repeats_blocks, .inl (cI, 60, .inl t_repeats_blocks)), (h_t_repeats_ends, .inl (cI, 60, .inl t_repeats_ends)), (h_t_repeats_prices, .inl (cI, 60, .inl t_repeats_prices)), (h_t_repeats_standing, .inl (cI, 4, .inl t_repeats_standing)), (h_t_repeats_unlike, .inl (cI, 24, .inl t_repeats_unlike)), (h_t_table, .inl (cJ, 1625, .inr (.inl t_table))), (h_u, .inr (6, [.ref h_u_letters, .ref h_u_settings, .int u_size])), (h_u_letters, .inl (cI, 24, .inl u_letters)), (h_u_settings, .inl (cI, 5, .inl u_settings))] s.heap := hP
  have hl := lv_entry [.ref h_t, .ref h_u, .int x2, .int x3] (n := 11) (Nat.le_of_ble_eq_true rfl)
  rw [show entryFrame m args 11 = entryFrame m ([.ref h_t, .ref h_u, .int x2, .int x3] : List Value).toArray 11 from by rw [hargs], lg_entry_eq]
  generalize (lg_sl [.ref h_t, .ref h_u, .int x2, .int x3] ++ List.replicate (11 - (lg_sl [.ref h_t, .ref h_u, .int x2, .int x3]).length) Slot.unset).toArray = ls at hl ⊢
  have hl : lv_has ls 11 [(0, .ref h_t), (1, .ref h_u), (2, .int x2), (3, .int x3)] := hl
  generalize hQQ : MQ below (va_Qv (fun (_ : Unit) => True) (fun (_ : Unit) (t : State) => va_P (dC, dI) vwCl [(h_t, .inr (1, [.ref h_t_repeats, .int t_fresh, .ref h_t_table, .ref h_t_items])), (h_t_items, .inl (cJ, 25, .inr (.inl y_t_items))), (h_t_repeats, .inr (4, [.ref h_t_repeats_standing, .ref h_t_repeats_unlike, .ref h_t_repeats_blocks, .ref h_t_repeats_ends, .ref h_t_repeats_prices, .int y_t_repeats_rowSize, .int y_t_repeats_repeatPrice, .int y_t_repeats_correctionPrice, .int y_t_repeats_mostCorrections, .int y_t_repeats_number])), (h_t_repeats_blocks, .inl (cI, 60, .inl y_t_repeats_blocks)), (h_t_repeats_ends, .inl (cI, 60, .inl y_t_repeats_ends)), (h_t_repeats_prices, .inl (cI, 60, .inl y_t_repeats_prices)), (h_t_repeats_standing, .inl (cI, 4, .inl y_t_repeats_standing)), (h_t_repeats_unlike, .inl (cI, 24, .inl y_t_repeats_unlike)), (h_t_table, .inl (cJ, 1625, .inr (.inl y_t_table))), (h_u, .inr (6, [.ref h_u_letters, .ref h_u_settings, .int u_size])), (h_u_letters, .inl (cI, 24, .inl u_letters)), (h_u_settings, .inl (cI, 5, .inl u_settings))] t.heap ∧ va_K (dC, dI) vwCl (tyA cI cJ cC cS) t ∧ va_D A [(h_t, .inr (1, [.ref h_t_repeats, .int t_fresh, .ref h_t_table, .ref h_t_items])), (h_t_items, .inl (cJ, 25, .inr (.inl y_t_items))), (h_t_repeats, .inr (4, [.ref h_t_repeats_standing, .ref h_t_repeats_unlike, .ref h_t_repeats_blocks, .ref h_t_repeats_ends, .ref h_t_repeats_prices, .int y_t_repeats_rowSize, .int y_t_repeats_repeatPrice, .int y_t_repeats_correctionPrice, .int y_t_repeats_mostCorrections, .int y_t_repeats_number])), (h_t_repeats_blocks, .inl (cI, 60, .inl y_t_repeats_blocks)), (h_t_repeats_ends, .inl (cI, 60, .inl y_t_repeats_ends)), (h_t_repeats_prices, .inl (cI, 60, .inl y_t_repeats_prices)), (h_t_repeats_standing, .inl (cI, 4, .inl y_t_repeats_standing)), (h_t_repeats_unlike, .inl (cI, 24, .inl y_t_repeats_unlike)), (h_t_table, .inl (cJ, 1625, .inr (.inl y_t_table))), (h_u, .inr (6, [.ref h_u_letters, .ref h_u_settings, .int u_size])), (h_u_letters, .inl (cI, 24, .inl u_letters)), (h_u_settings, .inl (cI, 5, .inl u_settings))]) A) args s 0 0 A = QQ
  obtain ⟨H, hH⟩ : ∃ H : Heap, H = s.heap := ⟨_, rfl⟩
  obtain ⟨locs, hlocs⟩ : ∃ locs : List Loc, locs = [] := ⟨_, rfl⟩
  rw [← hH] at hP
  have hS : va_S A s.heap H locs := by rw [hH, hlocs]; exact hS
  suffices hZ : W p l e (headSpec wsX2_fill ({ frames := 3, cells := 0, slots := 0, locals := 68 } : Room)).room s m args below meth c H locs 0 0 QQ (F0 m 0 ls []) by rw [hH, hlocs] at hZ; exact hZ
  clear hH hlocs
  have hL22 : ∀ (n22 : Nat) , ∀ (x4 : Int32) (x5 : Int32) (t_items : Nat → Int64) (t_repeats_rowSize : Int32) (t_repeats_repeatPrice : Int32) (t_repeats_correctionPrice : Int32) (t_repeats_mostCorrections : Int32) (t_repeats_number : Int32) (t_repeats_blocks : Nat → Int32) (t_repeats_ends : Nat → Int32) (t_repeats_prices : Nat → Int32) (t_repeats_standing : Nat → Int32) (t_repeats_unlike : Nat → Int32) (t_table : Nat → Int64) (H : Heap) (locs : List Loc) (ls : Array Slot), fNu_fill_22 u_size x3 n22 x4 x5 t_items t_repeats_rowSize t_repeats_repeatPrice t_repeats_correctionPrice t_repeats_mostCorrections t_repeats_number t_repeats_blocks t_repeats_ends t_repeats_prices t_repeats_standing t_repeats_unlike t_table = some (y_t_items, y_t_repeats_rowSize, y_t_repeats_repeatPrice, y_t_repeats_correctionPrice, y_t_repeats_mostCorrections, y_t_repeats_number, y_t_repeats_blocks, y_t_repeats_ends, y_t_repeats_prices, y_t_repeats_standing, y_t_repeats_unlike, y_t_table) → va_P (dC, dI) vwCl [(h_t, .inr (1, [.ref h_t_repeats, .int t_fresh, .ref h_t_table, .ref h_t_items])), (h_t_items, .inl (cJ, 25, .inr (.inl t_items))), (h_t_repeats, .inr (4, [.ref h_t_repeats_standing, .ref h_t_repeats_unlike, .ref h_t_repeats_blocks, .ref h_t_repeats_ends, .ref h_t_repeats_prices, .int t_repeats_rowSize, .int t_repeats_repeatPrice, .int t_repeats_correctionPrice, .int t_repeats_mostCorrections, .int t_repeats_number])), (h_t_repeats_blocks, .inl (cI, 60, .inl t_repeats_blocks)), (h_t_repeats_ends, .inl (cI, 60, .inl t_repeats_ends)), (h_t_repeats_prices, .inl (cI, 60, .inl t_repeats_prices)), (h_t_repeats_standing, .inl (cI, 4, .inl t_repeats_standing)), (h_t_repeats_unlike, .inl (cI, 24, .inl t_repeats_unlike)), (h_t_table, .inl (cJ, 1625, .inr (.inl t_table))), (h_u, .inr (6, [.ref h_u_letters, .ref h_u_settings, .int u_size])), (h_u_letters, .inl (cI, 24, .inl u_letters)), (h_u_settings, .inl (cI, 5, .inl u_settings))] H → va_D A [(h_t, .inr (1, [.ref h_t_repeats, .int t_fresh, .ref h_t_table, .ref h_t_items])), (h_t_items, .inl (cJ, 25, .inr (.inl t_items))), (h_t_repeats, .inr (4, [.ref h_t_repeats_standing, .ref h_t_repeats_unlike, .ref h_t_repeats_blocks, .ref h_t_repeats_ends, .ref h_t_repeats_prices, .int t_repeats_rowSize, .int t_repeats_repeatPrice, .int t_repeats_correctionPrice, .int t_repeats_mostCorrections, .int t_repeats_number])), (h_t_repeats_blocks, .inl (cI, 60, .inl t_repeats_blocks)), (h_t_repeats_ends, .inl (cI, 60, .inl t_repeats_ends)), (h_t_repeats_prices, .inl (cI, 60, .inl t_repeats_prices)), (h_t_repeats_standing, .inl (cI, 4, .inl t_repeats_standing)), (h_t_repeats_unlike, .inl (cI, 24, .inl t_repeats_unlike)), (h_t_table, .inl (cJ, 1625, .inr (.inl t_table))), (h_u, .inr (6, [.ref h_u_letters, .ref h_u_settings, .int u_size])), (h_u_letters, .inl (cI, 24, .inl u_letters)), (h_u_settings, .inl (cI, 5, .inl u_settings))] → va_S A s.heap H locs → lv_has ls 11 [(0, .ref h_t), (1, .ref h_u), (3, .int x3), (4, .int x4), (5, .int x5)] → W p l e (headSpec wsX2_fill ({ frames := 3, cells := 0, slots := 0, locals := 68 } : Room)).room s m args below meth c H locs 0 0 QQ (F0 m 22 ls []) := by
    intro n22
    induction n22 with
    | zero =>
      intro x4 x5 t_items t_repeats_rowSize t_repeats_repeatPrice t_repeats_correctionPrice t_repeats_mostCorrections t_repeats_number t_repeats_blocks t_repeats_ends t_repeats_prices t_repeats_standing t_repeats_unlike t_table H locs ls hres
      rw [fNu_fill_22] at hres
      cases hres
    | succ n22 ih22 =>
      have hL39 : ∀ (n39 : Nat) , ∀ (x4 : Int32) (x5 : Int32) (x6 : Int32) (t_items : Nat → Int64) (t_repeats_rowSize : Int32) (t_repeats_repeatPrice : Int32) (t_repeats_correctionPrice : Int32) (t_repeats_mostCorrections : Int32) (t_repeats_number : Int32) (t_repeats_blocks : Nat → Int32) (t_repeats_ends : Nat → Int32) (t_repeats_prices : Nat → Int32) (t_repeats_standing : Nat → Int32) (t_repeats_unlike : Nat → Int32) (t_table : Nat → Int64) (H : Heap) (locs : List Loc) (ls : Array Slot), fNu_fill_39 u_size x3 (fNu_fill_22 u_size x3 n22) n39 x4 x5 x6 t_items t_repeats_rowSize t_repeats_repeatPrice t_repeats_correctionPrice t_repeats_mostCorrections t_repeats_number t_repeats_blocks t_repeats_ends t_repeats_prices t_repeats_standing t_repeats_unlike t_table = some (y_t_items, y_t_repeats_rowSize, y_t_repeats_repeatPrice, y_t_repeats_correctionPrice, y_t_repeats_mostCorrections, y_t_repeats_number, y_t_repeats_blocks, y_t_repeats_ends, y_t_repeats_prices, y_t_repeats_standing, y_t_repeats_unlike, y_t_table) → va_P (dC, dI) vwCl [(h_t, .inr (1, [.ref h_t_repeats, .int t_fresh, .ref h_t_table, .ref h_t_items])), (h_t_items, .inl (cJ, 25, .inr (.inl t_items))), (h_t_repeats, .inr (4, [.ref h_t_repeats_standing, .ref h_t_repeats_unlike, .ref h_t_repeats_blocks, .ref h_t_repeats_ends, .ref h_t_repeats_prices, .int t_repeats_rowSize, .int t_repeats_repeatPrice, .int t_repeats_correctionPrice, .int t_repeats_mostCorrections, .int t_repeats_number])), (h_t_repeats_blocks, .inl (cI, 60, .inl t_repeats_blocks)), (h_t_repeats_ends, .inl (cI, 60, .inl t_repeats_ends)), (h_t_repeats_prices, .inl (cI, 60, .inl t_repeats_prices)), (h_t_repeats_standing, .inl (cI, 4, .inl t_repeats_standing)), (h_t_repeats_unlike, .inl (cI, 24, .inl t_repeats_unlike)), (h_t_table, .inl (cJ, 1625, .inr (.inl t_table))), (h_u, .inr (6, [.ref h_u_letters, .ref h_u_settings, .int u_size])), (h_u_letters, .inl (cI, 24, .inl u_letters)), (h_u_settings, .inl (cI, 5, .inl u_settings))] H → va_D A [(h_t, .inr (1, [.ref h_t_repeats, .int t_fresh, .ref h_t_table, .ref h_t_items])), (h_t_items, .inl (cJ, 25, .inr (.inl t_items))), (h_t_repeats, .inr (4, [.ref h_t_repeats_standing, .ref h_t_repeats_unlike, .ref h_t_repeats_blocks, .ref h_t_repeats_ends, .ref h_t_repeats_prices, .int t_repeats_rowSize, .int t_repeats_repeatPrice, .int t_repeats_correctionPrice, .int t_repeats_mostCorrections, .int t_repeats_number])), (h_t_repeats_blocks, .inl (cI, 60, .inl t_repeats_blocks)), (h_t_repeats_ends, .inl (cI, 60, .inl t_repeats_ends)), (h_t_repeats_prices, .inl (cI, 60, .inl t_repeats_prices)), (h_t_repeats_standing, .inl (cI, 4, .inl t_repeats_standing)), (h_t_repeats_unlike, .inl (cI, 24, .inl t_repeats_unlike)), (h_t_table, .inl (cJ, 1625, .inr (.inl t_table))), (h_u, .inr (6, [.ref h_u_letters, .ref h_u_settings, .int u_size])), (h_u_letters, .inl (cI, 24, .inl u_letters)), (h_u_settings, .inl (cI, 5, .inl u_settings))] → va_S A s.heap H locs → lv_has ls 11 [(0, .ref h_t), (1, .ref h_u), (3, .int x3), (4, .int x4), (5, .int x5), (6, .int x6)] → W p l e (headSpec wsX2_fill ({ frames := 3, cells := 0, slots := 0, locals := 68 } : Room)).room s m args below meth c H locs 0 0 QQ (F0 m 39 ls []) := by
        intro n39
        induction n39 with
        | zero =>
          intro x4 x5 x6 t_items t_repeats_rowSize t_repeats_repeatPrice t_repeats_correctionPrice t_repeats_mostCorrections t_repeats_number t_repeats_blocks t_repeats_ends t_repeats_prices t_repeats_standing t_repeats_unlike t_table H locs ls hres
          rw [fNu_fill_39] at hres
          cases hres
        | succ n39 ih39 =>
          have hL111 : ∀ (n111 : Nat) , ∀ (x4 : Int32) (x5 : Int32) (x6 : Int32) (x8 : Int32) (x10 : Int32) (t_items : Nat → Int64) (t_repeats_rowSize : Int32) (t_repeats_repeatPrice : Int32) (t_repeats_correctionPrice : Int32) (t_repeats_mostCorrections : Int32) (t_repeats_number : Int32) (t_repeats_blocks : Nat → Int32) (t_repeats_ends : Nat → Int32) (t_repeats_prices : Nat → Int32) (t_repeats_standing : Nat → Int32) (t_repeats_unlike : Nat → Int32) (t_table : Nat → Int64) (H : Heap) (locs : List Loc) (ls : Array Slot), fNu_fill_111 (fNu_fill_22 u_size x3 n22) (fNu_fill_39 u_size x3 (fNu_fill_22 u_size x3 n22) n39) n111 x4 x5 x6 x8 x10 t_items t_repeats_rowSize t_repeats_repeatPrice t_repeats_correctionPrice t_repeats_mostCorrections t_repeats_number t_repeats_blocks t_repeats_ends t_repeats_prices t_repeats_standing t_repeats_unlike t_table = some (y_t_items, y_t_repeats_rowSize, y_t_repeats_repeatPrice, y_t_repeats_correctionPrice, y_t_repeats_mostCorrections, y_t_repeats_number, y_t_repeats_blocks, y_t_repeats_ends, y_t_repeats_prices, y_t_repeats_standing, y_t_repeats_unlike, y_t_table) → va_P (dC, dI) vwCl [(h_t, .inr (1, [.ref h_t_repeats, .int t_fresh, .ref h_t_table, .ref h_t_items])), (h_t_items, .inl (cJ, 25, .inr (.inl t_items))), (h_t_repeats, .inr (4, [.ref h_t_repeats_standing, .ref h_t_repeats_unlike, .ref h_t_repeats_blocks, .ref h_t_repeats_ends, .ref h_t_repeats_prices, .int t_repeats_rowSize, .int t_repeats_repeatPrice, .int t_repeats_correctionPrice, .int t_repeats_mostCorrections, .int t_repeats_number])), (h_t_repeats_blocks, .inl (cI, 60, .inl t_repeats_blocks)), (h_t_repeats_ends, .inl (cI, 60, .inl t_repeats_ends)), (h_t_repeats_prices, .inl (cI, 60, .inl t_repeats_prices)), (h_t_repeats_standing, .inl (cI, 4, .inl t_repeats_standing)), (h_t_repeats_unlike, .inl (cI, 24, .inl t_repeats_unlike)), (h_t_table, .inl (cJ, 1625, .inr (.inl t_table))), (h_u, .inr (6, [.ref h_u_letters, .ref h_u_settings, .int u_size])), (h_u_letters, .inl (cI, 24, .inl u_letters)), (h_u_settings, .inl (cI, 5, .inl u_settings))] H → va_D A [(h_t, .inr (1, [.ref h_t_repeats, .int t_fresh, .ref h_t_table, .ref h_t_items])), (h_t_items, .inl (cJ, 25, .inr (.inl t_items))), (h_t_repeats, .inr (4, [.ref h_t_repeats_standing, .ref h_t_repeats_unlike, .ref h_t_repeats_blocks, .ref h_t_repeats_ends, .ref h_t_repeats_prices, .int t_repeats_rowSize, .int t_repeats_repeatPrice, .int t_repeats_correctionPrice, .int t_repeats_mostCorrections, .int t_repeats_number])), (h_t_repeats_blocks, .inl (cI, 60, .inl t_repeats_blocks)), (h_t_repeats_ends, .inl (cI, 60, .inl t_repeats_ends)), (h_t_repeats_prices, .inl (cI, 60, .inl t_repeats_prices)), (h_t_repeats_standing, .inl (cI, 4, .inl t_repeats_standing)), (h_t_repeats_unlike, .inl (cI, 24, .inl t_repeats_unlike)), (h_t_table, .inl (cJ, 1625, .inr (.inl t_table))), (h_u, .inr (6, [.ref h_u_letters, .ref h_u_settings, .int u_size])), (h_u_letters, .inl (cI, 24, .inl u_letters)), (h_u_settings, .inl (cI, 5, .inl u_settings))] → va_S A s.heap H locs → lv_has ls 11 [(0, .ref h_t), (1, .ref h_u), (3, .int x3), (4, .int x4), (5, .int x5), (6, .int x6), (8, .int x8), (10, .int x10)] → W p l e (headSpec wsX2_fill ({ frames := 3, cells := 0, slots := 0, locals := 68 } : Room)).room s m args below meth c H locs 0 0 QQ (F0 m 111 ls []) := by
            intro n111
            induction n111 with
            | zero =>
              intro x4 x5 x6 x8 x10 t_items t_repeats_rowSize t_repeats_repeatPrice t_repeats_correctionPrice t_repeats_mostCorrections t_repeats_number t_repeats_blocks t_repeats_ends t_repeats_prices t_repeats_standing t_repeats_unlike t_table H locs ls hres
              rw [fNu_fill_111] at hres
              cases hres
            | succ n111 ih111 =>
              intro x4 x5 x6 x8 x10 t_items t_repeats_rowSize t_repeats_repeatPrice t_repeats_correctionPrice t_repeats_mostCorrections t_repeats_number t_repeats_blocks t_repeats_ends t_repeats_prices t_repeats_standing t_repeats_unlike t_table H locs ls hres hP hD hS hl
              rw [fNu_fill_111] at hres
              refine lv_iload hx hb dX2_fill_111 (lv_at hl 7 rfl) ?_
              refine lv_iload hx hb dX2_fill_113 (lv_at hl 6 rfl) ?_
              refine lv_icmp_gt (tgt := 134) hx hb dX2_fill_115 (by decide) (fun c_7 => ?_) (fun c_7 => ?_)
              · have hres := it_of hres c_7
                refine lv_iinc (v := (x6 + 1)) (lv' := [(6, .int (x6 + 1)), (0, .ref h_t), (1, .ref h_u), (3, .int x3), (4, .int x4), (5, .int x5), (8, .int x8), (10, .int x10)]) hx hb dX2_fill_134 hl (k := 5) rfl rfl (by decide) rfl (fun ls hl => ?_)
                refine lv_goto (tgt := 39) hx hb dX2_fill_137 (by decide) ?_
                exact ih39 x4 x5 (x6 + 1) t_items t_repeats_rowSize t_repeats_repeatPrice t_repeats_correctionPrice t_repeats_mostCorrections t_repeats_number t_repeats_blocks t_repeats_ends t_repeats_prices t_repeats_standing t_repeats_unlike t_table H locs ls hres hP hD hS (lv_sub hl [1, 2, 3, 4, 5, 0] rfl)
              · have hres := ie_of hres c_7
                refine lv_aload_n hx hb dX2_fill_118 rfl (lv_at hl 0 rfl) ?_
                refine lv_iload hx hb dX2_fill_119 (lv_at hl 5 rfl) ?_
                refine lv_iload hx hb dX2_fill_121 (lv_at hl 4 rfl) ?_
                refine lv_iload hx hb dX2_fill_123 (lv_at hl 7 rfl) ?_
                obtain ⟨o8, ho8, hres⟩ := bd_of hres
                have hPc := hP.sub (ws' := [(h_t, .inr (1, [.ref h_t_repeats, .int t_fresh, .ref h_t_table, .ref h_t_items])), (h_t_items, .inl (cJ, 25, .inr (.inl t_items))), (h_t_table, .inl (cJ, 1625, .inr (.inl t_table)))]) [0, 1, 8] rfl
                have hDc := hD.sub (ws' := [(h_t, .inr (1, [.ref h_t_repeats, .int t_fresh, .ref h_t_table, .ref h_t_items])), (h_t_items, .inl (cJ, 25, .inr (.inl t_items))), (h_t_table, .inl (cJ, 1625, .inr (.inl t_table)))]) [0, 1, 8] (by decide) rfl
                have hFc := va_free (wc := [(h_t, .inr (1, [.ref h_t_repeats, .int t_fresh, .ref h_t_table, .ref h_t_items])), (h_t_items, .inl (cJ, 25, .inr (.inl t_items))), (h_t_table, .inl (cJ, 1625, .inr (.inl t_table)))]) hD hS hA [0, 1, 8] rfl
                refine va_callv (va_runU (As := [.int x6, .int x5, .int x10]) (rest := []) ⟨hx, hb, hml, hown, hts⟩ (cNu_fillPart l dC dI cI cJ cC cS h_t h_t_repeats h_t_table h_t_items H.size t_fresh t_items t_table x6 x5 x10 o8 ho8) (va_cwA 3 hts gX2_fill_X1_fillPart_u54X1 rfl rfl rfl (nwP hN (by decide +kernel : Cond.declares ⟨"RepeatNests$Parts", "fillPart", "(III)V"⟩ ∈ nwAll)) (by decide +kernel) ⟨Nat.le_of_ble_eq_true rfl, Nat.le_of_ble_eq_true rfl⟩) ⟨fun a U g mk q => by obtain ⟨q0, q1, qP, qK, qN, qD⟩ := q; exact ⟨q0, q1, qP, va_K.moved (u := U) (U := U.calling g mk a) (Vm.Alike.refl U.vm) qK, nwS (u := U) (U := U.calling g mk a) rfl qN, qD⟩, va_recv hK hPc (ci := 1) (q0 := 0) rfl rfl, fun U hU hW => ⟨rfl, by rw [hU], by rw [hU]; exact hPc, va_K.moved hW.alike hK, nwW hW hN, hDc.weaken (fun _ _ _ _ => trivial)⟩⟩ rfl rfl hl.1 rfl (lv_room (Nat.le_of_ble_eq_true rfl)) dX2_fill_125 ⟨Nat.zero_le _, Nat.zero_le _⟩) hS (fun q _ h => hFc q h) hFc (fun u9 t H1 locs ht hvm hw hB hz1 hk1 hS => ?_)
                obtain ⟨hP1, hK1, hD1⟩ := hB
                rw [ht] at hP1
                obtain ⟨hP, hD⟩ := va_join (wr := [(h_t_repeats, .inr (4, [.ref h_t_repeats_standing, .ref h_t_repeats_unlike, .ref h_t_repeats_blocks, .ref h_t_repeats_ends, .ref h_t_repeats_prices, .int t_repeats_rowSize, .int t_repeats_repeatPrice, .int t_repeats_correctionPrice, .int t_repeats_mostCorrections, .int t_repeats_number])), (h_t_repeats_blocks, .inl (cI, 60, .inl t_repeats_blocks)), (h_t_repeats_ends, .inl (cI, 60, .inl t_repeats_ends)), (h_t_repeats_prices, .inl (cI, 60, .inl t_repeats_prices)), (h_t_repeats_standing, .inl (cI, 4, .inl t_repeats_standing)), (h_t_repeats_unlike, .inl (cI, 24, .inl t_repeats_unlike)), (h_u, .inr (6, [.ref h_u_letters, .ref h_u_settings, .int u_size])), (h_u_letters, .inl (cI, 24, .inl u_letters)), (h_u_settings, .inl (cI, 5, .inl u_settings))]) (w1 := [(h_t, .inr (1, [.ref h_t_repeats, .int t_fresh, .ref h_t_table, .ref h_t_items])), (h_t_items, .inl (cJ, 25, .inr (.inl t_items))), (h_t_table, .inl (cJ, 1625, .inr (.inl o8)))]) hP hD [0, 1, 8] [2, 3, 4, 5, 6, 7, 9, 10, 11] rfl rfl (by decide) (by decide) hk1 hFc hP1 hD1
                generalize H1 = H at hP hS ⊢
                have hP : va_P (dC, dI) vwCl [(h_t_repeats, .inr (4, [.ref h_t_repeats_standing, .ref h_t_repeats_unlike, .ref h_t_repeats_blocks, .ref h_t_repeats_ends, .ref h_t_repeats_prices, .int t_repeats_rowSize, .int t_repeats_repeatPrice, .int t_repeats_correctionPrice, .int t_repeats_mostCorrections, .int t_repeats_number])), (h_t_repeats_blocks, .inl (cI, 60, .inl t_repeats_blocks)), (h_t_repeats_ends, .inl (cI, 60, .inl t_repeats_ends)), (h_t_repeats_prices, .inl (cI, 60, .inl t_repeats_prices)), (h_t_repeats_standing, .inl (cI, 4, .inl t_repeats_standing)), (h_t_repeats_unlike, .inl (cI, 24, .inl t_repeats_unlike)), (h_u, .inr (6, [.ref h_u_letters, .ref h_u_settings, .int u_size])), (h_u_letters, .inl (cI, 24, .inl u_letters)), (h_u_settings, .inl (cI, 5, .inl u_settings)), (h_t, .inr (1, [.ref h_t_repeats, .int t_fresh, .ref h_t_table, .ref h_t_items])), (h_t_items, .inl (cJ, 25, .inr (.inl t_items))), (h_t_table, .inl (cJ, 1625, .inr (.inl o8)))] H := hP
                have hD : va_D A [(h_t_repeats, .inr (4, [.ref h_t_repeats_standing, .ref h_t_repeats_unlike, .ref h_t_repeats_blocks, .ref h_t_repeats_ends, .ref h_t_repeats_prices, .int t_repeats_rowSize, .int t_repeats_repeatPrice, .int t_repeats_correctionPrice, .int t_repeats_mostCorrections, .int t_repeats_number])), (h_t_repeats_blocks, .inl (cI, 60, .inl t_repeats_blocks)), (h_t_repeats_ends, .inl (cI, 60, .inl t_repeats_ends)), (h_t_repeats_prices, .inl (cI, 60, .inl t_repeats_prices)), (h_t_repeats_standing, .inl (cI, 4, .inl t_repeats_standing)), (h_t_repeats_unlike, .inl (cI, 24, .inl t_repeats_unlike)), (h_u, .inr (6, [.ref h_u_letters, .ref h_u_settings, .int u_size])), (h_u_letters, .inl (cI, 24, .inl u_letters)), (h_u_settings, .inl (cI, 5, .inl u_settings)), (h_t, .inr (1, [.ref h_t_repeats, .int t_fresh, .ref h_t_table, .ref h_t_items])), (h_t_items, .inl (cJ, 25, .inr (.inl t_items))), (h_t_table, .inl (cJ, 1625, .inr (.inl o8)))] := hD
                refine lv_iinc (v := (x10 + 1)) (lv' := [(10, .int (x10 + 1)), (0, .ref h_t), (1, .ref h_u), (3, .int x3), (4, .int x4), (5, .int x5), (6, .int x6), (8, .int x8)]) hx hb dX2_fill_128 hl (k := 7) rfl rfl (by decide) rfl (fun ls hl => ?_)
                refine lv_goto (tgt := 111) hx hb dX2_fill_131 (by decide) ?_
                exact ih111 x4 x5 x6 x8 (x10 + 1) t_items t_repeats_rowSize t_repeats_repeatPrice t_repeats_correctionPrice t_repeats_mostCorrections t_repeats_number t_repeats_blocks t_repeats_ends t_repeats_prices t_repeats_standing t_repeats_unlike o8 H locs ls hres (hP.sub [9, 10, 0, 1, 2, 3, 4, 5, 11, 6, 7, 8] rfl) (hD.sub [9, 10, 0, 1, 2, 3, 4, 5, 11, 6, 7, 8] (by decide) rfl) hS (lv_sub hl [1, 2, 3, 4, 5, 6, 7, 0] rfl)
          have hK94 : ∀ (x4 : Int32) (x5 : Int32) (x6 : Int32) (x8 : Int32) (s0 : Int32) (t_items : Nat → Int64) (t_repeats_rowSize : Int32) (t_repeats_repeatPrice : Int32) (t_repeats_correctionPrice : Int32) (t_repeats_mostCorrections : Int32) (t_repeats_number : Int32) (t_repeats_blocks : Nat → Int32) (t_repeats_ends : Nat → Int32) (t_repeats_prices : Nat → Int32) (t_repeats_standing : Nat → Int32) (t_repeats_unlike : Nat → Int32) (t_table : Nat → Int64) (H : Heap) (locs : List Loc) (ls : Array Slot), fNu_fill_94 (fNu_fill_22 u_size x3 n22) (fNu_fill_39 u_size x3 (fNu_fill_22 u_size x3 n22) n39) x4 x5 x6 x8 s0 t_items t_repeats_rowSize t_repeats_repeatPrice t_repeats_correctionPrice t_repeats_mostCorrections t_repeats_number t_repeats_blocks t_repeats_ends t_repeats_prices t_repeats_standing t_repeats_unlike t_table = some (y_t_items, y_t_repeats_rowSize, y_t_repeats_repeatPrice, y_t_repeats_correctionPrice, y_t_repeats_mostCorrections, y_t_repeats_number, y_t_repeats_blocks, y_t_repeats_ends, y_t_repeats_prices, y_t_repeats_standing, y_t_repeats_unlike, y_t_table) → va_P (dC, dI) vwCl [(h_t, .inr (1, [.ref h_t_repeats, .int t_fresh, .ref h_t_table, .ref h_t_items])), (h_t_items, .inl (cJ, 25, .inr (.inl t_items))), (h_t_repeats, .inr (4, [.ref h_t_repeats_standing, .ref h_t_repeats_unlike, .ref h_t_repeats_blocks, .ref h_t_repeats_ends, .ref h_t_repeats_prices, .int t_repeats_rowSize, .int t_repeats_repeatPrice, .int t_repeats_correctionPrice, .int t_repeats_mostCorrections, .int t_repeats_number])), (h_t_repeats_blocks, .inl (cI, 60, .inl t_repeats_blocks)), (h_t_repeats_ends, .inl (cI, 60, .inl t_repeats_ends)), (h_t_repeats_prices, .inl (cI, 60, .inl t_repeats_prices)), (h_t_repeats_standing, .inl (cI, 4, .inl t_repeats_standing)), (h_t_repeats_unlike, .inl (cI, 24, .inl t_repeats_unlike)), (h_t_table, .inl (cJ, 1625, .inr (.inl t_table))), (h_u, .inr (6, [.ref h_u_letters, .ref h_u_settings, .int u_size])), (h_u_letters, .inl (cI, 24, .inl u_letters)), (h_u_settings, .inl (cI, 5, .inl u_settings))] H → va_D A [(h_t, .inr (1, [.ref h_t_repeats, .int t_fresh, .ref h_t_table, .ref h_t_items])), (h_t_items, .inl (cJ, 25, .inr (.inl t_items))), (h_t_repeats, .inr (4, [.ref h_t_repeats_standing, .ref h_t_repeats_unlike, .ref h_t_repeats_blocks, .ref h_t_repeats_ends, .ref h_t_repeats_prices, .int t_repeats_rowSize, .int t_repeats_repeatPrice, .int t_repeats_correctionPrice, .int t_repeats_mostCorrections, .int t_repeats_number])), (h_t_repeats_blocks, .inl (cI, 60, .inl t_repeats_blocks)), (h_t_repeats_ends, .inl (cI, 60, .inl t_repeats_ends)), (h_t_repeats_prices, .inl (cI, 60, .inl t_repeats_prices)), (h_t_repeats_standing, .inl (cI, 4, .inl t_repeats_standing)), (h_t_repeats_unlike, .inl (cI, 24, .inl t_repeats_unlike)), (h_t_table, .inl (cJ, 1625, .inr (.inl t_table))), (h_u, .inr (6, [.ref h_u_letters, .ref h_u_settings, .int u_size])), (h_u_letters, .inl (cI, 24, .inl u_letters)), (h_u_settings, .inl (cI, 5, .inl u_settings))] → va_S A s.heap H locs → lv_has ls 11 [(0, .ref h_t), (1, .ref h_u), (3, .int x3), (4, .int x4), (5, .int x5), (6, .int x6), (8, .int x8)] → W p l e (headSpec wsX2_fill ({ frames := 3, cells := 0, slots := 0, locals := 68 } : Room)).room s m args below meth c H locs 0 0 QQ (F0 m 94 ls [.int s0]) := by
            intro x4 x5 x6 x8 s0 t_items t_repeats_rowSize t_repeats_repeatPrice t_repeats_correctionPrice t_repeats_mostCorrections t_repeats_number t_repeats_blocks t_repeats_ends t_repeats_prices t_repeats_standing t_repeats_unlike t_table H locs ls hres hP hD hS hl
            rw [fNu_fill_94] at hres
            refine lv_istore (lv' := [(9, .int s0), (0, .ref h_t), (1, .ref h_u), (3, .int x3), (4, .int x4), (5, .int x5), (6, .int x6), (8, .int x8)]) hx hb dX2_fill_94 hl (by decide) rfl (fun ls hl => ?_)
            refine lv_aload_n hx hb dX2_fill_96 rfl (lv_at hl 1 rfl) ?_
            refine lv_aload_n hx hb dX2_fill_97 rfl (lv_at hl 2 rfl) ?_
            refine lv_iload hx hb dX2_fill_98 (lv_at hl 6 rfl) ?_
            refine lv_iload hx hb dX2_fill_100 (lv_at hl 5 rfl) ?_
            refine lv_iload hx hb dX2_fill_102 (lv_at hl 7 rfl) ?_
            obtain ⟨o6, ho6, hres⟩ := bd_of hres
            have hPc := hP.sub (ws' := [(h_t, .inr (1, [.ref h_t_repeats, .int t_fresh, .ref h_t_table, .ref h_t_items])), (h_t_items, .inl (cJ, 25, .inr (.inl t_items))), (h_t_repeats, .inr (4, [.ref h_t_repeats_standing, .ref h_t_repeats_unlike, .ref h_t_repeats_blocks, .ref h_t_repeats_ends, .ref h_t_repeats_prices, .int t_repeats_rowSize, .int t_repeats_repeatPrice, .int t_repeats_correctionPrice, .int t_repeats_mostCorrections, .int t_repeats_number])), (h_t_repeats_blocks, .inl (cI, 60, .inl t_repeats_blocks)), (h_t_repeats_ends, .inl (cI, 60, .inl t_repeats_ends)), (h_t_table, .inl (cJ, 1625, .inr (.inl t_table)))]) [0, 1, 2, 3, 4, 8] rfl
            have hDc := hD.sub (ws' := [(h_t, .inr (1, [.ref h_t_repeats, .int t_fresh, .ref h_t_table, .ref h_t_items])), (h_t_items, .inl (cJ, 25, .inr (.inl t_items))), (h_t_repeats, .inr (4, [.ref h_t_repeats_standing, .ref h_t_repeats_unlike, .ref h_t_repeats_blocks, .ref h_t_repeats_ends, .ref h_t_repeats_prices, .int t_repeats_rowSize, .int t_repeats_repeatPrice, .int t_repeats_correctionPrice, .int t_repeats_mostCorrections, .int t_repeats_number])), (h_t_repeats_blocks, .inl (cI, 60, .inl t_repeats_blocks)), (h_t_repeats_ends, .inl (cI, 60, .inl t_repeats_ends)), (h_t_table, .inl (cJ, 1625, .inr (.inl t_table)))]) [0, 1, 2, 3, 4, 8] (by decide) rfl
            have hFc := va_free (wc := [(h_t, .inr (1, [.ref h_t_repeats, .int t_fresh, .ref h_t_table, .ref h_t_items])), (h_t_items, .inl (cJ, 25, .inr (.inl t_items))), (h_t_repeats, .inr (4, [.ref h_t_repeats_standing, .ref h_t_repeats_unlike, .ref h_t_repeats_blocks, .ref h_t_repeats_ends, .ref h_t_repeats_prices, .int t_repeats_rowSize, .int t_repeats_repeatPrice, .int t_repeats_correctionPrice, .int t_repeats_mostCorrections, .int t_repeats_number])), (h_t_repeats_blocks, .inl (cI, 60, .inl t_repeats_blocks)), (h_t_repeats_ends, .inl (cI, 60, .inl t_repeats_ends)), (h_t_table, .inl (cJ, 1625, .inr (.inl t_table)))]) hD hS hA [0, 1, 2, 3, 4, 8] rfl
            refine va_callv (va_runU (As := [.ref h_u, .int x6, .int x5, .int x8]) (rest := []) ⟨hx, hb, hml, hown, hts⟩ (cNu_findItems l dC dI cI cJ cC cS h_t h_t_repeats h_t_table h_t_items h_t_repeats_standing h_t_repeats_unlike h_t_repeats_blocks h_t_repeats_ends h_t_repeats_prices h_u H.size t_fresh t_items t_repeats_rowSize t_repeats_repeatPrice t_repeats_correctionPrice t_repeats_mostCorrections t_repeats_number t_repeats_blocks t_repeats_ends t_table x6 x5 x8 o6 ho6) (va_cwA 4 hts gX2_fill_X1_findItems_u50X1 rfl rfl rfl (nwP hN (by decide +kernel : Cond.declares ⟨"RepeatNests$Parts", "findItems", "(LRepeatNests$State;III)V"⟩ ∈ nwAll)) (by decide +kernel) ⟨Nat.le_of_ble_eq_true rfl, Nat.le_of_ble_eq_true rfl⟩) ⟨fun a U g mk q => by obtain ⟨q0, q1, qP, qK, qN, qD⟩ := q; exact ⟨q0, q1, qP, va_K.moved (u := U) (U := U.calling g mk a) (Vm.Alike.refl U.vm) qK, nwS (u := U) (U := U.calling g mk a) rfl qN, qD⟩, va_recv hK hPc (ci := 1) (q0 := 0) rfl rfl, fun U hU hW => ⟨rfl, by rw [hU], by rw [hU]; exact hPc, va_K.moved hW.alike hK, nwW hW hN, hDc.weaken (fun _ _ _ _ => trivial)⟩⟩ rfl rfl hl.1 rfl (lv_room (Nat.le_of_ble_eq_true rfl)) dX2_fill_104 ⟨Nat.zero_le _, Nat.zero_le _⟩) hS (fun q _ h => hFc q h) hFc (fun u9 t H1 locs ht hvm hw hB hz1 hk1 hS => ?_)
            obtain ⟨hP1, hK1, hD1⟩ := hB
            rw [ht] at hP1
            obtain ⟨hP, hD⟩ := va_join (wr := [(h_t_repeats_prices, .inl (cI, 60, .inl t_repeats_prices)), (h_t_repeats_standing, .inl (cI, 4, .inl t_repeats_standing)), (h_t_repeats_unlike, .inl (cI, 24, .inl t_repeats_unlike)), (h_u, .inr (6, [.ref h_u_letters, .ref h_u_settings, .int u_size])), (h_u_letters, .inl (cI, 24, .inl u_letters)), (h_u_settings, .inl (cI, 5, .inl u_settings))]) (w1 := [(h_t, .inr (1, [.ref h_t_repeats, .int t_fresh, .ref h_t_table, .ref h_t_items])), (h_t_items, .inl (cJ, 25, .inr (.inl o6))), (h_t_repeats, .inr (4, [.ref h_t_repeats_standing, .ref h_t_repeats_unlike, .ref h_t_repeats_blocks, .ref h_t_repeats_ends, .ref h_t_repeats_prices, .int t_repeats_rowSize, .int t_repeats_repeatPrice, .int t_repeats_correctionPrice, .int t_repeats_mostCorrections, .int t_repeats_number])), (h_t_repeats_blocks, .inl (cI, 60, .inl t_repeats_blocks)), (h_t_repeats_ends, .inl (cI, 60, .inl t_repeats_ends)), (h_t_table, .inl (cJ, 1625, .inr (.inl t_table)))]) hP hD [0, 1, 2, 3, 4, 8] [5, 6, 7, 9, 10, 11] rfl rfl (by decide) (by decide) hk1 hFc hP1 hD1
            generalize H1 = H at hP hS ⊢
            have hP : va_P (dC, dI) vwCl [(h_t_repeats_prices, .inl (cI, 60, .inl t_repeats_prices)), (h_t_repeats_standing, .inl (cI, 4, .inl t_repeats_standing)), (h_t_repeats_unlike, .inl (cI, 24, .inl t_repeats_unlike)), (h_u, .inr (6, [.ref h_u_letters, .ref h_u_settings, .int u_size])), (h_u_letters, .inl (cI, 24, .inl u_letters)), (h_u_settings, .inl (cI, 5, .inl u_settings)), (h_t, .inr (1, [.ref h_t_repeats, .int t_fresh, .ref h_t_table, .ref h_t_items])), (h_t_items, .inl (cJ, 25, .inr (.inl o6))), (h_t_repeats, .inr (4, [.ref h_t_repeats_standing, .ref h_t_repeats_unlike, .ref h_t_repeats_blocks, .ref h_t_repeats_ends, .ref h_t_repeats_prices, .int t_repeats_rowSize, .int t_repeats_repeatPrice, .int t_repeats_correctionPrice, .int t_repeats_mostCorrections, .int t_repeats_number])), (h_t_repeats_blocks, .inl (cI, 60, .inl t_repeats_blocks)), (h_t_repeats_ends, .inl (cI, 60, .inl t_repeats_ends)), (h_t_table, .inl (cJ, 1625, .inr (.inl t_table)))] H := hP
            have hD : va_D A [(h_t_repeats_prices, .inl (cI, 60, .inl t_repeats_prices)), (h_t_repeats_standing, .inl (cI, 4, .inl t_repeats_standing)), (h_t_repeats_unlike, .inl (cI, 24, .inl t_repeats_unlike)), (h_u, .inr (6, [.ref h_u_letters, .ref h_u_settings, .int u_size])), (h_u_letters, .inl (cI, 24, .inl u_letters)), (h_u_settings, .inl (cI, 5, .inl u_settings)), (h_t, .inr (1, [.ref h_t_repeats, .int t_fresh, .ref h_t_table, .ref h_t_items])), (h_t_items, .inl (cJ, 25, .inr (.inl o6))), (h_t_repeats, .inr (4, [.ref h_t_repeats_standing, .ref h_t_repeats_unlike, .ref h_t_repeats_blocks, .ref h_t_repeats_ends, .ref h_t_repeats_prices, .int t_repeats_rowSize, .int t_repeats_repeatPrice, .int t_repeats_correctionPrice, .int t_repeats_mostCorrections, .int t_repeats_number])), (h_t_repeats_blocks, .inl (cI, 60, .inl t_repeats_blocks)), (h_t_repeats_ends, .inl (cI, 60, .inl t_repeats_ends)), (h_t_table, .inl (cJ, 1625, .inr (.inl t_table)))] := hD
            refine lv_iload hx hb dX2_fill_107 (lv_at hl 0 rfl) ?_
            refine lv_istore (lv' := [(10, .int s0), (9, .int s0), (0, .ref h_t), (1, .ref h_u), (3, .int x3), (4, .int x4), (5, .int x5), (6, .int x6), (8, .int x8)]) hx hb dX2_fill_109 hl (by decide) rfl (fun ls hl => ?_)
            exact hL111 FU x4 x5 x6 x8 s0 o6 t_repeats_rowSize t_repeats_repeatPrice t_repeats_correctionPrice t_repeats_mostCorrections t_repeats_number t_repeats_blocks t_repeats_ends t_repeats_prices t_repeats_standing t_repeats_unlike t_table H locs ls hres (hP.sub [6, 7, 8, 9, 10, 0, 1, 2, 11, 3, 4, 5] rfl) (hD.sub [6, 7, 8, 9, 10, 0, 1, 2, 11, 3, 4, 5] (by decide) rfl) hS (lv_sub hl [2, 3, 4, 5, 6, 7, 8, 0] rfl)
          have hK90 : ∀ (x4 : Int32) (x5 : Int32) (x6 : Int32) (x8 : Int32) (t_items : Nat → Int64) (t_repeats_rowSize : Int32) (t_repeats_repeatPrice : Int32) (t_repeats_correctionPrice : Int32) (t_repeats_mostCorrections : Int32) (t_repeats_number : Int32) (t_repeats_blocks : Nat → Int32) (t_repeats_ends : Nat → Int32) (t_repeats_prices : Nat → Int32) (t_repeats_standing : Nat → Int32) (t_repeats_unlike : Nat → Int32) (t_table : Nat → Int64) (H : Heap) (locs : List Loc) (ls : Array Slot), fNu_fill_90 (fNu_fill_22 u_size x3 n22) (fNu_fill_39 u_size x3 (fNu_fill_22 u_size x3 n22) n39) x4 x5 x6 x8 t_items t_repeats_rowSize t_repeats_repeatPrice t_repeats_correctionPrice t_repeats_mostCorrections t_repeats_number t_repeats_blocks t_repeats_ends t_repeats_prices t_repeats_standing t_repeats_unlike t_table = some (y_t_items, y_t_repeats_rowSize, y_t_repeats_repeatPrice, y_t_repeats_correctionPrice, y_t_repeats_mostCorrections, y_t_repeats_number, y_t_repeats_blocks, y_t_repeats_ends, y_t_repeats_prices, y_t_repeats_standing, y_t_repeats_unlike, y_t_table) → va_P (dC, dI) vwCl [(h_t, .inr (1, [.ref h_t_repeats, .int t_fresh, .ref h_t_table, .ref h_t_items])), (h_t_items, .inl (cJ, 25, .inr (.inl t_items))), (h_t_repeats, .inr (4, [.ref h_t_repeats_standing, .ref h_t_repeats_unlike, .ref h_t_repeats_blocks, .ref h_t_repeats_ends, .ref h_t_repeats_prices, .int t_repeats_rowSize, .int t_repeats_repeatPrice, .int t_repeats_correctionPrice, .int t_repeats_mostCorrections, .int t_repeats_number])), (h_t_repeats_blocks, .inl (cI, 60, .inl t_repeats_blocks)), (h_t_repeats_ends, .inl (cI, 60, .inl t_repeats_ends)), (h_t_repeats_prices, .inl (cI, 60, .inl t_repeats_prices)), (h_t_repeats_standing, .inl (cI, 4, .inl t_repeats_standing)), (h_t_repeats_unlike, .inl (cI, 24, .inl t_repeats_unlike)), (h_t_table, .inl (cJ, 1625, .inr (.inl t_table))), (h_u, .inr (6, [.ref h_u_letters, .ref h_u_settings, .int u_size])), (h_u_letters, .inl (cI, 24, .inl u_letters)), (h_u_settings, .inl (cI, 5, .inl u_settings))] H → va_D A [(h_t, .inr (1, [.ref h_t_repeats, .int t_fresh, .ref h_t_table, .ref h_t_items])), (h_t_items, .inl (cJ, 25, .inr (.inl t_items))), (h_t_repeats, .inr (4, [.ref h_t_repeats_standing, .ref h_t_repeats_unlike, .ref h_t_repeats_blocks, .ref h_t_repeats_ends, .ref h_t_repeats_prices, .int t_repeats_rowSize, .int t_repeats_repeatPrice, .int t_repeats_correctionPrice, .int t_repeats_mostCorrections, .int t_repeats_number])), (h_t_repeats_blocks, .inl (cI, 60, .inl t_repeats_blocks)), (h_t_repeats_ends, .inl (cI, 60, .inl t_repeats_ends)), (h_t_repeats_prices, .inl (cI, 60, .inl t_repeats_prices)), (h_t_repeats_standing, .inl (cI, 4, .inl t_repeats_standing)), (h_t_repeats_unlike, .inl (cI, 24, .inl t_repeats_unlike)), (h_t_table, .inl (cJ, 1625, .inr (.inl t_table))), (h_u, .inr (6, [.ref h_u_letters, .ref h_u_settings, .int u_size])), (h_u_letters, .inl (cI, 24, .inl u_letters)), (h_u_settings, .inl (cI, 5, .inl u_settings))] → va_S A s.heap H locs → lv_has ls 11 [(0, .ref h_t), (1, .ref h_u), (3, .int x3), (4, .int x4), (5, .int x5), (6, .int x6), (8, .int x8)] → W p l e (headSpec wsX2_fill ({ frames := 3, cells := 0, slots := 0, locals := 68 } : Room)).room s m args below meth c H locs 0 0 QQ (F0 m 90 ls []) := by
            intro x4 x5 x6 x8 t_items t_repeats_rowSize t_repeats_repeatPrice t_repeats_correctionPrice t_repeats_mostCorrections t_repeats_number t_repeats_blocks t_repeats_ends t_repeats_prices t_repeats_standing t_repeats_unlike t_table H locs ls hres hP hD hS hl
            rw [fNu_fill_90] at hres
            refine lv_iload hx hb dX2_fill_90 (lv_at hl 4 rfl) ?_
            refine lv_iconst (v := (1 : Int32)) hx hb dX2_fill_92 (by decide) ?_
            refine lv_iadd hx hb dX2_fill_93 ?_
            exact hK94 x4 x5 x6 x8 (x5 + (1 : Int32)) t_items t_repeats_rowSize t_repeats_repeatPrice t_repeats_correctionPrice t_repeats_mostCorrections t_repeats_number t_repeats_blocks t_repeats_ends t_repeats_prices t_repeats_standing t_repeats_unlike t_table H locs ls hres hP hD hS (lv_sub hl [0, 1, 2, 3, 4, 5, 6] rfl)
          intro x4 x5 x6 t_items t_repeats_rowSize t_repeats_repeatPrice t_repeats_correctionPrice t_repeats_mostCorrections t_repeats_number t_repeats_blocks t_repeats_ends t_repeats_prices t_repeats_standing t_repeats_unlike t_table H locs ls hres hP hD hS hl
          rw [fNu_fill_39] at hres
          refine lv_iload hx hb dX2_fill_39 (lv_at hl 5 rfl) ?_
          refine lv_iload hx hb dX2_fill_41 (lv_at hl 3 rfl) ?_
          refine lv_icmp_gt (tgt := 140) hx hb dX2_fill_43 (by decide) (fun c_3 => ?_) (fun c_3 => ?_)
          · have hres := it_of hres c_3
            refine lv_iinc (v := (x5 + (-1))) (lv' := [(5, .int (x5 + (-1))), (0, .ref h_t), (1, .ref h_u), (3, .int x3), (4, .int x4), (6, .int x6)]) hx hb dX2_fill_140 hl (k := 4) rfl rfl (by decide) rfl (fun ls hl => ?_)
            refine lv_goto (tgt := 22) hx hb dX2_fill_143 (by decide) ?_
            exact ih22 x4 (x5 + (-1)) t_items t_repeats_rowSize t_repeats_repeatPrice t_repeats_correctionPrice t_repeats_mostCorrections t_repeats_number t_repeats_blocks t_repeats_ends t_repeats_prices t_repeats_standing t_repeats_unlike t_table H locs ls hres hP hD hS (lv_sub hl [1, 2, 3, 4, 0] rfl)
          · have hres := ie_of hres c_3
            refine lv_aload_n hx hb dX2_fill_46 rfl (lv_at hl 1 rfl) ?_
            refine va_getN (D := (dC, dI)) (ci := 6) (v := .int u_size) (C := RX7) (T := TX7) (N := 3) hx hb hts iNu_fill_X2_fill_2 hown hK hP 9 rfl rfl 2 (by decide) (nwU hN (by decide +kernel : Cond.fieldLinkNest "RepeatNests$Parts" 22 "RepeatNests$State" "size" "I" "RepeatNests" ∈ nwAll)) (fun _ h9 => h9) rfl dX2_fill_47 ?_
            refine lv_iload hx hb dX2_fill_50 (lv_at hl 3 rfl) ?_
            refine lv_iload hx hb dX2_fill_52 (lv_at hl 5 rfl) ?_
            refine lv_isub hx hb dX2_fill_54 ?_
            refine lv_ishr hx hb dX2_fill_55 ?_
            refine lv_istore (lv' := [(7, .int (u_size >>> ((x4 - x6) &&& 31))), (0, .ref h_t), (1, .ref h_u), (3, .int x3), (4, .int x4), (5, .int x5), (6, .int x6)]) hx hb dX2_fill_56 hl (by decide) rfl (fun ls hl => ?_)
            refine lv_aload_n hx hb dX2_fill_58 rfl (lv_at hl 2 rfl) ?_
            refine va_getN (D := (dC, dI)) (ci := 6) (v := .int u_size) (C := RX7) (T := TX7) (N := 3) hx hb hts iNu_fill_X2_fill_2 hown hK hP 9 rfl rfl 2 (by decide) (nwU hN (by decide +kernel : Cond.fieldLinkNest "RepeatNests$Parts" 22 "RepeatNests$State" "size" "I" "RepeatNests" ∈ nwAll)) (fun _ h9 => h9) rfl dX2_fill_59 ?_
            refine lv_iload hx hb dX2_fill_62 (lv_at hl 5 rfl) ?_
            refine lv_iload hx hb dX2_fill_64 (lv_at hl 0 rfl) ?_
            refine lv_iadd hx hb dX2_fill_66 ?_
            refine va_mmin hx hb (by rw [hml]; exact hl.1.symm) hown (hts _ kNu_fill_X2_fill_3) (hts _ kNu_fill_X2_fill_4) (hts _ kNu_fill_X2_fill_5) (hts _ kNu_fill_X2_fill_6) (Nat.le_of_ble_eq_true rfl) (Nat.le_of_ble_eq_true rfl) (Nat.zero_le _) (Nat.zero_le _) dX2_fill_67 ?_
            refine lv_istore (lv' := [(8, .int (if (x5 + (u_size >>> ((x4 - x6) &&& 31))) < u_size then (x5 + (u_size >>> ((x4 - x6) &&& 31))) else u_size)), (7, .int (u_size >>> ((x4 - x6) &&& 31))), (0, .ref h_t), (1, .ref h_u), (3, .int x3), (4, .int x4), (5, .int x5), (6, .int x6)]) hx hb dX2_fill_70 hl (by decide) rfl (fun ls hl => ?_)
            refine lv_iload_n hx hb dX2_fill_72 rfl (lv_at hl 4 rfl) ?_
            refine lv_if_eq (tgt := 90) hx hb dX2_fill_73 (by decide) (fun c_4 => ?_) (fun c_4 => ?_)
            · have hres := it_of hres c_4
              exact hK90 x4 x5 x6 (if (x5 + (u_size >>> ((x4 - x6) &&& 31))) < u_size then (x5 + (u_size >>> ((x4 - x6) &&& 31))) else u_size) t_items t_repeats_rowSize t_repeats_repeatPrice t_repeats_correctionPrice t_repeats_mostCorrections t_repeats_number t_repeats_blocks t_repeats_ends t_repeats_prices t_repeats_standing t_repeats_unlike t_table H locs ls hres hP hD hS (lv_sub hl [2, 3, 4, 5, 6, 7, 0] rfl)
            · have hres := ie_of hres c_4
              refine lv_iload hx hb dX2_fill_76 (lv_at hl 7 rfl) ?_
              refine lv_iload hx hb dX2_fill_78 (lv_at hl 5 rfl) ?_
              refine lv_icmp_ne (tgt := 90) hx hb dX2_fill_80 (by decide) (fun c_5 => ?_) (fun c_5 => ?_)
              · have hres := ie_of hres c_5
                exact hK90 x4 x5 x6 (if (x5 + (u_size >>> ((x4 - x6) &&& 31))) < u_size then (x5 + (u_size >>> ((x4 - x6) &&& 31))) else u_size) t_items t_repeats_rowSize t_repeats_repeatPrice t_repeats_correctionPrice t_repeats_mostCorrections t_repeats_number t_repeats_blocks t_repeats_ends t_repeats_prices t_repeats_standing t_repeats_unlike t_table H locs ls hres hP hD hS (lv_sub hl [2, 3, 4, 5, 6, 7, 0] rfl)
              · have hres := it_of hres c_5
                refine lv_aload_n hx hb dX2_fill_83 rfl (lv_at hl 3 rfl) ?_
                refine va_getN (D := (dC, dI)) (ci := 6) (v := .int u_size) (C := RX7) (T := TX7) (N := 3) hx hb hts iNu_fill_X2_fill_2 hown hK hP 9 rfl rfl 2 (by decide) (nwU hN (by decide +kernel : Cond.fieldLinkNest "RepeatNests$Parts" 22 "RepeatNests$State" "size" "I" "RepeatNests" ∈ nwAll)) (fun _ h9 => h9) rfl dX2_fill_84 ?_
                refine lv_goto (tgt := 94) hx hb dX2_fill_87 (by decide) ?_
                exact hK94 x4 x5 x6 (if (x5 + (u_size >>> ((x4 - x6) &&& 31))) < u_size then (x5 + (u_size >>> ((x4 - x6) &&& 31))) else u_size) u_size t_items t_repeats_rowSize t_repeats_repeatPrice t_repeats_correctionPrice t_repeats_mostCorrections t_repeats_number t_repeats_blocks t_repeats_ends t_repeats_prices t_repeats_standing t_repeats_unlike t_table H locs ls hres hP hD hS (lv_sub hl [2, 3, 4, 5, 6, 7, 0] rfl)
      intro x4 x5 t_items t_repeats_rowSize t_repeats_repeatPrice t_repeats_correctionPrice t_repeats_mostCorrections t_repeats_number t_repeats_blocks t_repeats_ends t_repeats_prices t_repeats_standing t_repeats_unlike t_table H locs ls hres hP hD hS hl
      rw [fNu_fill_22] at hres
      refine lv_iload hx hb dX2_fill_22 (lv_at hl 4 rfl) ?_
      refine lv_if_lt (tgt := 146) hx hb dX2_fill_24 (by decide) (fun c_1 => ?_) (fun c_1 => ?_)
      · have hres := it_of hres c_1
        obtain ⟨e9_0, e9_1, e9_2, e9_3, e9_4, e9_5, e9_6, e9_7, e9_8, e9_9, e9_10, e9_11⟩ := tup12 hres
        subst e9_0
        subst e9_1
        subst e9_2
        subst e9_3
        subst e9_4
        subst e9_5
        subst e9_6
        subst e9_7
        subst e9_8
        subst e9_9
        subst e9_10
        subst e9_11
        rw [← hQQ]
        exact W.vret hx hb hr (fun t ht hW => ⟨⟨(), rfl, trivial, by rw [ht]; exact hP, va_K.moved hW.alike hK, hD⟩, hS.F ht⟩) hS.2.2 dX2_fill_146
      · have hres := ie_of hres c_1
        refine lv_aload_n hx hb dX2_fill_27 rfl (lv_at hl 0 rfl) ?_
        refine va_get (D := (dC, dI)) (ci := 1) (v := .ref h_t_repeats) (C := RX1) (T := TX1) (N := 4) hx hb hts iNu_fill_X2_fill_1 hown hK hP 0 rfl rfl 0 (by decide) (hts _ kNu_fill_X2_fill_0) (fun _ h9 => h9) rfl dX2_fill_28 ?_
        refine lv_iload hx hb dX2_fill_31 (lv_at hl 4 rfl) ?_
        obtain ⟨o2, ho2, hres⟩ := bd_of hres
        have hPc := hP.sub (ws' := [(h_t_repeats, .inr (4, [.ref h_t_repeats_standing, .ref h_t_repeats_unlike, .ref h_t_repeats_blocks, .ref h_t_repeats_ends, .ref h_t_repeats_prices, .int t_repeats_rowSize, .int t_repeats_repeatPrice, .int t_repeats_correctionPrice, .int t_repeats_mostCorrections, .int t_repeats_number])), (h_t_repeats_blocks, .inl (cI, 60, .inl t_repeats_blocks)), (h_t_repeats_ends, .inl (cI, 60, .inl t_repeats_ends)), (h_t_repeats_prices, .inl (cI, 60, .inl t_repeats_prices)), (h_t_repeats_unlike, .inl (cI, 24, .inl t_repeats_unlike))]) [2, 3, 4, 5, 7] rfl
        have hDc := hD.sub (ws' := [(h_t_repeats, .inr (4, [.ref h_t_repeats_standing, .ref h_t_repeats_unlike, .ref h_t_repeats_blocks, .ref h_t_repeats_ends, .ref h_t_repeats_prices, .int t_repeats_rowSize, .int t_repeats_repeatPrice, .int t_repeats_correctionPrice, .int t_repeats_mostCorrections, .int t_repeats_number])), (h_t_repeats_blocks, .inl (cI, 60, .inl t_repeats_blocks)), (h_t_repeats_ends, .inl (cI, 60, .inl t_repeats_ends)), (h_t_repeats_prices, .inl (cI, 60, .inl t_repeats_prices)), (h_t_repeats_unlike, .inl (cI, 24, .inl t_repeats_unlike))]) [2, 3, 4, 5, 7] (by decide) rfl
        have hFc := va_free (wc := [(h_t_repeats, .inr (4, [.ref h_t_repeats_standing, .ref h_t_repeats_unlike, .ref h_t_repeats_blocks, .ref h_t_repeats_ends, .ref h_t_repeats_prices, .int t_repeats_rowSize, .int t_repeats_repeatPrice, .int t_repeats_correctionPrice, .int t_repeats_mostCorrections, .int t_repeats_number])), (h_t_repeats_blocks, .inl (cI, 60, .inl t_repeats_blocks)), (h_t_repeats_ends, .inl (cI, 60, .inl t_repeats_ends)), (h_t_repeats_prices, .inl (cI, 60, .inl t_repeats_prices)), (h_t_repeats_unlike, .inl (cI, 24, .inl t_repeats_unlike))]) hD hS hA [2, 3, 4, 5, 7] rfl
        refine va_callv (va_runV (As := [.int x5]) (rest := []) ⟨hx, hb, hml, hown, hts⟩ (cRp_find l dC dI cI cJ cC cS h_t_repeats h_t_repeats_standing h_t_repeats_unlike h_t_repeats_blocks h_t_repeats_ends h_t_repeats_prices H.size t_repeats_rowSize t_repeats_repeatPrice t_repeats_correctionPrice t_repeats_mostCorrections t_repeats_number t_repeats_blocks t_repeats_ends t_repeats_prices t_repeats_unlike x5 o2.1 o2.2.1 o2.2.2.1 o2.2.2.2 ho2) (cwV 1 hts gX2_fill_X5_find rfl rfl rfl (by decide +kernel) ⟨Nat.le_of_ble_eq_true rfl, Nat.le_of_ble_eq_true rfl⟩) ⟨fun a U g mk q => by obtain ⟨q0, q1, qP, qK, qN, qD⟩ := q; exact ⟨q0, q1, qP, va_K.moved (u := U) (U := U.calling g mk a) (Vm.Alike.refl U.vm) qK, nwS (u := U) (U := U.calling g mk a) rfl qN, qD⟩, va_recv hK hPc (ci := 4) (q0 := 0) rfl rfl, fun U hU hW => ⟨rfl, by rw [hU], by rw [hU]; exact hPc, va_K.moved hW.alike hK, nwW hW hN, hDc.weaken (fun _ _ _ _ => trivial)⟩⟩ rfl rfl hl.1 rfl (lv_room (Nat.le_of_ble_eq_true rfl)) dX2_fill_33 ⟨Nat.zero_le _, Nat.zero_le _⟩) hS (fun q _ h => hFc q h) hFc (fun u9 t H1 locs ht hvm hw hB hz1 hk1 hS => ?_)
        obtain ⟨hP1, hK1, hD1⟩ := hB
        rw [ht] at hP1
        obtain ⟨hP, hD⟩ := va_join (wr := [(h_t, .inr (1, [.ref h_t_repeats, .int t_fresh, .ref h_t_table, .ref h_t_items])), (h_t_items, .inl (cJ, 25, .inr (.inl t_items))), (h_t_repeats_standing, .inl (cI, 4, .inl t_repeats_standing)), (h_t_table, .inl (cJ, 1625, .inr (.inl t_table))), (h_u, .inr (6, [.ref h_u_letters, .ref h_u_settings, .int u_size])), (h_u_letters, .inl (cI, 24, .inl u_letters)), (h_u_settings, .inl (cI, 5, .inl u_settings))]) (w1 := [(h_t_repeats, .inr (4, [.ref h_t_repeats_standing, .ref h_t_repeats_unlike, .ref h_t_repeats_blocks, .ref h_t_repeats_ends, .ref h_t_repeats_prices, .int t_repeats_rowSize, .int t_repeats_repeatPrice, .int t_repeats_correctionPrice, .int t_repeats_mostCorrections, .int o2.1])), (h_t_repeats_blocks, .inl (cI, 60, .inl o2.2.1)), (h_t_repeats_ends, .inl (cI, 60, .inl o2.2.2.1)), (h_t_repeats_prices, .inl (cI, 60, .inl o2.2.2.2)), (h_t_repeats_unlike, .inl (cI, 24, .inl t_repeats_unlike))]) hP hD [2, 3, 4, 5, 7] [0, 1, 6, 8, 9, 10, 11] rfl rfl (by decide) (by decide) hk1 hFc hP1 hD1
        generalize H1 = H at hP hS ⊢
        have hP : va_P (dC, dI) vwCl [(h_t, .inr (1, [.ref h_t_repeats, .int t_fresh, .ref h_t_table, .ref h_t_items])), (h_t_items, .inl (cJ, 25, .inr (.inl t_items))), (h_t_repeats_standing, .inl (cI, 4, .inl t_repeats_standing)), (h_t_table, .inl (cJ, 1625, .inr (.inl t_table))), (h_u, .inr (6, [.ref h_u_letters, .ref h_u_settings, .int u_size])), (h_u_letters, .inl (cI, 24, .inl u_letters)), (h_u_settings, .inl (cI, 5, .inl u_settings)), (h_t_repeats, .inr (4, [.ref h_t_repeats_standing, .ref h_t_repeats_unlike, .ref h_t_repeats_blocks, .ref h_t_repeats_ends, .ref h_t_repeats_prices, .int t_repeats_rowSize, .int t_repeats_repeatPrice, .int t_repeats_correctionPrice, .int t_repeats_mostCorrections, .int o2.1])), (h_t_repeats_blocks, .inl (cI, 60, .inl o2.2.1)), (h_t_repeats_ends, .inl (cI, 60, .inl o2.2.2.1)), (h_t_repeats_prices, .inl (cI, 60, .inl o2.2.2.2)), (h_t_repeats_unlike, .inl (cI, 24, .inl t_repeats_unlike))] H := hP
        have hD : va_D A [(h_t, .inr (1, [.ref h_t_repeats, .int t_fresh, .ref h_t_table, .ref h_t_items])), (h_t_items, .inl (cJ, 25, .inr (.inl t_items))), (h_t_repeats_standing, .inl (cI, 4, .inl t_repeats_standing)), (h_t_table, .inl (cJ, 1625, .inr (.inl t_table))), (h_u, .inr (6, [.ref h_u_letters, .ref h_u_settings, .int u_size])), (h_u_letters, .inl (cI, 24, .inl u_letters)), (h_u_settings, .inl (cI, 5, .inl u_settings)), (h_t_repeats, .inr (4, [.ref h_t_repeats_standing, .ref h_t_repeats_unlike, .ref h_t_repeats_blocks, .ref h_t_repeats_ends, .ref h_t_repeats_prices, .int t_repeats_rowSize, .int t_repeats_repeatPrice, .int t_repeats_correctionPrice, .int t_repeats_mostCorrections, .int o2.1])), (h_t_repeats_blocks, .inl (cI, 60, .inl o2.2.1)), (h_t_repeats_ends, .inl (cI, 60, .inl o2.2.2.1)), (h_t_repeats_prices, .inl (cI, 60, .inl o2.2.2.2)), (h_t_repeats_unlike, .inl (cI, 24, .inl t_repeats_unlike))] := hD
        refine lv_iconst (v := (0 : Int32)) hx hb dX2_fill_36 (by decide) ?_
        refine lv_istore (lv' := [(6, .int (0 : Int32)), (0, .ref h_t), (1, .ref h_u), (3, .int x3), (4, .int x4), (5, .int x5)]) hx hb dX2_fill_37 hl (by decide) rfl (fun ls hl => ?_)
        exact hL39 FU x4 x5 (0 : Int32) t_items t_repeats_rowSize t_repeats_repeatPrice t_repeats_correctionPrice t_repeats_mostCorrections o2.1 o2.2.1 o2.2.2.1 o2.2.2.2 t_repeats_standing t_repeats_unlike t_table H locs ls hres (hP.sub [0, 1, 7, 8, 9, 10, 2, 11, 3, 4, 5, 6] rfl) (hD.sub [0, 1, 7, 8, 9, 10, 2, 11, 3, 4, 5, 6] (by decide) rfl) hS (lv_sub hl [1, 2, 3, 4, 5, 0] rfl)
  rw [fNu_fill] at hres
  refine lv_aload_n hx hb dX2_fill_0 rfl (lv_at hl 0 rfl) ?_
  refine va_get (D := (dC, dI)) (ci := 1) (v := .ref h_t_repeats) (C := RX1) (T := TX1) (N := 4) hx hb hts iNu_fill_X2_fill_1 hown hK hP 0 rfl rfl 0 (by decide) (hts _ kNu_fill_X2_fill_0) (fun _ h9 => h9) rfl dX2_fill_1 ?_
  refine lv_aload_n hx hb dX2_fill_4 rfl (lv_at hl 1 rfl) ?_
  obtain ⟨o9, ho9, hres⟩ := bd_of hres
  have hPc := hP.sub (ws' := [(h_t_repeats, .inr (4, [.ref h_t_repeats_standing, .ref h_t_repeats_unlike, .ref h_t_repeats_blocks, .ref h_t_repeats_ends, .ref h_t_repeats_prices, .int t_repeats_rowSize, .int t_repeats_repeatPrice, .int t_repeats_correctionPrice, .int t_repeats_mostCorrections, .int t_repeats_number])), (h_t_repeats_standing, .inl (cI, 4, .inl t_repeats_standing)), (h_t_repeats_unlike, .inl (cI, 24, .inl t_repeats_unlike)), (h_u, .inr (6, [.ref h_u_letters, .ref h_u_settings, .int u_size])), (h_u_letters, .inl (cI, 24, .inl u_letters)), (h_u_settings, .inl (cI, 5, .inl u_settings))]) [2, 6, 7, 9, 10, 11] rfl
  have hDc := hD.sub (ws' := [(h_t_repeats, .inr (4, [.ref h_t_repeats_standing, .ref h_t_repeats_unlike, .ref h_t_repeats_blocks, .ref h_t_repeats_ends, .ref h_t_repeats_prices, .int t_repeats_rowSize, .int t_repeats_repeatPrice, .int t_repeats_correctionPrice, .int t_repeats_mostCorrections, .int t_repeats_number])), (h_t_repeats_standing, .inl (cI, 4, .inl t_repeats_standing)), (h_t_repeats_unlike, .inl (cI, 24, .inl t_repeats_unlike)), (h_u, .inr (6, [.ref h_u_letters, .ref h_u_settings, .int u_size])), (h_u_letters, .inl (cI, 24, .inl u_letters)), (h_u_settings, .inl (cI, 5, .inl u_settings))]) [2, 6, 7, 9, 10, 11] (by decide) rfl
  have hFc := va_free (wc := [(h_t_repeats, .inr (4, [.ref h_t_repeats_standing, .ref h_t_repeats_unlike, .ref h_t_repeats_blocks, .ref h_t_repeats_ends, .ref h_t_repeats_prices, .int t_repeats_rowSize, .int t_repeats_repeatPrice, .int t_repeats_correctionPrice, .int t_repeats_mostCorrections, .int t_repeats_number])), (h_t_repeats_standing, .inl (cI, 4, .inl t_repeats_standing)), (h_t_repeats_unlike, .inl (cI, 24, .inl t_repeats_unlike)), (h_u, .inr (6, [.ref h_u_letters, .ref h_u_settings, .int u_size])), (h_u_letters, .inl (cI, 24, .inl u_letters)), (h_u_settings, .inl (cI, 5, .inl u_settings))]) hD hS hA [2, 6, 7, 9, 10, 11] rfl
  refine va_callv (va_runV (As := [.ref h_u]) (rest := []) ⟨hx, hb, hml, hown, hts⟩ (cRp_look l dC dI cI cJ cC cS h_t_repeats h_t_repeats_standing h_t_repeats_unlike h_t_repeats_blocks h_t_repeats_ends h_t_repeats_prices h_u h_u_letters h_u_settings H.size t_repeats_rowSize t_repeats_repeatPrice t_repeats_correctionPrice t_repeats_mostCorrections t_repeats_number t_repeats_standing t_repeats_unlike u_size u_letters u_settings o9.1 o9.2.1 o9.2.2.1 o9.2.2.2.1 o9.2.2.2.2.1 o9.2.2.2.2.2 ho9) (cwV 1 hts gX2_fill_X5_look rfl rfl rfl (by decide +kernel) ⟨Nat.le_of_ble_eq_true rfl, Nat.le_of_ble_eq_true rfl⟩) ⟨fun a U g mk q => by obtain ⟨q0, q1, qP, qK, qN, qD⟩ := q; exact ⟨q0, q1, qP, va_K.moved (u := U) (U := U.calling g mk a) (Vm.Alike.refl U.vm) qK, nwS (u := U) (U := U.calling g mk a) rfl qN, qD⟩, va_recv hK hPc (ci := 4) (q0 := 0) rfl rfl, fun U hU hW => ⟨rfl, by rw [hU], by rw [hU]; exact hPc, va_K.moved hW.alike hK, nwW hW hN, hDc.weaken (fun _ _ _ _ => trivial)⟩⟩ rfl rfl hl.1 rfl (lv_room (Nat.le_of_ble_eq_true rfl)) dX2_fill_5 ⟨Nat.zero_le _, Nat.zero_le _⟩) hS (fun q _ h => hFc q h) hFc (fun u9 t H1 locs ht hvm hw hB hz1 hk1 hS => ?_)
  obtain ⟨hP1, hK1, hD1⟩ := hB
  rw [ht] at hP1
  obtain ⟨hP, hD⟩ := va_join (wr := [(h_t, .inr (1, [.ref h_t_repeats, .int t_fresh, .ref h_t_table, .ref h_t_items])), (h_t_items, .inl (cJ, 25, .inr (.inl t_items))), (h_t_repeats_blocks, .inl (cI, 60, .inl t_repeats_blocks)), (h_t_repeats_ends, .inl (cI, 60, .inl t_repeats_ends)), (h_t_repeats_prices, .inl (cI, 60, .inl t_repeats_prices)), (h_t_table, .inl (cJ, 1625, .inr (.inl t_table)))]) (w1 := [(h_t_repeats, .inr (4, [.ref h_t_repeats_standing, .ref h_t_repeats_unlike, .ref h_t_repeats_blocks, .ref h_t_repeats_ends, .ref h_t_repeats_prices, .int o9.1, .int o9.2.1, .int o9.2.2.1, .int o9.2.2.2.1, .int t_repeats_number])), (h_t_repeats_standing, .inl (cI, 4, .inl o9.2.2.2.2.1)), (h_t_repeats_unlike, .inl (cI, 24, .inl o9.2.2.2.2.2)), (h_u, .inr (6, [.ref h_u_letters, .ref h_u_settings, .int u_size])), (h_u_letters, .inl (cI, 24, .inl u_letters)), (h_u_settings, .inl (cI, 5, .inl u_settings))]) hP hD [2, 6, 7, 9, 10, 11] [0, 1, 3, 4, 5, 8] rfl rfl (by decide) (by decide) hk1 hFc hP1 hD1
  generalize H1 = H at hP hS ⊢
  have hP : va_P (dC, dI) vwCl [(h_t, .inr (1, [.ref h_t_repeats, .int t_fresh, .ref h_t_table, .ref h_t_items])), (h_t_items, .inl (cJ, 25, .inr (.inl t_items))), (h_t_repeats_blocks, .inl (cI, 60, .inl t_repeats_blocks)), (h_t_repeats_ends, .inl (cI, 60, .inl t_repeats_ends)), (h_t_repeats_prices, .inl (cI, 60, .inl t_repeats_prices)), (h_t_table, .inl (cJ, 1625, .inr (.inl t_table))), (h_t_repeats, .inr (4, [.ref h_t_repeats_standing, .ref h_t_repeats_unlike, .ref h_t_repeats_blocks, .ref h_t_repeats_ends, .ref h_t_repeats_prices, .int o9.1, .int o9.2.1, .int o9.2.2.1, .int o9.2.2.2.1, .int t_repeats_number])), (h_t_repeats_standing, .inl (cI, 4, .inl o9.2.2.2.2.1)), (h_t_repeats_unlike, .inl (cI, 24, .inl o9.2.2.2.2.2)), (h_u, .inr (6, [.ref h_u_letters, .ref h_u_settings, .int u_size])), (h_u_letters, .inl (cI, 24, .inl u_letters)), (h_u_settings, .inl (cI, 5, .inl u_settings))] H := hP
  have hD : va_D A [(h_t, .inr (1, [.ref h_t_repeats, .int t_fresh, .ref h_t_table, .ref h_t_items])), (h_t_items, .inl (cJ, 25, .inr (.inl t_items))), (h_t_repeats_blocks, .inl (cI, 60, .inl t_repeats_blocks)), (h_t_repeats_ends, .inl (cI, 60, .inl t_repeats_ends)), (h_t_repeats_prices, .inl (cI, 60, .inl t_repeats_prices)), (h_t_table, .inl (cJ, 1625, .inr (.inl t_table))), (h_t_repeats, .inr (4, [.ref h_t_repeats_standing, .ref h_t_repeats_unlike, .ref h_t_repeats_blocks, .ref h_t_repeats_ends, .ref h_t_repeats_prices, .int o9.1, .int o9.2.1, .int o9.2.2.1, .int o9.2.2.2.1, .int t_repeats_number])), (h_t_repeats_standing, .inl (cI, 4, .inl o9.2.2.2.2.1)), (h_t_repeats_unlike, .inl (cI, 24, .inl o9.2.2.2.2.2)), (h_u, .inr (6, [.ref h_u_letters, .ref h_u_settings, .int u_size])), (h_u_letters, .inl (cI, 24, .inl u_letters)), (h_u_settings, .inl (cI, 5, .inl u_settings))] := hD
  refine lv_aload_n hx hb dX2_fill_8 rfl (lv_at hl 1 rfl) ?_
  refine lv_iconst (v := (4 : Int32)) hx hb dX2_fill_9 (by decide) ?_
  obtain ⟨o10, ho10, hres⟩ := bd_of hres
  have hPc := hP.sub (ws' := [(h_u, .inr (6, [.ref h_u_letters, .ref h_u_settings, .int u_size])), (h_u_settings, .inl (cI, 5, .inl u_settings))]) [9, 11] rfl
  have hDc := hD.sub (ws' := [(h_u, .inr (6, [.ref h_u_letters, .ref h_u_settings, .int u_size])), (h_u_settings, .inl (cI, 5, .inl u_settings))]) [9, 11] (by decide) rfl
  have hFc := va_free (wc := [(h_u, .inr (6, [.ref h_u_letters, .ref h_u_settings, .int u_size])), (h_u_settings, .inl (cI, 5, .inl u_settings))]) hD hS hA [9, 11] rfl
  refine va_calli (va_runV (As := [.int (4 : Int32)]) (rest := []) ⟨hx, hb, hml, hown, hts⟩ (cSt_setting l dC dI cI cJ cC cS h_u h_u_letters h_u_settings H.size u_size u_settings (4 : Int32) o10 ho10) (cwV 1 hts gX2_fill_X7_setting rfl rfl rfl (by decide +kernel) ⟨Nat.le_of_ble_eq_true rfl, Nat.le_of_ble_eq_true rfl⟩) ⟨fun a U g mk q => by obtain ⟨q0, q1, qP, qK, qN, qD⟩ := q; exact ⟨q0, q1, qP, va_K.moved (u := U) (U := U.calling g mk a) (Vm.Alike.refl U.vm) qK, nwS (u := U) (U := U.calling g mk a) rfl qN, qD⟩, va_recv hK hPc (ci := 6) (q0 := 0) rfl rfl, fun U hU hW => ⟨rfl, by rw [hU], by rw [hU]; exact hPc, va_K.moved hW.alike hK, nwW hW hN, hDc.weaken (fun _ _ _ _ => trivial)⟩⟩ rfl rfl hl.1 rfl (lv_room (Nat.le_of_ble_eq_true rfl)) dX2_fill_10 ⟨Nat.zero_le _, Nat.zero_le _⟩) hS (fun q _ h => hFc q h) hFc (fun r9 u9 t H1 locs ht hvm hw hB hz1 hk1 hS => ?_)
  have hw := hw.symm
  subst hw
  obtain ⟨hP1, hK1, hD1⟩ := hB
  rw [ht] at hP1
  obtain ⟨hP, hD⟩ := va_join (wr := [(h_t, .inr (1, [.ref h_t_repeats, .int t_fresh, .ref h_t_table, .ref h_t_items])), (h_t_items, .inl (cJ, 25, .inr (.inl t_items))), (h_t_repeats_blocks, .inl (cI, 60, .inl t_repeats_blocks)), (h_t_repeats_ends, .inl (cI, 60, .inl t_repeats_ends)), (h_t_repeats_prices, .inl (cI, 60, .inl t_repeats_prices)), (h_t_table, .inl (cJ, 1625, .inr (.inl t_table))), (h_t_repeats, .inr (4, [.ref h_t_repeats_standing, .ref h_t_repeats_unlike, .ref h_t_repeats_blocks, .ref h_t_repeats_ends, .ref h_t_repeats_prices, .int o9.1, .int o9.2.1, .int o9.2.2.1, .int o9.2.2.2.1, .int t_repeats_number])), (h_t_repeats_standing, .inl (cI, 4, .inl o9.2.2.2.2.1)), (h_t_repeats_unlike, .inl (cI, 24, .inl o9.2.2.2.2.2)), (h_u_letters, .inl (cI, 24, .inl u_letters))]) (w1 := [(h_u, .inr (6, [.ref h_u_letters, .ref h_u_settings, .int u_size])), (h_u_settings, .inl (cI, 5, .inl u_settings))]) hP hD [9, 11] [0, 1, 2, 3, 4, 5, 6, 7, 8, 10] rfl rfl (by decide) (by decide) hk1 hFc hP1 hD1
  generalize H1 = H at hP hS ⊢
  have hP : va_P (dC, dI) vwCl [(h_t, .inr (1, [.ref h_t_repeats, .int t_fresh, .ref h_t_table, .ref h_t_items])), (h_t_items, .inl (cJ, 25, .inr (.inl t_items))), (h_t_repeats_blocks, .inl (cI, 60, .inl t_repeats_blocks)), (h_t_repeats_ends, .inl (cI, 60, .inl t_repeats_ends)), (h_t_repeats_prices, .inl (cI, 60, .inl t_repeats_prices)), (h_t_table, .inl (cJ, 1625, .inr (.inl t_table))), (h_t_repeats, .inr (4, [.ref h_t_repeats_standing, .ref h_t_repeats_unlike, .ref h_t_repeats_blocks, .ref h_t_repeats_ends, .ref h_t_repeats_prices, .int o9.1, .int o9.2.1, .int o9.2.2.1, .int o9.2.2.2.1, .int t_repeats_number])), (h_t_repeats_standing, .inl (cI, 4, .inl o9.2.2.2.2.1)), (h_t_repeats_unlike, .inl (cI, 24, .inl o9.2.2.2.2.2)), (h_u_letters, .inl (cI, 24, .inl u_letters)), (h_u, .inr (6, [.ref h_u_letters, .ref h_u_settings, .int u_size])), (h_u_settings, .inl (cI, 5, .inl u_settings))] H := hP
  have hD : va_D A [(h_t, .inr (1, [.ref h_t_repeats, .int t_fresh, .ref h_t_table, .ref h_t_items])), (h_t_items, .inl (cJ, 25, .inr (.inl t_items))), (h_t_repeats_blocks, .inl (cI, 60, .inl t_repeats_blocks)), (h_t_repeats_ends, .inl (cI, 60, .inl t_repeats_ends)), (h_t_repeats_prices, .inl (cI, 60, .inl t_repeats_prices)), (h_t_table, .inl (cJ, 1625, .inr (.inl t_table))), (h_t_repeats, .inr (4, [.ref h_t_repeats_standing, .ref h_t_repeats_unlike, .ref h_t_repeats_blocks, .ref h_t_repeats_ends, .ref h_t_repeats_prices, .int o9.1, .int o9.2.1, .int o9.2.2.1, .int o9.2.2.2.1, .int t_repeats_number])), (h_t_repeats_standing, .inl (cI, 4, .inl o9.2.2.2.2.1)), (h_t_repeats_unlike, .inl (cI, 24, .inl o9.2.2.2.2.2)), (h_u_letters, .inl (cI, 24, .inl u_letters)), (h_u, .inr (6, [.ref h_u_letters, .ref h_u_settings, .int u_size])), (h_u_settings, .inl (cI, 5, .inl u_settings))] := hD
  refine lv_iconst (v := (4 : Int32)) hx hb dX2_fill_13 (by decide) ?_
  refine va_mmin hx hb (by rw [hml]; exact hl.1.symm) hown (hts _ kNu_fill_X2_fill_3) (hts _ kNu_fill_X2_fill_4) (hts _ kNu_fill_X2_fill_5) (hts _ kNu_fill_X2_fill_6) (Nat.le_of_ble_eq_true rfl) (Nat.le_of_ble_eq_true rfl) (Nat.zero_le _) (Nat.zero_le _) dX2_fill_14 ?_
  refine lv_istore (lv' := [(4, .int (if (4 : Int32) < o10 then (4 : Int32) else o10)), (0, .ref h_t), (1, .ref h_u), (2, .int x2), (3, .int x3)]) hx hb dX2_fill_17 hl (by decide) rfl (fun ls hl => ?_)
  refine lv_iload_n hx hb dX2_fill_19 rfl (lv_at hl 3 rfl) ?_
  refine lv_istore (lv' := [(5, .int x2), (4, .int (if (4 : Int32) < o10 then (4 : Int32) else o10)), (0, .ref h_t), (1, .ref h_u), (2, .int x2), (3, .int x3)]) hx hb dX2_fill_20 hl (by decide) rfl (fun ls hl => ?_)
  exact hL22 FU (if (4 : Int32) < o10 then (4 : Int32) else o10) x2 t_items o9.1 o9.2.1 o9.2.2.1 o9.2.2.2.1 t_repeats_number t_repeats_blocks t_repeats_ends t_repeats_prices o9.2.2.2.2.1 o9.2.2.2.2.2 t_table H locs ls hres (hP.sub [0, 1, 6, 2, 3, 4, 7, 8, 5, 10, 9, 11] rfl) (hD.sub [0, 1, 6, 2, 3, 4, 7, 8, 5, 10, 9, 11] (by decide) rfl) hS (lv_sub hl [2, 3, 5, 1, 0] rfl)

-- Nu_refresh
theorem kNu_refresh_X2_refresh_0 : Cond.fieldLink RX2 18 "RepeatNests$Parts" "fresh" "Z" ∈ wsX2_refresh := by decide +kernel
theorem iNu_refresh_X2_refresh_1 : ∀ w ∈ wsX10, w ∈ wsX2_refresh := by decide +kernel
theorem iNu_refresh_X2_refresh_2 : ∀ w ∈ wsX70, w ∈ wsX2_refresh := by decide +kernel
set_option maxHeartbeats 4000000 in
set_option maxRecDepth 100000 in
theorem cNu_refresh (l : Launch) (dC : Nat → ClassId) (dI : Nat → Nat → Nat) (cI cJ cC cS : ClassId) (h_t h_t_repeats h_t_table h_t_items h_t_repeats_standing h_t_repeats_unlike h_t_repeats_blocks h_t_repeats_ends h_t_repeats_prices h_u h_u_letters h_u_settings : Nat) (sz : Nat) (t_fresh : Int32) (t_items : Nat → Int64) (t_repeats_rowSize : Int32) (t_repeats_repeatPrice : Int32) (t_repeats_correctionPrice : Int32) (t_repeats_mostCorrections : Int32) (t_repeats_number : Int32) (t_repeats_blocks : Nat → Int32) (t_repeats_ends : Nat → Int32) (t_repeats_prices : Nat → Int32) (t_repeats_standing : Nat → Int32) (t_repeats_unlike : Nat → Int32) (t_table : Nat → Int64) (u_size : Int32) (u_letters : Nat → Int32) (u_settings : Nat → Int32) (y_t_fresh : Int32) (y_t_items : Nat → Int64) (y_t_repeats_rowSize : Int32) (y_t_repeats_repeatPrice : Int32) (y_t_repeats_correctionPrice : Int32) (y_t_repeats_mostCorrections : Int32) (y_t_repeats_number : Int32) (y_t_repeats_blocks : Nat → Int32) (y_t_repeats_ends : Nat → Int32) (y_t_repeats_prices : Nat → Int32) (y_t_repeats_standing : Nat → Int32) (y_t_repeats_unlike : Nat → Int32) (y_t_table : Nat → Int64) (hres : fNu_refresh u_size u_letters u_settings t_fresh t_items t_repeats_rowSize t_repeats_repeatPrice t_repeats_correctionPrice t_repeats_mostCorrections t_repeats_number t_repeats_blocks t_repeats_ends t_repeats_prices t_repeats_standing t_repeats_unlike t_table = some (y_t_fresh, y_t_items, y_t_repeats_rowSize, y_t_repeats_repeatPrice, y_t_repeats_correctionPrice, y_t_repeats_mostCorrections, y_t_repeats_number, y_t_repeats_blocks, y_t_repeats_ends, y_t_repeats_prices, y_t_repeats_standing, y_t_repeats_unlike, y_t_table)) :
    Met l yX2_refresh wsX2_refresh ({ frames := 4, cells := 0, slots := 0, locals := 98 } : Room) (va_Pc [.ref h_t, .ref h_u] (fun (U : State) => U.heap.size = sz ∧ va_P (dC, dI) vwCl [(h_t, .inr (1, [.ref h_t_repeats, .int t_fresh, .ref h_t_table, .ref h_t_items])), (h_t_items, .inl (cJ, 25, .inr (.inl t_items))), (h_t_repeats, .inr (4, [.ref h_t_repeats_standing, .ref h_t_repeats_unlike, .ref h_t_repeats_blocks, .ref h_t_repeats_ends, .ref h_t_repeats_prices, .int t_repeats_rowSize, .int t_repeats_repeatPrice, .int t_repeats_correctionPrice, .int t_repeats_mostCorrections, .int t_repeats_number])), (h_t_repeats_blocks, .inl (cI, 60, .inl t_repeats_blocks)), (h_t_repeats_ends, .inl (cI, 60, .inl t_repeats_ends)), (h_t_repeats_prices, .inl (cI, 60, .inl t_repeats_prices)), (h_t_repeats_standing, .inl (cI, 4, .inl t_repeats_standing)), (h_t_repeats_unlike, .inl (cI, 24, .inl t_repeats_unlike)), (h_t_table, .inl (cJ, 1625, .inr (.inl t_table))), (h_u, .inr (6, [.ref h_u_letters, .ref h_u_settings, .int u_size])), (h_u_letters, .inl (cI, 24, .inl u_letters)), (h_u_settings, .inl (cI, 5, .inl u_settings))] U.heap ∧ va_K (dC, dI) vwCl (tyA cI cJ cC cS) U ∧ nwN U ∧ va_D (fun _ => True) [(h_t, .inr (1, [.ref h_t_repeats, .int t_fresh, .ref h_t_table, .ref h_t_items])), (h_t_items, .inl (cJ, 25, .inr (.inl t_items))), (h_t_repeats, .inr (4, [.ref h_t_repeats_standing, .ref h_t_repeats_unlike, .ref h_t_repeats_blocks, .ref h_t_repeats_ends, .ref h_t_repeats_prices, .int t_repeats_rowSize, .int t_repeats_repeatPrice, .int t_repeats_correctionPrice, .int t_repeats_mostCorrections, .int t_repeats_number])), (h_t_repeats_blocks, .inl (cI, 60, .inl t_repeats_blocks)), (h_t_repeats_ends, .inl (cI, 60, .inl t_repeats_ends)), (h_t_repeats_prices, .inl (cI, 60, .inl t_repeats_prices)), (h_t_repeats_standing, .inl (cI, 4, .inl t_repeats_standing)), (h_t_repeats_unlike, .inl (cI, 24, .inl t_repeats_unlike)), (h_t_table, .inl (cJ, 1625, .inr (.inl t_table))), (h_u, .inr (6, [.ref h_u_letters, .ref h_u_settings, .int u_size])), (h_u_letters, .inl (cI, 24, .inl u_letters)), (h_u_settings, .inl (cI, 5, .inl u_settings))])) (va_Qv (fun (_ : Unit) => True) (fun (_ : Unit) (t : State) => va_P (dC, dI) vwCl [(h_t, .inr (1, [.ref h_t_repeats, .int y_t_fresh, .ref h_t_table, .ref h_t_items])), (h_t_items, .inl (cJ, 25, .inr (.inl y_t_items))), (h_t_repeats, .inr (4, [.ref h_t_repeats_standing, .ref h_t_repeats_unlike, .ref h_t_repeats_blocks, .ref h_t_repeats_ends, .ref h_t_repeats_prices, .int y_t_repeats_rowSize, .int y_t_repeats_repeatPrice, .int y_t_repeats_correctionPrice, .int y_t_repeats_mostCorrections, .int y_t_repeats_number])), (h_t_repeats_blocks, .inl (cI, 60, .inl y_t_repeats_blocks)), (h_t_repeats_ends, .inl (cI, 60, .inl y_t_repeats_ends)), (h_t_repeats_prices, .inl (cI, 60, .inl y_t_repeats_prices)), (h_t_repeats_standing, .inl (cI, 4, .inl y_t_repeats_standing)), (h_t_repeats_unlike, .inl (cI, 24, .inl y_t_repeats_unlike)), (h_t_table, .inl (cJ, 1625, .inr (.inl y_t_table))), (h_u, .inr (6, [.ref h_u_letters, .ref h_u_settings, .int u_size])), (h_u_letters, .inl (cI, 24, .inl u_letters)), (h_u_settings, .inl (cI, 5, .inl u_settings))] t.heap ∧ va_K (dC, dI) vwCl (tyA cI cJ cC cS) t ∧ va_D (va_A [(h_t, .inr (1, [.ref h_t_repeats, .int t_fresh, .ref h_t_table, .ref h_t_items])), (h_t_items, .inl (cJ, 25, .inr (.inl t_items))), (h_t_repeats, .inr (4, [.ref h_t_repeats_standing, .ref h_t_repeats_unlike, .ref h_t_repeats_blocks, .ref h_t_repeats_ends, .ref h_t_repeats_prices, .int t_repeats_rowSize, .int t_repeats_repeatPrice, .int t_repeats_correctionPrice, .int t_repeats_mostCorrections, .int t_repeats_number])), (h_t_repeats_blocks, .inl (cI, 60, .inl t_repeats_blocks)), (h_t_repeats_ends, .inl (cI, 60, .inl t_repeats_ends)), (h_t_repeats_prices, .inl (cI, 60, .inl t_repeats_prices)), (h_t_repeats_standing, .inl (cI, 4, .inl t_repeats_standing)), (h_t_repeats_unlike, .inl (cI, 24, .inl t_repeats_unlike)), (h_t_table, .inl (cJ, 1625, .inr (.inl t_table))), (h_u, .inr (6, [.ref h_u_letters, .ref h_u_settings, .int u_size])), (h_u_letters, .inl (cI, 24, .inl u_letters)), (h_u_settings, .inl (cI, 5, .inl u_settings))] sz) [(h_t, .inr (1, [.ref h_t_repeats, .int y_t_fresh, .ref h_t_table, .ref h_t_items])), (h_t_items, .inl (cJ, 25, .inr (.inl y_t_items))), (h_t_repeats, .inr (4, [.ref h_t_repeats_standing, .ref h_t_repeats_unlike, .ref h_t_repeats_blocks, .ref h_t_repeats_ends, .ref h_t_repeats_prices, .int y_t_repeats_rowSize, .int y_t_repeats_repeatPrice, .int y_t_repeats_correctionPrice, .int y_t_repeats_mostCorrections, .int y_t_repeats_number])), (h_t_repeats_blocks, .inl (cI, 60, .inl y_t_repeats_blocks)), (h_t_repeats_ends, .inl (cI, 60, .inl y_t_repeats_ends)), (h_t_repeats_prices, .inl (cI, 60, .inl y_t_repeats_prices)), (h_t_repeats_standing, .inl (cI, 4, .inl y_t_repeats_standing)), (h_t_repeats_unlike, .inl (cI, 24, .inl y_t_repeats_unlike)), (h_t_table, .inl (cJ, 1625, .inr (.inl y_t_table))), (h_u, .inr (6, [.ref h_u_letters, .ref h_u_settings, .int u_size])), (h_u_letters, .inl (cI, 24, .inl u_letters)), (h_u_settings, .inl (cI, 5, .inl u_settings))]) (va_A [(h_t, .inr (1, [.ref h_t_repeats, .int t_fresh, .ref h_t_table, .ref h_t_items])), (h_t_items, .inl (cJ, 25, .inr (.inl t_items))), (h_t_repeats, .inr (4, [.ref h_t_repeats_standing, .ref h_t_repeats_unlike, .ref h_t_repeats_blocks, .ref h_t_repeats_ends, .ref h_t_repeats_prices, .int t_repeats_rowSize, .int t_repeats_repeatPrice, .int t_repeats_correctionPrice, .int t_repeats_mostCorrections, .int t_repeats_number])), (h_t_repeats_blocks, .inl (cI, 60, .inl t_repeats_blocks)), (h_t_repeats_ends, .inl (cI, 60, .inl t_repeats_ends)), (h_t_repeats_prices, .inl (cI, 60, .inl t_repeats_prices)), (h_t_repeats_standing, .inl (cI, 4, .inl t_repeats_standing)), (h_t_repeats_unlike, .inl (cI, 24, .inl t_repeats_unlike)), (h_t_table, .inl (cJ, 1625, .inr (.inl t_table))), (h_u, .inr (6, [.ref h_u_letters, .ref h_u_settings, .int u_size])), (h_u_letters, .inl (cI, 24, .inl u_letters)), (h_u_settings, .inl (cI, 5, .inl u_settings))] sz)) 0 0 (va_A [(h_t, .inr (1, [.ref h_t_repeats, .int t_fresh, .ref h_t_table, .ref h_t_items])), (h_t_items, .inl (cJ, 25, .inr (.inl t_items))), (h_t_repeats, .inr (4, [.ref h_t_repeats_standing, .ref h_t_repeats_unlike, .ref h_t_repeats_blocks, .ref h_t_repeats_ends, .ref h_t_repeats_prices, .int t_repeats_rowSize, .int t_repeats_repeatPrice, .int t_repeats_correctionPrice, .int t_repeats_mostCorrections, .int t_repeats_number])), (h_t_repeats_blocks, .inl (cI, 60, .inl t_repeats_blocks)), (h_t_repeats_ends, .inl (cI, 60, .inl t_repeats_ends)), (h_t_repeats_prices, .inl (cI, 60, .inl t_repeats_prices)), (h_t_repeats_standing, .inl (cI, 4, .inl t_repeats_standing)), (h_t_repeats_unlike, .inl (cI, 24, .inl t_repeats_unlike)), (h_t_table, .inl (cJ, 1625, .inr (.inl t_table))), (h_u, .inr (6, [.ref h_u_letters, .ref h_u_settings, .int u_size])), (h_u_letters, .inl (cI, 24, .inl u_letters)), (h_u_settings, .inl (cI, 5, .inl u_settings))] sz) := by
  refine Met.ofW (cc := cX2_refresh) (maxL := 2) (ret := none) (by decide) rfl ?_
  intro p e s m args below meth c s₁ B hml hv
  obtain ⟨hargs, hsz, hP, hK, hN, hD0⟩ := hv
  have hx := B.exec
  have hb := B.bytes
  have hr := B.returns
  have hts := atoms_spec (ws := wsX2_refresh) B.pre
  have hown : s.vm.findClass RX2 = some m.cls := findClass_of_methodNamed B.named
  have hlocks := B.notSynchronized
  subst hsz
  have hD := hD0.self (sz := s.heap.size)
  generalize hAe : va_A [(h_t, .inr (1, [.ref h_t_repeats, .int t_fresh, .ref h_t_table, .ref h_t_items])), (h_t_items, .inl (cJ, 25, .inr (.inl t_items))), (h_t_repeats, .inr (4, [.ref h_t_repeats_standing, .ref h_t_repeats_unlike, .ref h_t_repeats_blocks, .ref h_t_repeats_ends, .ref h_t_repeats_prices, .int t_repeats_rowSize, .int t_repeats_repeatPrice, .int t_repeats_correctionPrice, .int t_repeats_mostCorrections, .int t_repeats_number])), (h_t_repeats_blocks, .inl (cI, 60, .inl t_repeats_blocks)), (h_t_repeats_ends, .inl (cI, 60, .inl t_repeats_ends)), (h_t_repeats_prices, .inl (cI, 60, .inl t_repeats_prices)), (h_t_repeats_standing, .inl (cI, 4, .inl t_repeats_standing)), (h_t_repeats_unlike, .inl (cI, 24, .inl t_repeats_unlike)), (h_t_table, .inl (cJ, 1625, .inr (.inl t_table))), (h_u, .inr (6, [.ref h_u_letters, .ref h_u_settings, .int u_size])), (h_u_letters, .inl (cI, 24, .inl u_letters)), (h_u_settings, .inl (cI, 5, .inl u_settings))] s.heap.size = A at hD ⊢
  have hA : ∀ q : Nat, s.heap.size ≤ q → A q := fun q h => by rw [← hAe]; exact Or.inr h
  have hS : va_S A s.heap s.heap [] := va_S.rf
  have hP : va_P (dC, dI) vwCl [(h_t, .inr (1, [.ref h_t_repeats, .int t_fresh, .ref h_t_table, .ref h_t_items])), (h_t_items, .inl (cJ, 25, .inr (.inl t_items))), (h_t_repeats, .inr (4, [.ref h_t_repeats_standing, .ref h_t_repeats_unlike, .ref h_t_repeats_blocks, .ref h_t_repeats_ends, .ref h_t_repeats_prices, .int t_repeats_rowSize, .int t_repeats_repeatPrice, .int t_repeats_correctionPrice, .int t_repeats_mostCorrections, .int t_repeats_number])), (h_t_repeats_blocks, .inl (cI, 60, .inl t_repeats_blocks)), (h_t_repeats_ends, .inl (cI, 60, .inl t_repeats_ends)), (h_t_repeats_prices, .inl (cI, 60, .inl t_repeats_prices)), (h_t_repeats_standing, .inl (cI, 4, .inl t_repeats_standing)), (h_t_repeats_unlike, .inl (cI, 24, .inl t_repeats_unlike)), (h_t_table, .inl (cJ, 1625, .inr (.inl t_table))), (h_u, .inr (6, [.ref h_u_letters, .ref h_u_settings, .int u_size])), (h_u_letters, .inl (cI, 24, .inl u_letters)), (h_u_settings, .inl (cI, 5, .inl u_settings))] s.heap := hP
  have hl := lv_entry [.ref h_t, .ref h_u] (n := 2) (Nat.le_of_ble_eq_true rfl)
  rw [show entryFrame m args 2 = entryFrame m ([.ref h_t, .ref h_u] : List Value).toArray 2 from by rw [hargs], lg_entry_eq]
  generalize (lg_sl [.ref h_t, .ref h_u] ++ List.replicate (2 - (lg_sl [.ref h_t, .ref h_u]).length) Slot.unset).toArray = ls at hl ⊢
  have hl : lv_has ls 2 [(0, .ref h_t), (1, .ref h_u)] := hl
  generalize hQQ : MQ below (va_Qv (fun (_ : Unit) => True) (fun (_ : Unit) (t : State) => va_P (dC, dI) vwCl [(h_t, .inr (1, [.ref h_t_repeats, .int y_t_fresh, .ref h_t_table, .ref h_t_items])), (h_t_items, .inl (cJ, 25, .inr (.inl y_t_items))), (h_t_repeats, .inr (4, [.ref h_t_repeats_standing, .ref h_t_repeats_unlike, .ref h_t_repeats_blocks, .ref h_t_repeats_ends, .ref h_t_repeats_prices, .int y_t_repeats_rowSize, .int y_t_repeats_repeatPrice, .int y_t_repeats_correctionPrice, .int y_t_repeats_mostCorrections, .int y_t_repeats_number])), (h_t_repeats_blocks, .inl (cI, 60, .inl y_t_repeats_blocks)), (h_t_repeats_ends, .inl (cI, 60, .inl y_t_repeats_ends)), (h_t_repeats_prices, .inl (cI, 60, .inl y_t_repeats_prices)), (h_t_repeats_standing, .inl (cI, 4, .inl y_t_repeats_standing)), (h_t_repeats_unlike, .inl (cI, 24, .inl y_t_repeats_unlike)), (h_t_table, .inl (cJ, 1625, .inr (.inl y_t_table))), (h_u, .inr (6, [.ref h_u_letters, .ref h_u_settings, .int u_size])), (h_u_letters, .inl (cI, 24, .inl u_letters)), (h_u_settings, .inl (cI, 5, .inl u_settings))] t.heap ∧ va_K (dC, dI) vwCl (tyA cI cJ cC cS) t ∧ va_D A [(h_t, .inr (1, [.ref h_t_repeats, .int y_t_fresh, .ref h_t_table, .ref h_t_items])), (h_t_items, .inl (cJ, 25, .inr (.inl y_t_items))), (h_t_repeats, .inr (4, [.ref h_t_repeats_standing, .ref h_t_repeats_unlike, .ref h_t_repeats_blocks, .ref h_t_repeats_ends, .ref h_t_repeats_prices, .int y_t_repeats_rowSize, .int y_t_repeats_repeatPrice, .int y_t_repeats_correctionPrice, .int y_t_repeats_mostCorrections, .int y_t_repeats_number])), (h_t_repeats_blocks, .inl (cI, 60, .inl y_t_repeats_blocks)), (h_t_repeats_ends, .inl (cI, 60, .inl y_t_repeats_ends)), (h_t_repeats_prices, .inl (cI, 60, .inl y_t_repeats_prices)), (h_t_repeats_standing, .inl (cI, 4, .inl y_t_repeats_standing)), (h_t_repeats_unlike, .inl (cI, 24, .inl y_t_repeats_unlike)), (h_t_table, .inl (cJ, 1625, .inr (.inl y_t_table))), (h_u, .inr (6, [.ref h_u_letters, .ref h_u_settings, .int u_size])), (h_u_letters, .inl (cI, 24, .inl u_letters)), (h_u_settings, .inl (cI, 5, .inl u_settings))]) A) args s 0 0 A = QQ
  obtain ⟨H, hH⟩ : ∃ H : Heap, H = s.heap := ⟨_, rfl⟩
  obtain ⟨locs, hlocs⟩ : ∃ locs : List Loc, locs = [] := ⟨_, rfl⟩
  rw [← hH] at hP
  have hS : va_S A s.heap H locs := by rw [hH, hlocs]; exact hS
  suffices hZ : W p l e (headSpec wsX2_refresh ({ frames := 4, cells := 0, slots := 0, locals := 98 } : Room)).room s m args below meth c H locs 0 0 QQ (F0 m 0 ls []) by rw [hH, hlocs] at hZ; exact hZ
  clear hH hlocs
  rw [fNu_refresh] at hres
  refine lv_aload_n hx hb dX2_refresh_0 rfl (lv_at hl 0 rfl) ?_
  refine va_get (D := (dC, dI)) (ci := 1) (v := .int t_fresh) (C := RX1) (T := TX1) (N := 4) hx hb hts iNu_refresh_X2_refresh_1 hown hK hP 0 rfl rfl 1 (by decide) (hts _ kNu_refresh_X2_refresh_0) (fun _ h9 => h9) rfl dX2_refresh_1 ?_
  refine lv_if_ne (tgt := 24) hx hb dX2_refresh_4 (by decide) (fun c_1 => ?_) (fun c_1 => ?_)
  · have hres := ie_of hres c_1
    obtain ⟨e9_0, e9_1, e9_2, e9_3, e9_4, e9_5, e9_6, e9_7, e9_8, e9_9, e9_10, e9_11, e9_12⟩ := tup13 hres
    subst e9_0
    subst e9_1
    subst e9_2
    subst e9_3
    subst e9_4
    subst e9_5
    subst e9_6
    subst e9_7
    subst e9_8
    subst e9_9
    subst e9_10
    subst e9_11
    subst e9_12
    rw [← hQQ]
    exact W.vret hx hb hr (fun t ht hW => ⟨⟨(), rfl, trivial, by rw [ht]; exact hP, va_K.moved hW.alike hK, hD⟩, hS.F ht⟩) hS.2.2 dX2_refresh_24
  · have hres := it_of hres c_1
    refine lv_aload_n hx hb dX2_refresh_7 rfl (lv_at hl 0 rfl) ?_
    refine lv_iconst (v := (1 : Int32)) hx hb dX2_refresh_8 (by decide) ?_
    refine va_put (D := (dC, dI)) (ci := 1) (v := .int (1 : Int32)) (ty := .boolean) (C := RX1) (T := TX1) (N := 4) hx hb hts iNu_refresh_X2_refresh_1 tyX1 tyX1_ok nmX1 hown hK hP hD hS 0 rfl rfl 1 (by decide) (hts _ kNu_refresh_X2_refresh_0) (fun _ h9 => h9) rfl (by decide +kernel) rfl rfl (Nat.le_of_ble_eq_true rfl) dX2_refresh_9 (fun H locs hP hD hS => ?_)
    have hP : va_P (dC, dI) vwCl [(h_t, .inr (1, [.ref h_t_repeats, .int (1 : Int32), .ref h_t_table, .ref h_t_items])), (h_t_items, .inl (cJ, 25, .inr (.inl t_items))), (h_t_repeats, .inr (4, [.ref h_t_repeats_standing, .ref h_t_repeats_unlike, .ref h_t_repeats_blocks, .ref h_t_repeats_ends, .ref h_t_repeats_prices, .int t_repeats_rowSize, .int t_repeats_repeatPrice, .int t_repeats_correctionPrice, .int t_repeats_mostCorrections, .int t_repeats_number])), (h_t_repeats_blocks, .inl (cI, 60, .inl t_repeats_blocks)), (h_t_repeats_ends, .inl (cI, 60, .inl t_repeats_ends)), (h_t_repeats_prices, .inl (cI, 60, .inl t_repeats_prices)), (h_t_repeats_standing, .inl (cI, 4, .inl t_repeats_standing)), (h_t_repeats_unlike, .inl (cI, 24, .inl t_repeats_unlike)), (h_t_table, .inl (cJ, 1625, .inr (.inl t_table))), (h_u, .inr (6, [.ref h_u_letters, .ref h_u_settings, .int u_size])), (h_u_letters, .inl (cI, 24, .inl u_letters)), (h_u_settings, .inl (cI, 5, .inl u_settings))] H := hP
    have hD : va_D A [(h_t, .inr (1, [.ref h_t_repeats, .int (1 : Int32), .ref h_t_table, .ref h_t_items])), (h_t_items, .inl (cJ, 25, .inr (.inl t_items))), (h_t_repeats, .inr (4, [.ref h_t_repeats_standing, .ref h_t_repeats_unlike, .ref h_t_repeats_blocks, .ref h_t_repeats_ends, .ref h_t_repeats_prices, .int t_repeats_rowSize, .int t_repeats_repeatPrice, .int t_repeats_correctionPrice, .int t_repeats_mostCorrections, .int t_repeats_number])), (h_t_repeats_blocks, .inl (cI, 60, .inl t_repeats_blocks)), (h_t_repeats_ends, .inl (cI, 60, .inl t_repeats_ends)), (h_t_repeats_prices, .inl (cI, 60, .inl t_repeats_prices)), (h_t_repeats_standing, .inl (cI, 4, .inl t_repeats_standing)), (h_t_repeats_unlike, .inl (cI, 24, .inl t_repeats_unlike)), (h_t_table, .inl (cJ, 1625, .inr (.inl t_table))), (h_u, .inr (6, [.ref h_u_letters, .ref h_u_settings, .int u_size])), (h_u_letters, .inl (cI, 24, .inl u_letters)), (h_u_settings, .inl (cI, 5, .inl u_settings))] := hD
    refine lv_aload_n hx hb dX2_refresh_12 rfl (lv_at hl 0 rfl) ?_
    refine lv_aload_n hx hb dX2_refresh_13 rfl (lv_at hl 1 rfl) ?_
    refine lv_aload_n hx hb dX2_refresh_14 rfl (lv_at hl 1 rfl) ?_
    refine va_getN (D := (dC, dI)) (ci := 6) (v := .int u_size) (C := RX7) (T := TX7) (N := 3) hx hb hts iNu_refresh_X2_refresh_2 hown hK hP 9 rfl rfl 2 (by decide) (nwU hN (by decide +kernel : Cond.fieldLinkNest "RepeatNests$Parts" 22 "RepeatNests$State" "size" "I" "RepeatNests" ∈ nwAll)) (fun _ h9 => h9) rfl dX2_refresh_15 ?_
    refine lv_iconst (v := (1 : Int32)) hx hb dX2_refresh_18 (by decide) ?_
    refine lv_isub hx hb dX2_refresh_19 ?_
    refine lv_iconst (v := (0 : Int32)) hx hb dX2_refresh_20 (by decide) ?_
    obtain ⟨o2, ho2, hres⟩ := bd_of hres
    have hPc := hP.sub (ws' := [(h_t, .inr (1, [.ref h_t_repeats, .int (1 : Int32), .ref h_t_table, .ref h_t_items])), (h_t_items, .inl (cJ, 25, .inr (.inl t_items))), (h_t_repeats, .inr (4, [.ref h_t_repeats_standing, .ref h_t_repeats_unlike, .ref h_t_repeats_blocks, .ref h_t_repeats_ends, .ref h_t_repeats_prices, .int t_repeats_rowSize, .int t_repeats_repeatPrice, .int t_repeats_correctionPrice, .int t_repeats_mostCorrections, .int t_repeats_number])), (h_t_repeats_blocks, .inl (cI, 60, .inl t_repeats_blocks)), (h_t_repeats_ends, .inl (cI, 60, .inl t_repeats_ends)), (h_t_repeats_prices, .inl (cI, 60, .inl t_repeats_prices)), (h_t_repeats_standing, .inl (cI, 4, .inl t_repeats_standing)), (h_t_repeats_unlike, .inl (cI, 24, .inl t_repeats_unlike)), (h_t_table, .inl (cJ, 1625, .inr (.inl t_table))), (h_u, .inr (6, [.ref h_u_letters, .ref h_u_settings, .int u_size])), (h_u_letters, .inl (cI, 24, .inl u_letters)), (h_u_settings, .inl (cI, 5, .inl u_settings))]) [0, 1, 2, 3, 4, 5, 6, 7, 8, 9, 10, 11] rfl
    have hDc := hD.sub (ws' := [(h_t, .inr (1, [.ref h_t_repeats, .int (1 : Int32), .ref h_t_table, .ref h_t_items])), (h_t_items, .inl (cJ, 25, .inr (.inl t_items))), (h_t_repeats, .inr (4, [.ref h_t_repeats_standing, .ref h_t_repeats_unlike, .ref h_t_repeats_blocks, .ref h_t_repeats_ends, .ref h_t_repeats_prices, .int t_repeats_rowSize, .int t_repeats_repeatPrice, .int t_repeats_correctionPrice, .int t_repeats_mostCorrections, .int t_repeats_number])), (h_t_repeats_blocks, .inl (cI, 60, .inl t_repeats_blocks)), (h_t_repeats_ends, .inl (cI, 60, .inl t_repeats_ends)), (h_t_repeats_prices, .inl (cI, 60, .inl t_repeats_prices)), (h_t_repeats_standing, .inl (cI, 4, .inl t_repeats_standing)), (h_t_repeats_unlike, .inl (cI, 24, .inl t_repeats_unlike)), (h_t_table, .inl (cJ, 1625, .inr (.inl t_table))), (h_u, .inr (6, [.ref h_u_letters, .ref h_u_settings, .int u_size])), (h_u_letters, .inl (cI, 24, .inl u_letters)), (h_u_settings, .inl (cI, 5, .inl u_settings))]) [0, 1, 2, 3, 4, 5, 6, 7, 8, 9, 10, 11] (by decide) rfl
    have hFc := va_free (wc := [(h_t, .inr (1, [.ref h_t_repeats, .int (1 : Int32), .ref h_t_table, .ref h_t_items])), (h_t_items, .inl (cJ, 25, .inr (.inl t_items))), (h_t_repeats, .inr (4, [.ref h_t_repeats_standing, .ref h_t_repeats_unlike, .ref h_t_repeats_blocks, .ref h_t_repeats_ends, .ref h_t_repeats_prices, .int t_repeats_rowSize, .int t_repeats_repeatPrice, .int t_repeats_correctionPrice, .int t_repeats_mostCorrections, .int t_repeats_number])), (h_t_repeats_blocks, .inl (cI, 60, .inl t_repeats_blocks)), (h_t_repeats_ends, .inl (cI, 60, .inl t_repeats_ends)), (h_t_repeats_prices, .inl (cI, 60, .inl t_repeats_prices)), (h_t_repeats_standing, .inl (cI, 4, .inl t_repeats_standing)), (h_t_repeats_unlike, .inl (cI, 24, .inl t_repeats_unlike)), (h_t_table, .inl (cJ, 1625, .inr (.inl t_table))), (h_u, .inr (6, [.ref h_u_letters, .ref h_u_settings, .int u_size])), (h_u_letters, .inl (cI, 24, .inl u_letters)), (h_u_settings, .inl (cI, 5, .inl u_settings))]) hD hS hA [0, 1, 2, 3, 4, 5, 6, 7, 8, 9, 10, 11] rfl
    refine va_callv (va_runU (As := [.ref h_u, .int (u_size - (1 : Int32)), .int (0 : Int32)]) (rest := []) ⟨hx, hb, hml, hown, hts⟩ (cNu_fill l dC dI cI cJ cC cS h_t h_t_repeats h_t_table h_t_items h_t_repeats_standing h_t_repeats_unlike h_t_repeats_blocks h_t_repeats_ends h_t_repeats_prices h_u h_u_letters h_u_settings H.size (1 : Int32) t_items t_repeats_rowSize t_repeats_repeatPrice t_repeats_correctionPrice t_repeats_mostCorrections t_repeats_number t_repeats_blocks t_repeats_ends t_repeats_prices t_repeats_standing t_repeats_unlike t_table u_size u_letters u_settings (u_size - (1 : Int32)) (0 : Int32) o2.1 o2.2.1 o2.2.2.1 o2.2.2.2.1 o2.2.2.2.2.1 o2.2.2.2.2.2.1 o2.2.2.2.2.2.2.1 o2.2.2.2.2.2.2.2.1 o2.2.2.2.2.2.2.2.2.1 o2.2.2.2.2.2.2.2.2.2.1 o2.2.2.2.2.2.2.2.2.2.2.1 o2.2.2.2.2.2.2.2.2.2.2.2 ho2) (va_cwU 3 hts gX2_refresh_X2_fill_u28X1 rfl rfl rfl rfl (by decide +kernel) ⟨Nat.le_of_ble_eq_true rfl, Nat.le_of_ble_eq_true rfl⟩) ⟨fun a U g mk q => by obtain ⟨q0, q1, qP, qK, qN, qD⟩ := q; exact ⟨q0, q1, qP, va_K.moved (u := U) (U := U.calling g mk a) (Vm.Alike.refl U.vm) qK, nwS (u := U) (U := U.calling g mk a) rfl qN, qD⟩, va_recv hK hPc (ci := 1) (q0 := 0) rfl rfl, fun U hU hW => ⟨rfl, by rw [hU], by rw [hU]; exact hPc, va_K.moved hW.alike hK, nwW hW hN, hDc.weaken (fun _ _ _ _ => trivial)⟩⟩ rfl rfl hl.1 rfl (lv_room (Nat.le_of_ble_eq_true rfl)) dX2_refresh_21 ⟨Nat.zero_le _, Nat.zero_le _⟩) hS (fun q _ h => hFc q h) hFc (fun u9 t H1 locs ht hvm hw hB hz1 hk1 hS => ?_)
    obtain ⟨hP1, hK1, hD1⟩ := hB
    rw [ht] at hP1
    obtain ⟨hP, hD⟩ := va_join (wr := []) (w1 := [(h_t, .inr (1, [.ref h_t_repeats, .int (1 : Int32), .ref h_t_table, .ref h_t_items])), (h_t_items, .inl (cJ, 25, .inr (.inl o2.1))), (h_t_repeats, .inr (4, [.ref h_t_repeats_standing, .ref h_t_repeats_unlike, .ref h_t_repeats_blocks, .ref h_t_repeats_ends, .ref h_t_repeats_prices, .int o2.2.1, .int o2.2.2.1, .int o2.2.2.2.1, .int o2.2.2.2.2.1, .int o2.2.2.2.2.2.1])), (h_t_repeats_blocks, .inl (cI, 60, .inl o2.2.2.2.2.2.2.1)), (h_t_repeats_ends, .inl (cI, 60, .inl o2.2.2.2.2.2.2.2.1)), (h_t_repeats_prices, .inl (cI, 60, .inl o2.2.2.2.2.2.2.2.2.1)), (h_t_repeats_standing, .inl (cI, 4, .inl o2.2.2.2.2.2.2.2.2.2.1)), (h_t_repeats_unlike, .inl (cI, 24, .inl o2.2.2.2.2.2.2.2.2.2.2.1)), (h_t_table, .inl (cJ, 1625, .inr (.inl o2.2.2.2.2.2.2.2.2.2.2.2))), (h_u, .inr (6, [.ref h_u_letters, .ref h_u_settings, .int u_size])), (h_u_letters, .inl (cI, 24, .inl u_letters)), (h_u_settings, .inl (cI, 5, .inl u_settings))]) hP hD [0, 1, 2, 3, 4, 5, 6, 7, 8, 9, 10, 11] [] rfl rfl (by decide) (by decide) hk1 hFc hP1 hD1
    generalize H1 = H at hP hS ⊢
    have hP : va_P (dC, dI) vwCl [(h_t, .inr (1, [.ref h_t_repeats, .int (1 : Int32), .ref h_t_table, .ref h_t_items])), (h_t_items, .inl (cJ, 25, .inr (.inl o2.1))), (h_t_repeats, .inr (4, [.ref h_t_repeats_standing, .ref h_t_repeats_unlike, .ref h_t_repeats_blocks, .ref h_t_repeats_ends, .ref h_t_repeats_prices, .int o2.2.1, .int o2.2.2.1, .int o2.2.2.2.1, .int o2.2.2.2.2.1, .int o2.2.2.2.2.2.1])), (h_t_repeats_blocks, .inl (cI, 60, .inl o2.2.2.2.2.2.2.1)), (h_t_repeats_ends, .inl (cI, 60, .inl o2.2.2.2.2.2.2.2.1)), (h_t_repeats_prices, .inl (cI, 60, .inl o2.2.2.2.2.2.2.2.2.1)), (h_t_repeats_standing, .inl (cI, 4, .inl o2.2.2.2.2.2.2.2.2.2.1)), (h_t_repeats_unlike, .inl (cI, 24, .inl o2.2.2.2.2.2.2.2.2.2.2.1)), (h_t_table, .inl (cJ, 1625, .inr (.inl o2.2.2.2.2.2.2.2.2.2.2.2))), (h_u, .inr (6, [.ref h_u_letters, .ref h_u_settings, .int u_size])), (h_u_letters, .inl (cI, 24, .inl u_letters)), (h_u_settings, .inl (cI, 5, .inl u_settings))] H := hP
    have hD : va_D A [(h_t, .inr (1, [.ref h_t_repeats, .int (1 : Int32), .ref h_t_table, .ref h_t_items])), (h_t_items, .inl (cJ, 25, .inr (.inl o2.1))), (h_t_repeats, .inr (4, [.ref h_t_repeats_standing, .ref h_t_repeats_unlike, .ref h_t_repeats_blocks, .ref h_t_repeats_ends, .ref h_t_repeats_prices, .int o2.2.1, .int o2.2.2.1, .int o2.2.2.2.1, .int o2.2.2.2.2.1, .int o2.2.2.2.2.2.1])), (h_t_repeats_blocks, .inl (cI, 60, .inl o2.2.2.2.2.2.2.1)), (h_t_repeats_ends, .inl (cI, 60, .inl o2.2.2.2.2.2.2.2.1)), (h_t_repeats_prices, .inl (cI, 60, .inl o2.2.2.2.2.2.2.2.2.1)), (h_t_repeats_standing, .inl (cI, 4, .inl o2.2.2.2.2.2.2.2.2.2.1)), (h_t_repeats_unlike, .inl (cI, 24, .inl o2.2.2.2.2.2.2.2.2.2.2.1)), (h_t_table, .inl (cJ, 1625, .inr (.inl o2.2.2.2.2.2.2.2.2.2.2.2))), (h_u, .inr (6, [.ref h_u_letters, .ref h_u_settings, .int u_size])), (h_u_letters, .inl (cI, 24, .inl u_letters)), (h_u_settings, .inl (cI, 5, .inl u_settings))] := hD
    obtain ⟨e9_0, e9_1, e9_2, e9_3, e9_4, e9_5, e9_6, e9_7, e9_8, e9_9, e9_10, e9_11, e9_12⟩ := tup13 hres
    subst e9_0
    subst e9_1
    subst e9_2
    subst e9_3
    subst e9_4
    subst e9_5
    subst e9_6
    subst e9_7
    subst e9_8
    subst e9_9
    subst e9_10
    subst e9_11
    subst e9_12
    rw [← hQQ]
    exact W.vret hx hb hr (fun t ht hW => ⟨⟨(), rfl, trivial, by rw [ht]; exact hP, va_K.moved hW.alike hK, hD⟩, hS.F ht⟩) hS.2.2 dX2_refresh_24
