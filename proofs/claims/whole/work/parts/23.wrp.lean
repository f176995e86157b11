-- JI_bitCount
theorem kJI_bitCount_J6_bitCount_0f7a4_0 : Cond.constant RJ6 265 (1431655765) ∈ wsJ6_bitCount_0f7a4 := by decide +kernel
theorem kJI_bitCount_J6_bitCount_0f7a4_1 : Cond.constant RJ6 266 (858993459) ∈ wsJ6_bitCount_0f7a4 := by decide +kernel
theorem kJI_bitCount_J6_bitCount_0f7a4_2 : Cond.constant RJ6 267 (252645135) ∈ wsJ6_bitCount_0f7a4 := by decide +kernel
set_option maxHeartbeats 4000000 in
set_option maxRecDepth 100000 in
theorem cJI_bitCount (l : Launch) (dC : Nat → ClassId) (dI : Nat → Nat → Nat) (cI cJ cC cS : ClassId) (sz : Nat) (x0 : Int32) (r : Int32) (hres : fJI_bitCount x0 = some r) :
    Met l yJ6_bitCount_0f7a4 wsJ6_bitCount_0f7a4 ({ frames := 0, cells := 0, slots := 0, locals := 0 } : Room) (va_Pc [.int x0] (fun (U : State) => U.heap.size = sz ∧ va_P (dC, dI) vwCl [] U.heap ∧ va_K (dC, dI) vwCl (tyA cI cJ cC cS) U ∧ nwN U ∧ va_D (fun _ => True) [])) (va_Qi (fun (r9 : Int32) (_ : Unit) => r9 = r) (fun (_ : Unit) (t : State) => va_P (dC, dI) vwCl [] t.heap ∧ va_K (dC, dI) vwCl (tyA cI cJ cC cS) t ∧ va_D (va_A [] sz) []) (va_A [] sz)) 0 0 (va_A [] sz) := by
  refine Met.ofW (cc := cJ6_bitCount_0f7a4) (maxL := 1) (ret := (some .int)) (by decide) rfl ?_
  intro p e s m args below meth c s₁ B hml hv
  obtain ⟨hargs, hsz, hP, hK, hN, hD0⟩ := hv
  have hx := B.exec
  have hb := B.bytes
  have hr := B.returns
  have hts := atoms_spec (ws := wsJ6_bitCount_0f7a4) B.pre
  have hown : s.vm.findClass RJ6 = some m.cls := findClass_of_methodNamed B.named
  have hlocks := B.notSynchronized
  subst hsz
  have hD := hD0.self (sz := s.heap.size)
  generalize hAe : va_A [] s.heap.size = A at hD ⊢
  have hA : ∀ q : Nat, s.heap.size ≤ q → A q := fun q h => by rw [← hAe]; exact Or.inr h
  have hS : va_S A s.heap s.heap [] := va_S.rf
  have hP : va_P (dC, dI) vwCl [] s.heap := hP
  have hl := lv_entry [.int x0] (n := 1) (Nat.le_of_ble_eq_true rfl)
  rw [show entryFrame m args 1 = entryFrame m ([.int x0] : List Value).toArray 1 from by rw [hargs], lg_entry_eq]
  generalize (lg_sl [.int x0] ++ List.replicate (1 - (lg_sl [.int x0]).length) Slot.unset).toArray = ls at hl ⊢
  have hl : lv_has ls 1 [(0, .int x0)] := hl
  generalize hQQ : MQ below (va_Qi (fun (r9 : Int32) (_ : Unit) => r9 = r) (fun (_ : Unit) (t : State) => va_P (dC, dI) vwCl [] t.heap ∧ va_K (dC, dI) vwCl (tyA cI cJ cC cS) t ∧ va_D A []) A) args s 0 0 A = QQ
  obtain ⟨H, hH⟩ : ∃ H : Heap, H = s.heap := ⟨_, rfl⟩
  obtain ⟨locs, hlocs⟩ : ∃ locs : List Loc, locs = [] := ⟨_, rfl⟩
  rw [← hH] at hP
  have hS : va_S A s.heap H locs := by rw [hH, hlocs]; exact hS
  suffices hZ : W p l e (headSpec wsJ6_bitCount_0f7a4 ({ frames := 0, cells := 0, slots := 0, locals := 0 } : Room)).room s m args below meth c H locs 0 0 QQ (F0 m 0 ls []) by rw [hH, hlocs] at hZ; exact hZ
  clear hH hlocs
  rw [fJI_bitCount] at hres
  refine lv_iload_n hx hb dJ6_bitCount_0f7a4_0 rfl (lv_at hl 0 rfl) ?_
  refine lv_iload_n hx hb dJ6_bitCount_0f7a4_1 rfl (lv_at hl 0 rfl) ?_
  refine lv_iconst (v := (1 : Int32)) hx hb dJ6_bitCount_0f7a4_2 (by decide) ?_
  refine lv_iushr (v := (Int32.toUInt32 x0 >>> (Int32.toUInt32 (1 : Int32) &&& Int32.toUInt32 31)).toInt32) hx hb dJ6_bitCount_0f7a4_3 rfl ?_
  refine lv_ldcw (v := (1431655765 : Int32)) hx hb hown (hts _ kJI_bitCount_J6_bitCount_0f7a4_0) dJ6_bitCount_0f7a4_4 ?_
  refine lv_iand hx hb dJ6_bitCount_0f7a4_7 ?_
  refine lv_isub hx hb dJ6_bitCount_0f7a4_8 ?_
  refine lv_istore_n (lv' := [(0, .int (x0 - (((Int32.toUInt32 x0 >>> (Int32.toUInt32 (1 : Int32) &&& Int32.toUInt32 31)).toInt32) &&& (1431655765 : Int32))))]) hx hb dJ6_bitCount_0f7a4_9 rfl hl (by decide) rfl (fun ls hl => ?_)
  refine lv_iload_n hx hb dJ6_bitCount_0f7a4_10 rfl (lv_at hl 0 rfl) ?_
  refine lv_ldcw (v := (858993459 : Int32)) hx hb hown (hts _ kJI_bitCount_J6_bitCount_0f7a4_1) dJ6_bitCount_0f7a4_11 ?_
  refine lv_iand hx hb dJ6_bitCount_0f7a4_14 ?_
  refine lv_iload_n hx hb dJ6_bitCount_0f7a4_15 rfl (lv_at hl 0 rfl) ?_
  refine lv_iconst (v := (2 : Int32)) hx hb dJ6_bitCount_0f7a4_16 (by decide) ?_
  refine lv_iushr (v := (Int32.toUInt32 (x0 - (((Int32.toUInt32 x0 >>> (Int32.toUInt32 (1 : Int32) &&& Int32.toUInt32 31)).toInt32) &&& (1431655765 : Int32))) >>> (Int32.toUInt32 (2 : Int32) &&& Int32.toUInt32 31)).toInt32) hx hb dJ6_bitCount_0f7a4_17 rfl ?_
  refine lv_ldcw (v := (858993459 : Int32)) hx hb hown (hts _ kJI_bitCount_J6_bitCount_0f7a4_1) dJ6_bitCount_0f7a4_18 ?_
  refine lv_iand hx hb dJ6_bitCount_0f7a4_21 ?_
  refine lv_iadd hx hb dJ6_bitCount_0f7a4_22 ?_
  refine lv_istore_n (lv' := [(0, .int (((x0 - (((Int32.toUInt32 x0 >>> (Int32.toUInt32 (1 : Int32) &&& Int32.toUInt32 31)).toInt32) &&& (1431655765 : Int32))) &&& (858993459 : Int32)) + (((Int32.toUInt32 (x0 - (((Int32.toUInt32 x0 >>> (Int32.toUInt32 (1 : Int32) &&& Int32.toUInt32 31)).toInt32) &&& (1431655765 : Int32))) >>> (Int32.toUInt32 (2 : Int32) &&& Int32.toUInt32 31)).toInt32) &&& (858993459 : Int32))))]) hx hb dJ6_bitCount_0f7a4_23 rfl hl (by decide) rfl (fun ls hl => ?_)
  refine lv_iload_n hx hb dJ6_bitCount_0f7a4_24 rfl (lv_at hl 0 rfl) ?_
  refine lv_iload_n hx hb dJ6_bitCount_0f7a4_25 rfl (lv_at hl 0 rfl) ?_
  refine lv_iconst (v := (4 : Int32)) hx hb dJ6_bitCount_0f7a4_26 (by decide) ?_
  refine lv_iushr (v := (Int32.toUInt32 (((x0 - (((Int32.toUInt32 x0 >>> (Int32.toUInt32 (1 : Int32) &&& Int32.toUInt32 31)).toInt32) &&& (1431655765 : Int32))) &&& (858993459 : Int32)) + (((Int32.toUInt32 (x0 - (((Int32.toUInt32 x0 >>> (Int32.toUInt32 (1 : Int32) &&& Int32.toUInt32 31)).toInt32) &&& (1431655765 : Int32))) >>> (Int32.toUInt32 (2 : Int32) &&& Int32.toUInt32 31)).toInt32) &&& (858993459 : Int32))) >>> (Int32.toUInt32 (4 : Int32) &&& Int32.toUInt32 31)).toInt32) hx hb dJ6_bitCount_0f7a4_27 rfl ?_
  refine lv_iadd hx hb dJ6_bitCount_0f7a4_28 ?_
  refine lv_ldcw (v := (252645135 : Int32)) hx hb hown (hts _ kJI_bitCount_J6_bitCount_0f7a4_2) dJ6_bitCount_0f7a4_29 ?_
  refine lv_iand hx hb dJ6_bitCount_0f7a4_32 ?_
  refine lv_istore_n (lv' := [(0, .int (((((x0 - (((Int32.toUInt32 x0 >>> (Int32.toUInt32 (1 : Int32) &&& Int32.toUInt32 31)).toInt32) &&& (1431655765 : Int32))) &&& (858993459 : Int32)) + (((Int32.toUInt32 (x0 - (((Int32.toUInt32 x0 >>> (Int32.toUInt32 (1 : Int32) &&& Int32.toUInt32 31)).toInt32) &&& (1431655765 : Int32))) >>> (Int32.toUInt32 (2 : Int32) &&& Int32.toUInt32 31)).toInt32) &&& (858993459 : Int32))) + ((Int32.toUInt32 (((x0 - (((Int32.toUInt32 x0 >>> (Int32.toUInt32 (1 : Int32) &&& Int32.toUInt32 31)).toInt32) &&& (1431655765 : Int32))) &&& (858993459 : Int32)) + (((Int32.toUInt32 (x0 - (((Int32.toUInt32 x0 >>> (Int32.toUInt32 (1 : Int32) &&& Int32.toUInt32 31)).toInt32) &&& (1431655765 : Int32))) >>> (Int32.toUInt32 (2 : Int32) &&& Int32.toUInt32 31)).toInt32) &&& (858993459 : Int32))) >>> (Int32.toUInt32 (4 : Int32) &&& Int32.toUInt32 31)).toInt32)) &&& (252645135 : Int32)))]) hx hb dJ6_bitCount_0f7a4_33 rfl hl (by decide) rfl (fun ls hl => ?_)
  refine lv_iload_n hx hb dJ6_bitCount_0f7a4_34 rfl (lv_at hl 0 rfl) ?_
  refine lv_iload_n hx hb dJ6_bitCount_0f7a4_35 rfl (lv_at hl 0 rfl) ?_
  refine lv_bipush (v := (8 : Int32)) hx hb dJ6_bitCount_0f7a4_36 (by decide) ?_
  refine lv_iushr (v := (Int32.toUInt32 (((((x0 - (((Int32.toUInt32 x0 >>> (Int32.toUInt32 (1 : Int32) &&& Int32.toUInt32 31)).toInt32) &&& (1431655765 : Int32))) &&& (858993459 : Int32)) + (((Int32.toUInt32 (x0 - (((Int32.toUInt32 x0 >>> (Int32.toUInt32 (1 : Int32) &&& Int32.toUInt32 31)).toInt32) &&& (1431655765 : Int32))) >>> (Int32.toUInt32 (2 : Int32) &&& Int32.toUInt32 31)).toInt32) &&& (858993459 : Int32))) + ((Int32.toUInt32 (((x0 - (((Int32.toUInt32 x0 >>> (Int32.toUInt32 (1 : Int32) &&& Int32.toUInt32 31)).toInt32) &&& (1431655765 : Int32))) &&& (858993459 : Int32)) + (((Int32.toUInt32 (x0 - (((Int32.toUInt32 x0 >>> (Int32.toUInt32 (1 : Int32) &&& Int32.toUInt32 31)).toInt32) &&& (1431655765 : Int32))) >>> (Int32.toUInt32 (2 : Int32) &&& Int32.toUInt32 31)).toInt32) &&& (858993459 : Int32))) >>> (Int32.toUInt32 (4 : Int32) &&& Int32.toUInt32 31)).toInt32)) &&& (252645135 : Int32)) >>> (Int32.toUInt32 (8 : Int32) &&& Int32.toUInt32 31)).toInt32) hx hb dJ6_bitCount_0f7a4_38 rfl ?_
  refine lv_iadd hx hb dJ6_bitCount_0f7a4_39 ?_
  refine lv_istore_n (lv' := [(0, .int ((((((x0 - (((Int32.toUInt32 x0 >>> (Int32.toUInt32 (1 : Int32) &&& Int32.toUInt32 31)).toInt32) &&& (1431655765 : Int32))) &&& (858993459 : Int32)) + (((Int32.toUInt32 (x0 - (((Int32.toUInt32 x0 >>> (Int32.toUInt32 (1 : Int32) &&& Int32.toUInt32 31)).toInt32) &&& (1431655765 : Int32))) >>> (Int32.toUInt32 (2 : Int32) &&& Int32.toUInt32 31)).toInt32) &&& (858993459 : Int32))) + ((Int32.toUInt32 (((x0 - (((Int32.toUInt32 x0 >>> (Int32.toUInt32 (1 : Int32) &&& Int32.toUInt32 31)).toInt32) &&& (1431655765 : Int32))) &&& (858993459 : Int32)) + (((Int32.toUInt32 (x0 - (((Int32.toUInt32 x0 >>> (Int32.toUInt32 (1 : Int32) &&& Int32.toUInt32 31)).toInt32) &&& (1431655765 : Int32))) >>> (Int32.toUInt32 (2 : Int32) &&& Int32.toUInt32 31)).toInt32) &&& (858993459 : Int32))) >>> (Int32.toUInt32 (4 : Int32) &&& Int32.toUInt32 31)).toInt32)) &&& (252645135 : Int32)) + ((Int32.toUInt32 (((((x0 - (((Int32.toUInt32 x0 >>> (Int32.toUInt32 (1 : Int32) &&& Int32.toUInt32 31)).toInt32) &&& (1431655765 : Int32))) &&& (858993459 : Int32)) + (((Int32.toUInt32 (x0 - (((Int32.toUInt32 x0 >>> (Int32.toUInt32 (1 : Int32) &&& Int32.toUInt32 31)).toInt32) &&& (1431655765 : Int32))) >>> (Int32.toUInt32 (2 : Int32) &&& Int32.toUInt32 31)).toInt32) &&& (858993459 : Int32))) + ((Int32.toUInt32 (((x0 - (((Int32.toUInt32 x0 >>> (Int32.toUInt32 (1 : Int32) &&& Int32.toUInt32 31)).toInt32) &&& (1431655765 : Int32))) &&& (858993459 : Int32)) + (((Int32.toUInt32 (x0 - (((Int32.toUInt32 x0 >>> (Int32.toUInt32 (1 : Int32) &&& Int32.toUInt32 31)).toInt32) &&& (1431655765 : Int32))) >>> (Int32.toUInt32 (2 : Int32) &&& Int32.toUInt32 31)).toInt32) &&& (858993459 : Int32))) >>> (Int32.toUInt32 (4 : Int32) &&& Int32.toUInt32 31)).toInt32)) &&& (252645135 : Int32)) >>> (Int32.toUInt32 (8 : Int32) &&& Int32.toUInt32 31)).toInt32)))]) hx hb dJ6_bitCount_0f7a4_40 rfl hl (by decide) rfl (fun ls hl => ?_)
  refine lv_iload_n hx hb dJ6_bitCount_0f7a4_41 rfl (lv_at hl 0 rfl) ?_
  refine lv_iload_n hx hb dJ6_bitCount_0f7a4_42 rfl (lv_at hl 0 rfl) ?_
  refine lv_bipush (v := (16 : Int32)) hx hb dJ6_bitCount_0f7a4_43 (by decide) ?_
  refine lv_iushr (v := (Int32.toUInt32 ((((((x0 - (((Int32.toUInt32 x0 >>> (Int32.toUInt32 (1 : Int32) &&& Int32.toUInt32 31)).toInt32) &&& (1431655765 : Int32))) &&& (858993459 : Int32)) + (((Int32.toUInt32 (x0 - (((Int32.toUInt32 x0 >>> (Int32.toUInt32 (1 : Int32) &&& Int32.toUInt32 31)).toInt32) &&& (1431655765 : Int32))) >>> (Int32.toUInt32 (2 : Int32) &&& Int32.toUInt32 31)).toInt32) &&& (858993459 : Int32))) + ((Int32.toUInt32 (((x0 - (((Int32.toUInt32 x0 >>> (Int32.toUInt32 (1 : Int32) &&& Int32.toUInt32 31)).toInt32) &&& (1431655765 : Int32))) &&& (858993459 : Int32)) + (((Int32.toUInt32 (x0 - (((Int32.toUInt32 x0 >>> (Int32.toUInt32 (1 : Int32) &&& Int32.toUInt32 31)).toInt32) &&& (1431655765 : Int32))) >>> (Int32.toUInt32 (2 : Int32) &&& Int32.toUInt32 31)).toInt32) &&& (858993459 : Int32))) >>> (Int32.toUInt32 (4 : Int32) &&& Int32.toUInt32 31)).toInt32)) &&& (252645135 : Int32)) + ((Int32.toUInt32 (((((x0 - (((Int32.toUInt32 x0 >>> (Int32.toUInt32 (1 : Int32) &&& Int32.toUInt32 31)).toInt32) &&& (1431655765 : Int32))) &&& (858993459 : Int32)) + (((Int32.toUInt32 (x0 - (((Int32.toUInt32 x0 >>> (Int32.toUInt32 (1 : Int32) &&& Int32.toUInt32 31)).toInt32) &&& (1431655765 : Int32))) >>> (Int32.toUInt32 (2 : Int32) &&& Int32.toUInt32 31)).toInt32) &&& (858993459 : Int32))) + ((Int32.toUInt32 (((x0 - (((Int32.toUInt32 x0 >>> (Int32.toUInt32 (1 : Int32) &&& Int32.toUInt32 31)).toInt32) &&& (1431655765 : Int32))) &&& (858993459 : Int32)) + (((Int32.toUInt32 (x0 - (((Int32.toUInt32 x0 >>> (Int32.toUInt32 (1 : Int32) &&& Int32.toUInt32 31)).toInt32) &&& (1431655765 : Int32))) >>> (Int32.toUInt32 (2 : Int32) &&& Int32.toUInt32 31)).toInt32) &&& (858993459 : Int32))) >>> (Int32.toUInt32 (4 : Int32) &&& Int32.toUInt32 31)).toInt32)) &&& (252645135 : Int32)) >>> (Int32.toUInt32 (8 : Int32) &&& Int32.toUInt32 31)).toInt32)) >>> (Int32.toUInt32 (16 : Int32) &&& Int32.toUInt32 31)).toInt32) hx hb dJ6_bitCount_0f7a4_45 rfl ?_
  refine lv_iadd hx hb dJ6_bitCount_0f7a4_46 ?_
  refine lv_istore_n (lv' := [(0, .int (((((((x0 - (((Int32.toUInt32 x0 >>> (Int32.toUInt32 (1 : Int32) &&& Int32.toUInt32 31)).toInt32) &&& (1431655765 : Int32))) &&& (858993459 : Int32)) + (((Int32.toUInt32 (x0 - (((Int32.toUInt32 x0 >>> (Int32.toUInt32 (1 : Int32) &&& Int32.toUInt32 31)).toInt32) &&& (1431655765 : Int32))) >>> (Int32.toUInt32 (2 : Int32) &&& Int32.toUInt32 31)).toInt32) &&& (858993459 : Int32))) + ((Int32.toUInt32 (((x0 - (((Int32.toUInt32 x0 >>> (Int32.toUInt32 (1 : Int32) &&& Int32.toUInt32 31)).toInt32) &&& (1431655765 : Int32))) &&& (858993459 : Int32)) + (((Int32.toUInt32 (x0 - (((Int32.toUInt32 x0 >>> (Int32.toUInt32 (1 : Int32) &&& Int32.toUInt32 31)).toInt32) &&& (1431655765 : Int32))) >>> (Int32.toUInt32 (2 : Int32) &&& Int32.toUInt32 31)).toInt32) &&& (858993459 : Int32))) >>> (Int32.toUInt32 (4 : Int32) &&& Int32.toUInt32 31)).toInt32)) &&& (252645135 : Int32)) + ((Int32.toUInt32 (((((x0 - (((Int32.toUInt32 x0 >>> (Int32.toUInt32 (1 : Int32) &&& Int32.toUInt32 31)).toInt32) &&& (1431655765 : Int32))) &&& (858993459 : Int32)) + (((Int32.toUInt32 (x0 - (((Int32.toUInt32 x0 >>> (Int32.toUInt32 (1 : Int32) &&& Int32.toUInt32 31)).toInt32) &&& (1431655765 : Int32))) >>> (Int32.toUInt32 (2 : Int32) &&& Int32.toUInt32 31)).toInt32) &&& (858993459 : Int32))) + ((Int32.toUInt32 (((x0 - (((Int32.toUInt32 x0 >>> (Int32.toUInt32 (1 : Int32) &&& Int32.toUInt32 31)).toInt32) &&& (1431655765 : Int32))) &&& (858993459 : Int32)) + (((Int32.toUInt32 (x0 - (((Int32.toUInt32 x0 >>> (Int32.toUInt32 (1 : Int32) &&& Int32.toUInt32 31)).toInt32) &&& (1431655765 : Int32))) >>> (Int32.toUInt32 (2 : Int32) &&& Int32.toUInt32 31)).toInt32) &&& (858993459 : Int32))) >>> (Int32.toUInt32 (4 : Int32) &&& Int32.toUInt32 31)).toInt32)) &&& (252645135 : Int32)) >>> (Int32.toUInt32 (8 : Int32) &&& Int32.toUInt32 31)).toInt32)) + ((Int32.toUInt32 ((((((x0 - (((Int32.toUInt32 x0 >>> (Int32.toUInt32 (1 : Int32) &&& Int32.toUInt32 31)).toInt32) &&& (1431655765 : Int32))) &&& (858993459 : Int32)) + (((Int32.toUInt32 (x0 - (((Int32.toUInt32 x0 >>> (Int32.toUInt32 (1 : Int32) &&& Int32.toUInt32 31)).toInt32) &&& (1431655765 : Int32))) >>> (Int32.toUInt32 (2 : Int32) &&& Int32.toUInt32 31)).toInt32) &&& (858993459 : Int32))) + ((Int32.toUInt32 (((x0 - (((Int32.toUInt32 x0 >>> (Int32.toUInt32 (1 : Int32) &&& Int32.toUInt32 31)).toInt32) &&& (1431655765 : Int32))) &&& (858993459 : Int32)) + (((Int32.toUInt32 (x0 - (((Int32.toUInt32 x0 >>> (Int32.toUInt32 (1 : Int32) &&& Int32.toUInt32 31)).toInt32) &&& (1431655765 : Int32))) >>> (Int32.toUInt32 (2 : Int32) &&& Int32.toUInt32 31)).toInt32) &&& (858993459 : Int32))) >>> (Int32.toUInt32 (4 : Int32) &&& Int32.toUInt32 31)).toInt32)) &&& (252645135 : Int32)) + ((Int32.toUInt32 (((((x0 - (((Int32.toUInt32 x0 >>> (Int32.toUInt32 (1 : Int32) &&& Int32.toUInt32 31)).toInt32) &&& (1431655765 : Int32))) &&& (858993459 : Int32)) + (((Int32.toUInt32 (x0 - (((Int32.toUInt32 x0 >>> (Int32.toUInt32 (1 : Int32) &&& Int32.toUInt32 31)).toInt32) &&& (1431655765 : Int32))) >>> (Int32.toUInt32 (2 : Int32) &&& Int32.toUInt32 31)).toInt32) &&& (858993459 : Int32))) + ((Int32.toUInt32 (((x0 - (((Int32.toUInt32 x0 >>> (Int32.toUInt32 (1 : Int32) &&& Int32.toUInt32 31)).toInt32) &&& (1431655765 : Int32))) &&& (858993459 : Int32)) + (((Int32.toUInt32 (x0 - (((Int32.toUInt32 x0 >>> (Int32.toUInt32 (1 : Int32) &&& Int32.toUInt32 31)).toInt32) &&& (1431655765 : Int32))) >>> (Int32.toUInt32 (2 : Int32) &&& Int32.toUInt32 31)).toInt32) &&& (858993459 : Int32))) >>> (Int32.toUInt32 (4 : Int32) &&& Int32.toUInt32 31)).toInt32)) &&& (252645135 : Int32)) >>> (Int32.toUInt32 (8 : Int32) &&& Int32.toUInt32 31)).toInt32)) >>> (Int32.toUInt32 (16 : Int32) &&& Int32.toUInt32 31)).toInt32)))]) hx hb dJ6_bitCount_0f7a4_47 rfl hl (by decide) rfl (fun ls hl => ?_)
  refine lv_iload_n hx hb dJ6_bitCount_0f7a4_48 rfl (lv_at hl 0 rfl) ?_
  refine lv_bipush (v := (63 : Int32)) hx hb dJ6_bitCount_0f7a4_49 (by decide) ?_
  refine lv_iand hx hb dJ6_bitCount_0f7a4_51 ?_
  have e9_0 := Option.some.inj hres
  subst e9_0
  rw [← hQQ]
  exact W.iret (v := ((((((((x0 - (((Int32.toUInt32 x0 >>> (Int32.toUInt32 (1 : Int32) &&& Int32.toUInt32 31)).toInt32) &&& (1431655765 : Int32))) &&& (858993459 : Int32)) + (((Int32.toUInt32 (x0 - (((Int32.toUInt32 x0 >>> (Int32.toUInt32 (1 : Int32) &&& Int32.toUInt32 31)).toInt32) &&& (1431655765 : Int32))) >>> (Int32.toUInt32 (2 : Int32) &&& Int32.toUInt32 31)).toInt32) &&& (858993459 : Int32))) + ((Int32.toUInt32 (((x0 - (((Int32.toUInt32 x0 >>> (Int32.toUInt32 (1 : Int32) &&& Int32.toUInt32 31)).toInt32) &&& (1431655765 : Int32))) &&& (858993459 : Int32)) + (((Int32.toUInt32 (x0 - (((Int32.toUInt32 x0 >>> (Int32.toUInt32 (1 : Int32) &&& Int32.toUInt32 31)).toInt32) &&& (1431655765 : Int32))) >>> (Int32.toUInt32 (2 : Int32) &&& Int32.toUInt32 31)).toInt32) &&& (858993459 : Int32))) >>> (Int32.toUInt32 (4 : Int32) &&& Int32.toUInt32 31)).toInt32)) &&& (252645135 : Int32)) + ((Int32.toUInt32 (((((x0 - (((Int32.toUInt32 x0 >>> (Int32.toUInt32 (1 : Int32) &&& Int32.toUInt32 31)).toInt32) &&& (1431655765 : Int32))) &&& (858993459 : Int32)) + (((Int32.toUInt32 (x0 - (((Int32.toUInt32 x0 >>> (Int32.toUInt32 (1 : Int32) &&& Int32.toUInt32 31)).toInt32) &&& (1431655765 : Int32))) >>> (Int32.toUInt32 (2 : Int32) &&& Int32.toUInt32 31)).toInt32) &&& (858993459 : Int32))) + ((Int32.toUInt32 (((x0 - (((Int32.toUInt32 x0 >>> (Int32.toUInt32 (1 : Int32) &&& Int32.toUInt32 31)).toInt32) &&& (1431655765 : Int32))) &&& (858993459 : Int32)) + (((Int32.toUInt32 (x0 - (((Int32.toUInt32 x0 >>> (Int32.toUInt32 (1 : Int32) &&& Int32.toUInt32 31)).toInt32) &&& (1431655765 : Int32))) >>> (Int32.toUInt32 (2 : Int32) &&& Int32.toUInt32 31)).toInt32) &&& (858993459 : Int32))) >>> (Int32.toUInt32 (4 : Int32) &&& Int32.toUInt32 31)).toInt32)) &&& (252645135 : Int32)) >>> (Int32.toUInt32 (8 : Int32) &&& Int32.toUInt32 31)).toInt32)) + ((Int32.toUInt32 ((((((x0 - (((Int32.toUInt32 x0 >>> (Int32.toUInt32 (1 : Int32) &&& Int32.toUInt32 31)).toInt32) &&& (1431655765 : Int32))) &&& (858993459 : Int32)) + (((Int32.toUInt32 (x0 - (((Int32.toUInt32 x0 >>> (Int32.toUInt32 (1 : Int32) &&& Int32.toUInt32 31)).toInt32) &&& (1431655765 : Int32))) >>> (Int32.toUInt32 (2 : Int32) &&& Int32.toUInt32 31)).toInt32) &&& (858993459 : Int32))) + ((Int32.toUInt32 (((x0 - (((Int32.toUInt32 x0 >>> (Int32.toUInt32 (1 : Int32) &&& Int32.toUInt32 31)).toInt32) &&& (1431655765 : Int32))) &&& (858993459 : Int32)) + (((Int32.toUInt32 (x0 - (((Int32.toUInt32 x0 >>> (Int32.toUInt32 (1 : Int32) &&& Int32.toUInt32 31)).toInt32) &&& (1431655765 : Int32))) >>> (Int32.toUInt32 (2 : Int32) &&& Int32.toUInt32 31)).toInt32) &&& (858993459 : Int32))) >>> (Int32.toUInt32 (4 : Int32) &&& Int32.toUInt32 31)).toInt32)) &&& (252645135 : Int32)) + ((Int32.toUInt32 (((((x0 - (((Int32.toUInt32 x0 >>> (Int32.toUInt32 (1 : Int32) &&& Int32.toUInt32 31)).toInt32) &&& (1431655765 : Int32))) &&& (858993459 : Int32)) + (((Int32.toUInt32 (x0 - (((Int32.toUInt32 x0 >>> (Int32.toUInt32 (1 : Int32) &&& Int32.toUInt32 31)).toInt32) &&& (1431655765 : Int32))) >>> (Int32.toUInt32 (2 : Int32) &&& Int32.toUInt32 31)).toInt32) &&& (858993459 : Int32))) + ((Int32.toUInt32 (((x0 - (((Int32.toUInt32 x0 >>> (Int32.toUInt32 (1 : Int32) &&& Int32.toUInt32 31)).toInt32) &&& (1431655765 : Int32))) &&& (858993459 : Int32)) + (((Int32.toUInt32 (x0 - (((Int32.toUInt32 x0 >>> (Int32.toUInt32 (1 : Int32) &&& Int32.toUInt32 31)).toInt32) &&& (1431655765 : Int32))) >>> (Int32.toUInt32 (2 : Int32) &&& Int32.toUInt32 31)).toInt32) &&& (858993459 : Int32))) >>> (Int32.toUInt32 (4 : Int32) &&& Int32.toUInt32 31)).toInt32)) &&& (252645135 : Int32)) >>> (Int32.toUInt32 (8 : Int32) &&& Int32.toUInt32 31)).toInt32)) >>> (Int32.toUInt32 (16 : Int32) &&& Int32.toUInt32 31)).toInt32)) &&& (63 : Int32))) hx hb hr (fun t ht hW => ⟨⟨((((((((x0 - (((Int32.toUInt32 x0 >>> (Int32.toUInt32 (1 : Int32) &&& Int32.toUInt32 31)).toInt32) &&& (1431655765 : Int32))) &&& (858993459 : Int32)) + (((Int32.toUInt32 (x0 - (((Int32.toUInt32 x0 >>> (Int32.toUInt32 (1 : Int32) &&& Int32.toUInt32 31)).toInt32) &&& (1431655765 : Int32))) >>> (Int32.toUInt32 (2 : Int32) &&& Int32.toUInt32 31)).toInt32) &&& (858993459 : Int32))) + ((Int32.toUInt32 (((x0 - (((Int32.toUInt32 x0 >>> (Int32.toUInt32 (1 : Int32) &&& Int32.toUInt32 31)).toInt32) &&& (1431655765 : Int32))) &&& (858993459 : Int32)) + (((Int32.toUInt32 (x0 - (((Int32.toUInt32 x0 >>> (Int32.toUInt32 (1 : Int32) &&& Int32.toUInt32 31)).toInt32) &&& (1431655765 : Int32))) >>> (Int32.toUInt32 (2 : Int32) &&& Int32.toUInt32 31)).toInt32) &&& (858993459 : Int32))) >>> (Int32.toUInt32 (4 : Int32) &&& Int32.toUInt32 31)).toInt32)) &&& (252645135 : Int32)) + ((Int32.toUInt32 (((((x0 - (((Int32.toUInt32 x0 >>> (Int32.toUInt32 (1 : Int32) &&& Int32.toUInt32 31)).toInt32) &&& (1431655765 : Int32))) &&& (858993459 : Int32)) + (((Int32.toUInt32 (x0 - (((Int32.toUInt32 x0 >>> (Int32.toUInt32 (1 : Int32) &&& Int32.toUInt32 31)).toInt32) &&& (1431655765 : Int32))) >>> (Int32.toUInt32 (2 : Int32) &&& Int32.toUInt32 31)).toInt32) &&& (858993459 : Int32))) + ((Int32.toUInt32 (((x0 - (((Int32.toUInt32 x0 >>> (Int32.toUInt32 (1 : Int32) &&& Int32.toUInt32 31)).toInt32) &&& (1431655765 : Int32))) &&& (858993459 : Int32)) + (((Int32.toUInt32 (x0 - (((Int32.toUInt32 x0 >>> (Int32.toUInt32 (1 : Int32) &&& Int32.toUInt32 31)).toInt32) &&& (1431655765 : Int32))) >>> (Int32.toUInt32 (2 : Int32) &&& Int32.toUInt32 31)).toInt32) &&& (858993459 : Int32))) >>> (Int32.toUInt32 (4 : Int32) &&& Int32.toUInt32 31)).toInt32)) &&& (252645135 : Int32)) >>> (Int32.toUInt32 (8 : Int32) &&& Int32.toUInt32 31)).toInt32)) + ((Int32.toUInt32 ((((((x0 - (((Int32.toUInt32 x0 >>> (Int32.toUInt32 (1 : Int32) &&& Int32.toUInt32 31)).toInt32) &&& (1431655765 : Int32))) &&& (858993459 : Int32)) + (((Int32.toUInt32 (x0 - (((Int32.toUInt32 x0 >>> (Int32.toUInt32 (1 : Int32) &&& Int32.toUInt32 31)).toInt32) &&& (1431655765 : Int32))) >>> (Int32.toUInt32 (2 : Int32) &&& Int32.toUInt32 31)).toInt32) &&& (858993459 : Int32))) + ((Int32.toUInt32 (((x0 - (((Int32.toUInt32 x0 >>> (Int32.toUInt32 (1 : Int32) &&& Int32.toUInt32 31)).toInt32) &&& (1431655765 : Int32))) &&& (858993459 : Int32)) + (((Int32.toUInt32 (x0 - (((Int32.toUInt32 x0 >>> (Int32.toUInt32 (1 : Int32) &&& Int32.toUInt32 31)).toInt32) &&& (1431655765 : Int32))) >>> (Int32.toUInt32 (2 : Int32) &&& Int32.toUInt32 31)).toInt32) &&& (858993459 : Int32))) >>> (Int32.toUInt32 (4 : Int32) &&& Int32.toUInt32 31)).toInt32)) &&& (252645135 : Int32)) + ((Int32.toUInt32 (((((x0 - (((Int32.toUInt32 x0 >>> (Int32.toUInt32 (1 : Int32) &&& Int32.toUInt32 31)).toInt32) &&& (1431655765 : Int32))) &&& (858993459 : Int32)) + (((Int32.toUInt32 (x0 - (((Int32.toUInt32 x0 >>> (Int32.toUInt32 (1 : Int32) &&& Int32.toUInt32 31)).toInt32) &&& (1431655765 : Int32))) >>> (Int32.toUInt32 (2 : Int32) &&& Int32.toUInt32 31)).toInt32) &&& (858993459 : Int32))) + ((Int32.toUInt32 (((x0 - (((Int32.toUInt32 x0 >>> (Int32.toUInt32 (1 : Int32) &&& Int32.toUInt32 31)).toInt32) &&& (1431655765 : Int32))) &&& (858993459 : Int32)) + (((Int32.toUInt32 (x0 - (((Int32.toUInt32 x0 >>> (Int32.toUInt32 (1 : Int32) &&& Int32.toUInt32 31)).toInt32) &&& (1431655765 : Int32))) >>> (Int32.toUInt32 (2 : Int32) &&& Int32.toUInt32 31)).toInt32) &&& (858993459 : Int32))) >>> (Int32.toUInt32 (4 : Int32) &&& Int32.toUInt32 31)).toInt32)) &&& (252645135 : Int32)) >>> (Int32.toUInt32 (8 : Int32) &&& Int32.toUInt32 31)).toInt32)) >>> (Int32.toUInt32 (16 : Int32) &&& Int32.toUInt32 31)).toInt32)) &&& (63 : Int32)), (), rfl, rfl, by rw [ht]; exact hP, va_K.moved hW.alike hK, hD⟩, hS.F ht⟩) hS.2.2 dJ6_bitCount_0f7a4_52

-- Rp_init
theorem kRp_init_X5_init_0 : Cond.methodLink RX5 3 objectInit ∈ wsX5_init := by decide +kernel
theorem kRp_init_X5_init_1 : Cond.instanceMethod objectInit ∈ wsX5_init := by decide +kernel
theorem kRp_init_X5_init_2 : Cond.code objectInit ⟨#[0xb1]⟩ 1 none ∈ wsX5_init := by decide +kernel
theorem kRp_init_X5_init_3 : Cond.arrayClass .int ∈ wsX5_init := by decide +kernel
theorem kRp_init_X5_init_4 : Cond.fieldLink RX5 9 "RepeatNests$Repeats" "standing" "[I" ∈ wsX5_init := by decide +kernel
theorem iRp_init_X5_init_5 : ∀ w ∈ wsX50, w ∈ wsX5_init := by decide +kernel
theorem kRp_init_X5_init_6 : Cond.fieldLink RX5 15 "RepeatNests$Repeats" "unlike" "[I" ∈ wsX5_init := by decide +kernel
theorem kRp_init_X5_init_7 : Cond.fieldLink RX5 18 "RepeatNests$Repeats" "blocks" "[I" ∈ wsX5_init := by decide +kernel
theorem kRp_init_X5_init_8 : Cond.fieldLink RX5 21 "RepeatNests$Repeats" "ends" "[I" ∈ wsX5_init := by decide +kernel
theorem kRp_init_X5_init_9 : Cond.fieldLink RX5 24 "RepeatNests$Repeats" "prices" "[I" ∈ wsX5_init := by decide +kernel
theorem kRp_init_X5_init_10 : Cond.fieldLink RX5 27 "RepeatNests$Repeats" "rowSize" "I" ∈ wsX5_init := by decide +kernel
theorem kRp_init_X5_init_11 : Cond.fieldLink RX5 31 "RepeatNests$Repeats" "repeatPrice" "I" ∈ wsX5_init := by decide +kernel
theorem kRp_init_X5_init_12 : Cond.fieldLink RX5 34 "RepeatNests$Repeats" "correctionPrice" "I" ∈ wsX5_init := by decide +kernel
theorem kRp_init_X5_init_13 : Cond.fieldLink RX5 37 "RepeatNests$Repeats" "mostCorrections" "I" ∈ wsX5_init := by decide +kernel
theorem kRp_init_X5_init_14 : Cond.fieldLink RX5 40 "RepeatNests$Repeats" "number" "I" ∈ wsX5_init := by decide +kernel
set_option maxHeartbeats 4000000 in
set_option maxRecDepth 100000 in
theorem cRp_init (l : Launch) (dC : Nat → ClassId) (dI : Nat → Nat → Nat) (cI cJ cC cS : ClassId) (h_t : Nat) (sz : Nat) (hres : fRp_init = some ()) :
    Met l yX5_init wsX5_init ({ frames := 1, cells := 5, slots := 208, locals := 21 } : Room) (va_Pc [.ref h_t] (fun (U : State) => U.heap.size = sz ∧ va_P (dC, dI) vwCl [(h_t, .inr (4, [.null, .null, .null, .null, .null, .int 0, .int 0, .int 0, .int 0, .int 0]))] U.heap ∧ va_K (dC, dI) vwCl (tyA cI cJ cC cS) U ∧ nwN U ∧ va_D (fun _ => True) [(h_t, .inr (4, [.null, .null, .null, .null, .null, .int 0, .int 0, .int 0, .int 0, .int 0]))])) (va_Qv (fun (_ : Nat × Nat × Nat × Nat × Nat) => True) (fun (u8 : Nat × Nat × Nat × Nat × Nat) (t : State) => va_P (dC, dI) vwCl [(h_t, .inr (4, [.ref u8.1, .ref u8.2.1, .ref u8.2.2.1, .ref u8.2.2.2.1, .ref u8.2.2.2.2, .int (0 : Int32), .int (0 : Int32), .int (0 : Int32), .int (0 : Int32), .int (0 : Int32)])), (u8.1, .inl (cI, 4, .inl (fun _ => 0))), (u8.2.1, .inl (cI, 24, .inl (fun _ => 0))), (u8.2.2.1, .inl (cI, 60, .inl (fun _ => 0))), (u8.2.2.2.1, .inl (cI, 60, .inl (fun _ => 0))), (u8.2.2.2.2, .inl (cI, 60, .inl (fun _ => 0)))] t.heap ∧ va_K (dC, dI) vwCl (tyA cI cJ cC cS) t ∧ va_D (va_A [(h_t, .inr (4, [.null, .null, .null, .null, .null, .int 0, .int 0, .int 0, .int 0, .int 0]))] sz) [(h_t, .inr (4, [.ref u8.1, .ref u8.2.1, .ref u8.2.2.1, .ref u8.2.2.2.1, .ref u8.2.2.2.2, .int (0 : Int32), .int (0 : Int32), .int (0 : Int32), .int (0 : Int32), .int (0 : Int32)])), (u8.1, .inl (cI, 4, .inl (fun _ => 0))), (u8.2.1, .inl (cI, 24, .inl (fun _ => 0))), (u8.2.2.1, .inl (cI, 60, .inl (fun _ => 0))), (u8.2.2.2.1, .inl (cI, 60, .inl (fun _ => 0))), (u8.2.2.2.2, .inl (cI, 60, .inl (fun _ => 0)))]) (va_A [(h_t, .inr (4, [.null, .null, .null, .null, .null, .int 0, .int 0, .int 0, .int 0, .int 0]))] sz)) 5 208 (va_A [(h_t, .inr (4, [.null, .null, .null, .null, .null, .int 0, .int 0, .int 0, .int 0, .int 0]))] sz) := by
  refine Met.ofW (cc := cX5_init) (maxL := 1) (ret := none) (by decide) rfl ?_
  intro p e s m args below meth c s₁ B hml hv
  obtain ⟨hargs, hsz, hP, hK, hN, hD0⟩ := hv
  have hx := B.exec
  have hb := B.bytes
  have hr := B.returns
  have hts := atoms_spec (ws := wsX5_init) B.pre
  have hown : s.vm.findClass RX5 = some m.cls := findClass_of_methodNamed B.named
  have hlocks := B.notSynchronized
  have hin : meth.name = "<init>" := (name_of_methodNamed B.named B.method).1
  subst hsz
  have hD := hD0.self (sz := s.heap.size)
  generalize hAe : va_A [(h_t, .inr (4, [.null, .null, .null, .null, .null, .int 0, .int 0, .int 0, .int 0, .int 0]))] s.heap.size = A at hD ⊢
  have hA : ∀ q : Nat, s.heap.size ≤ q → A q := fun q h => by rw [← hAe]; exact Or.inr h
  have hS : va_S A s.heap s.heap [] := va_S.rf
  have hP : va_P (dC, dI) vwCl [(h_t, .inr (4, [.null, .null, .null, .null, .null, .int 0, .int 0, .int 0, .int 0, .int 0]))] s.heap := hP
  have hl := lv_entry [.ref h_t] (n := 1) (Nat.le_of_ble_eq_true rfl)
  rw [show entryFrame m args 1 = entryFrame m ([.ref h_t] : List Value).toArray 1 from by rw [hargs], lg_entry_eq]
  generalize (lg_sl [.ref h_t] ++ List.replicate (1 - (lg_sl [.ref h_t]).length) Slot.unset).toArray = ls at hl ⊢
  have hl : lv_has ls 1 [(0, .ref h_t)] := hl
  generalize hQQ : MQ below (va_Qv (fun (_ : Nat × Nat × Nat × Nat × Nat) => True) (fun (u8 : Nat × Nat × Nat × Nat × Nat) (t : State) => va_P (dC, dI) vwCl [(h_t, .inr (4, [.ref u8.1, .ref u8.2.1, .ref u8.2.2.1, .ref u8.2.2.2.1, .ref u8.2.2.2.2, .int (0 : Int32), .int (0 : Int32), .int (0 : Int32), .int (0 : Int32), .int (0 : Int32)])), (u8.1, .inl (cI, 4, .inl (fun _ => 0))), (u8.2.1, .inl (cI, 24, .inl (fun _ => 0))), (u8.2.2.1, .inl (cI, 60, .inl (fun _ => 0))), (u8.2.2.2.1, .inl (cI, 60, .inl (fun _ => 0))), (u8.2.2.2.2, .inl (cI, 60, .inl (fun _ => 0)))] t.heap ∧ va_K (dC, dI) vwCl (tyA cI cJ cC cS) t ∧ va_D A [(h_t, .inr (4, [.ref u8.1, .ref u8.2.1, .ref u8.2.2.1, .ref u8.2.2.2.1, .ref u8.2.2.2.2, .int (0 : Int32), .int (0 : Int32), .int (0 : Int32), .int (0 : Int32), .int (0 : Int32)])), (u8.1, .inl (cI, 4, .inl (fun _ => 0))), (u8.2.1, .inl (cI, 24, .inl (fun _ => 0))), (u8.2.2.1, .inl (cI, 60, .inl (fun _ => 0))), (u8.2.2.2.1, .inl (cI, 60, .inl (fun _ => 0))), (u8.2.2.2.2, .inl (cI, 60, .inl (fun _ => 0)))]) A) args s 5 208 A = QQ
  obtain ⟨H, hH⟩ : ∃ H : Heap, H = s.heap := ⟨_, rfl⟩
  obtain ⟨locs, hlocs⟩ : ∃ locs : List Loc, locs = [] := ⟨_, rfl⟩
  rw [← hH] at hP
  have hS : va_S A s.heap H locs := by rw [hH, hlocs]; exact hS
  suffices hZ : W p l e (headSpec wsX5_init ({ frames := 1, cells := 5, slots := 208, locals := 21 } : Room)).room s m args below meth c H locs 0 0 QQ (F0 m 0 ls []) by rw [hH, hlocs] at hZ; exact hZ
  clear hH hlocs
  rw [fRp_init] at hres
  refine lv_aload_n hx hb dX5_init_0 rfl (lv_at hl 0 rfl) ?_
  refine W.objInit hx hb hown (hts _ kRp_init_X5_init_0) (hts _ kRp_init_X5_init_1) (hts _ kRp_init_X5_init_2) rfl (by rw [hml]; exact hl.1) rfl dX5_init_1 (Nat.le_of_ble_eq_true rfl) (Nat.le_of_ble_eq_true rfl) ?_
  refine W.eq (g2 := F0 m 4 ls []) rfl ?_
  refine lv_aload_n hx hb dX5_init_4 rfl (lv_at hl 0 rfl) ?_
  refine lv_iconst (v := (4 : Int32)) hx hb dX5_init_5 (by decide) ?_
  refine va_newa hx hb (atype := .int) (hts _ kRp_init_X5_init_3) (ty := .int) rfl hK hP hD hS hA (N' := 4) (a0 := (4, .inl (fun _ => 0))) (fun cA => rfl) (by decide) (by decide) (Nat.le_of_ble_eq_true rfl) (Nat.le_of_ble_eq_true rfl) (Nat.le_of_ble_eq_true rfl) dX5_init_6 (fun q_n6 cA H hK9 hP hD hS => ?_)
  have eA := newA_I hK9
  subst eA
  clear hK9
  have hP : va_P (dC, dI) vwCl [(h_t, .inr (4, [.null, .null, .null, .null, .null, .int 0, .int 0, .int 0, .int 0, .int 0])), (q_n6, .inl (cI, 4, .inl (fun _ => 0)))] H := hP
  have hD : va_D A [(h_t, .inr (4, [.null, .null, .null, .null, .null, .int 0, .int 0, .int 0, .int 0, .int 0])), (q_n6, .inl (cI, 4, .inl (fun _ => 0)))] := hD
  refine W.widen (k := 1) (n := 4) (Nat.le_of_ble_eq_true rfl) (Nat.le_of_ble_eq_true rfl) ?_
  refine va_putF (D := (dC, dI)) (ci := 4) (v := .ref q_n6) (ty := .array .int) (C := RX5) (T := TX5) (N := 10) hx hb hts iRp_init_X5_init_5 tyX5 tyX5_ok nmX5 hown hK hP hD hS 0 rfl rfl 0 (by decide) (hts _ kRp_init_X5_init_4) (fun _ h9 => h9) rfl hin rfl (by decide +kernel) rfl rfl (Nat.le_of_ble_eq_true rfl) dX5_init_8 (fun H locs hP hD hS => ?_)
  have hP : va_P (dC, dI) vwCl [(h_t, .inr (4, [.ref q_n6, .null, .null, .null, .null, .int 0, .int 0, .int 0, .int 0, .int 0])), (q_n6, .inl (cI, 4, .inl (fun _ => 0)))] H := hP
  have hD : va_D A [(h_t, .inr (4, [.ref q_n6, .null, .null, .null, .null, .int 0, .int 0, .int 0, .int 0, .int 0])), (q_n6, .inl (cI, 4, .inl (fun _ => 0)))] := hD
  refine lv_aload_n hx hb dX5_init_11 rfl (lv_at hl 0 rfl) ?_
  refine lv_bipush (v := (24 : Int32)) hx hb dX5_init_12 (by decide) ?_
  refine va_newa hx hb (atype := .int) (hts _ kRp_init_X5_init_3) (ty := .int) rfl hK hP hD hS hA (N' := 24) (a0 := (24, .inl (fun _ => 0))) (fun cA => rfl) (by decide) (by decide) (Nat.le_of_ble_eq_true rfl) (Nat.le_of_ble_eq_true rfl) (Nat.le_of_ble_eq_true rfl) dX5_init_14 (fun q_n14 cA H hK9 hP hD hS => ?_)
  have eA := newA_I hK9
  subst eA
  clear hK9
  have hP : va_P (dC, dI) vwCl [(h_t, .inr (4, [.ref q_n6, .null, .null, .null, .null, .int 0, .int 0, .int 0, .int 0, .int 0])), (q_n6, .inl (cI, 4, .inl (fun _ => 0))), (q_n14, .inl (cI, 24, .inl (fun _ => 0)))] H := hP
  have hD : va_D A [(h_t, .inr (4, [.ref q_n6, .null, .null, .null, .null, .int 0, .int 0, .int 0, .int 0, .int 0])), (q_n6, .inl (cI, 4, .inl (fun _ => 0))), (q_n14, .inl (cI, 24, .inl (fun _ => 0)))] := hD
  refine W.widen (k := 2) (n := 28) (Nat.le_of_ble_eq_true rfl) (Nat.le_of_ble_eq_true rfl) ?_
  refine va_putF (D := (dC, dI)) (ci := 4) (v := .ref q_n14) (ty := .array .int) (C := RX5) (T := TX5) (N := 10) hx hb hts iRp_init_X5_init_5 tyX5 tyX5_ok nmX5 hown hK hP hD hS 0 rfl rfl 1 (by decide) (hts _ kRp_init_X5_init_6) (fun _ h9 => h9) rfl hin rfl (by decide +kernel) rfl rfl (Nat.le_of_ble_eq_true rfl) dX5_init_16 (fun H locs hP hD hS => ?_)
  have hP : va_P (dC, dI) vwCl [(h_t, .inr (4, [.ref q_n6, .ref q_n14, .null, .null, .null, .int 0, .int 0, .int 0, .int 0, .int 0])), (q_n6, .inl (cI, 4, .inl (fun _ => 0))), (q_n14, .inl (cI, 24, .inl (fun _ => 0)))] H := hP
  have hD : va_D A [(h_t, .inr (4, [.ref q_n6, .ref q_n14, .null, .null, .null, .int 0, .int 0, .int 0, .int 0, .int 0])), (q_n6, .inl (cI, 4, .inl (fun _ => 0))), (q_n14, .inl (cI, 24, .inl (fun _ => 0)))] := hD
  refine lv_aload_n hx hb dX5_init_19 rfl (lv_at hl 0 rfl) ?_
  refine lv_bipush (v := (60 : Int32)) hx hb dX5_init_20 (by decide) ?_
  refine va_newa hx hb (atype := .int) (hts _ kRp_init_X5_init_3) (ty := .int) rfl hK hP hD hS hA (N' := 60) (a0 := (60, .inl (fun _ => 0))) (fun cA => rfl) (by decide) (by decide) (Nat.le_of_ble_eq_true rfl) (Nat.le_of_ble_eq_true rfl) (Nat.le_of_ble_eq_true rfl) dX5_init_22 (fun q_n22 cA H hK9 hP hD hS => ?_)
  have eA := newA_I hK9
  subst eA
  clear hK9
  have hP : va_P (dC, dI) vwCl [(h_t, .inr (4, [.ref q_n6, .ref q_n14, .null, .null, .null, .int 0, .int 0, .int 0, .int 0, .int 0])), (q_n6, .inl (cI, 4, .inl (fun _ => 0))), (q_n14, .inl (cI, 24, .inl (fun _ => 0))), (q_n22, .inl (cI, 60, .inl (fun _ => 0)))] H := hP
  have hD : va_D A [(h_t, .inr (4, [.ref q_n6, .ref q_n14, .null, .null, .null, .int 0, .int 0, .int 0, .int 0, .int 0])), (q_n6, .inl (cI, 4, .inl (fun _ => 0))), (q_n14, .inl (cI, 24, .inl (fun _ => 0))), (q_n22, .inl (cI, 60, .inl (fun _ => 0)))] := hD
  refine W.widen (k := 3) (n := 88) (Nat.le_of_ble_eq_true rfl) (Nat.le_of_ble_eq_true rfl) ?_
  refine va_putF (D := (dC, dI)) (ci := 4) (v := .ref q_n22) (ty := .array .int) (C := RX5) (T := TX5) (N := 10) hx hb hts iRp_init_X5_init_5 tyX5 tyX5_ok nmX5 hown hK hP hD hS 0 rfl rfl 2 (by decide) (hts _ kRp_init_X5_init_7) (fun _ h9 => h9) rfl hin rfl (by decide +kernel) rfl rfl (Nat.le_of_ble_eq_true rfl) dX5_init_24 (fun H locs hP hD hS => ?_)
  have hP : va_P (dC, dI) vwCl [(h_t, .inr (4, [.ref q_n6, .ref q_n14, .ref q_n22, .null, .null, .int 0, .int 0, .int 0, .int 0, .int 0])), (q_n6, .inl (cI, 4, .inl (fun _ => 0))), (q_n14, .inl (cI, 24, .inl (fun _ => 0))), (q_n22, .inl (cI, 60, .inl (fun _ => 0)))] H := hP
  have hD : va_D A [(h_t, .inr (4, [.ref q_n6, .ref q_n14, .ref q_n22, .null, .null, .int 0, .int 0, .int 0, .int 0, .int 0])), (q_n6, .inl (cI, 4, .inl (fun _ => 0))), (q_n14, .inl (cI, 24, .inl (fun _ => 0))), (q_n22, .inl (cI, 60, .inl (fun _ => 0)))] := hD
  refine lv_aload_n hx hb dX5_init_27 rfl (lv_at hl 0 rfl) ?_
  refine lv_bipush (v := (60 : Int32)) hx hb dX5_init_28 (by decide) ?_
  refine va_newa hx hb (atype := .int) (hts _ kRp_init_X5_init_3) (ty := .int) rfl hK hP hD hS hA (N' := 60) (a0 := (60, .inl (fun _ => 0))) (fun cA => rfl) (by decide) (by decide) (Nat.le_of_ble_eq_true rfl) (Nat.le_of_ble_eq_true rfl) (Nat.le_of_ble_eq_true rfl) dX5_init_30 (fun q_n30 cA H hK9 hP hD hS => ?_)
  have eA := newA_I hK9
  subst eA
  clear hK9
  have hP : va_P (dC, dI) vwCl [(h_t, .inr (4, [.ref q_n6, .ref q_n14, .ref q_n22, .null, .null, .int 0, .int 0, .int 0, .int 0, .int 0])), (q_n6, .inl (cI, 4, .inl (fun _ => 0))), (q_n14, .inl (cI, 24, .inl (fun _ => 0))), (q_n22, .inl (cI, 60, .inl (fun _ => 0))), (q_n30, .inl (cI, 60, .inl (fun _ => 0)))] H := hP
  have hD : va_D A [(h_t, .inr (4, [.ref q_n6, .ref q_n14, .ref q_n22, .null, .null, .int 0, .int 0, .int 0, .int 0, .int 0])), (q_n6, .inl (cI, 4, .inl (fun _ => 0))), (q_n14, .inl (cI, 24, .inl (fun _ => 0))), (q_n22, .inl (cI, 60, .inl (fun _ => 0))), (q_n30, .inl (cI, 60, .inl (fun _ => 0)))] := hD
  refine W.widen (k := 4) (n := 148) (Nat.le_of_ble_eq_true rfl) (Nat.le_of_ble_eq_true rfl) ?_
  refine va_putF (D := (dC, dI)) (ci := 4) (v := .ref q_n30) (ty := .array .int) (C := RX5) (T := TX5) (N := 10) hx hb hts iRp_init_X5_init_5 tyX5 tyX5_ok nmX5 hown hK hP hD hS 0 rfl rfl 3 (by decide) (hts _ kRp_init_X5_init_8) (fun _ h9 => h9) rfl hin rfl (by decide +kernel) rfl rfl (Nat.le_of_ble_eq_true rfl) dX5_init_32 (fun H locs hP hD hS => ?_)
  have hP : va_P (dC, dI) vwCl [(h_t, .inr (4, [.ref q_n6, .ref q_n14, .ref q_n22, .ref q_n30, .null, .int 0, .int 0, .int 0, .int 0, .int 0])), (q_n6, .inl (cI, 4, .inl (fun _ => 0))), (q_n14, .inl (cI, 24, .inl (fun _ => 0))), (q_n22, .inl (cI, 60, .inl (fun _ => 0))), (q_n30, .inl (cI, 60, .inl (fun _ => 0)))] H := hP
  have hD : va_D A [(h_t, .inr (4, [.ref q_n6, .ref q_n14, .ref q_n22, .ref q_n30, .null, .int 0, .int 0, .int 0, .int 0, .int 0])), (q_n6, .inl (cI, 4, .inl (fun _ => 0))), (q_n14, .inl (cI, 24, .inl (fun _ => 0))), (q_n22, .inl (cI, 60, .inl (fun _ => 0))), (q_n30, .inl (cI, 60, .inl (fun _ => 0)))] := hD
  refine lv_aload_n hx hb dX5_init_35 rfl (lv_at hl 0 rfl) ?_
  refine lv_bipush (v := (60 : Int32)) hx hb dX5_init_36 (by decide) ?_
  refine va_newa hx hb (atype := .int) (hts _ kRp_init_X5_init_3) (ty := .int) rfl hK hP hD hS hA (N' := 60) (a0 := (60, .inl (fun _ => 0))) (fun cA => rfl) (by decide) (by decide) (Nat.le_of_ble_eq_true rfl) (Nat.le_of_ble_eq_true rfl) (Nat.le_of_ble_eq_true rfl) dX5_init_38 (fun q_n38 cA H hK9 hP hD hS => ?_)
  have eA := newA_I hK9
  subst eA
  clear hK9
  have hP : va_P (dC, dI) vwCl [(h_t, .inr (4, [.ref q_n6, .ref q_n14, .ref q_n22, .ref q_n30, .null, .int 0, .int 0, .int 0, .int 0, .int 0])), (q_n6, .inl (cI, 4, .inl (fun _ => 0))), (q_n14, .inl (cI, 24, .inl (fun _ => 0))), (q_n22, .inl (cI, 60, .inl (fun _ => 0))), (q_n30, .inl (cI, 60, .inl (fun _ => 0))), (q_n38, .inl (cI, 60, .inl (fun _ => 0)))] H := hP
  have hD : va_D A [(h_t, .inr (4, [.ref q_n6, .ref q_n14, .ref q_n22, .ref q_n30, .null, .int 0, .int 0, .int 0, .int 0, .int 0])), (q_n6, .inl (cI, 4, .inl (fun _ => 0))), (q_n14, .inl (cI, 24, .inl (fun _ => 0))), (q_n22, .inl (cI, 60, .inl (fun _ => 0))), (q_n30, .inl (cI, 60, .inl (fun _ => 0))), (q_n38, .inl (cI, 60, .inl (fun _ => 0)))] := hD
  refine W.widen (k := 5) (n := 208) (Nat.le_of_ble_eq_true rfl) (Nat.le_of_ble_eq_true rfl) ?_
  refine va_putF (D := (dC, dI)) (ci := 4) (v := .ref q_n38) (ty := .array .int) (C := RX5) (T := TX5) (N := 10) hx hb hts iRp_init_X5_init_5 tyX5 tyX5_ok nmX5 hown hK hP hD hS 0 rfl rfl 4 (by decide) (hts _ kRp_init_X5_init_9) (fun _ h9 => h9) rfl hin rfl (by decide +kernel) rfl rfl (Nat.le_of_ble_eq_true rfl) dX5_init_40 (fun H locs hP hD hS => ?_)
  have hP : va_P (dC, dI) vwCl [(h_t, .inr (4, [.ref q_n6, .ref q_n14, .ref q_n22, .ref q_n30, .ref q_n38, .int 0, .int 0, .int 0, .int 0, .int 0])), (q_n6, .inl (cI, 4, .inl (fun _ => 0))), (q_n14, .inl (cI, 24, .inl (fun _ => 0))), (q_n22, .inl (cI, 60, .inl (fun _ => 0))), (q_n30, .inl (cI, 60, .inl (fun _ => 0))), (q_n38, .inl (cI, 60, .inl (fun _ => 0)))] H := hP
  have hD : va_D A [(h_t, .inr (4, [.ref q_n6, .ref q_n14, .ref q_n22, .ref q_n30, .ref q_n38, .int 0, .int 0, .int 0, .int 0, .int 0])), (q_n6, .inl (cI, 4, .inl (fun _ => 0))), (q_n14, .inl (cI, 24, .inl (fun _ => 0))), (q_n22, .inl (cI, 60, .inl (fun _ => 0))), (q_n30, .inl (cI, 60, .inl (fun _ => 0))), (q_n38, .inl (cI, 60, .inl (fun _ => 0)))] := hD
  refine lv_aload_n hx hb dX5_init_43 rfl (lv_at hl 0 rfl) ?_
  refine lv_iconst (v := (0 : Int32)) hx hb dX5_init_44 (by decide) ?_
  refine va_put (D := (dC, dI)) (ci := 4) (v := .int (0 : Int32)) (ty := .int) (C := RX5) (T := TX5) (N := 10) hx hb hts iRp_init_X5_init_5 tyX5 tyX5_ok nmX5 hown hK hP hD hS 0 rfl rfl 5 (by decide) (hts _ kRp_init_X5_init_10) (fun _ h9 => h9) rfl (by decide +kernel) rfl rfl (Nat.le_of_ble_eq_true rfl) dX5_init_45 (fun H locs hP hD hS => ?_)
  have hP : va_P (dC, dI) vwCl [(h_t, .inr (4, [.ref q_n6, .ref q_n14, .ref q_n22, .ref q_n30, .ref q_n38, .int (0 : Int32), .int 0, .int 0, .int 0, .int 0])), (q_n6, .inl (cI, 4, .inl (fun _ => 0))), (q_n14, .inl (cI, 24, .inl (fun _ => 0))), (q_n22, .inl (cI, 60, .inl (fun _ => 0))), (q_n30, .inl (cI, 60, .inl (fun _ => 0))), (q_n38, .inl (cI, 60, .inl (fun _ => 0)))] H := hP
  have hD : va_D A [(h_t, .inr (4, [.ref q_n6, .ref q_n14, .ref q_n22, .ref q_n30, .ref q_n38, .int (0 : Int32), .int 0, .int 0, .int 0, .int 0])), (q_n6, .inl (cI, 4, .inl (fun _ => 0))), (q_n14, .inl (cI, 24, .inl (fun _ => 0))), (q_n22, .inl (cI, 60, .inl (fun _ => 0))), (q_n30, .inl (cI, 60, .inl (fun _ => 0))), (q_n38, .inl (cI, 60, .inl (fun _ => 0)))] := hD
  refine lv_aload_n hx hb dX5_init_48 rfl (lv_at hl 0 rfl) ?_
  refine lv_iconst (v := (0 : Int32)) hx hb dX5_init_49 (by decide) ?_
  refine va_put (D := (dC, dI)) (ci := 4) (v := .int (0 : Int32)) (ty := .int) (C := RX5) (T := TX5) (N := 10) hx hb hts iRp_init_X5_init_5 tyX5 tyX5_ok nmX5 hown hK hP hD hS 0 rfl rfl 6 (by decide) (hts _ kRp_init_X5_init_11) (fun _ h9 => h9) rfl (by decide +kernel) rfl rfl (Nat.le_of_ble_eq_true rfl) dX5_init_50 (fun H locs hP hD hS => ?_)
  have hP : va_P (dC, dI) vwCl [(h_t, .inr (4, [.ref q_n6, .ref q_n14, .ref q_n22, .ref q_n30, .ref q_n38, .int (0 : Int32), .int (0 : Int32), .int 0, .int 0, .int 0])), (q_n6, .inl (cI, 4, .inl (fun _ => 0))), (q_n14, .inl (cI, 24, .inl (fun _ => 0))), (q_n22, .inl (cI, 60, .inl (fun _ => 0))), (q_n30, .inl (cI, 60, .inl (fun _ => 0))), (q_n38, .inl (cI, 60, .inl (fun _ => 0)))] H := hP
  have hD : va_D A [(h_t, .inr (4, [.ref q_n6, .ref q_n14, .ref q_n22, .ref q_n30, .ref q_n38, .int (0 : Int32), .int (0 : Int32), .int 0, .int 0, .int 0])), (q_n6, .inl (cI, 4, .inl (fun _ => 0))), (q_n14, .inl (cI, 24, .inl (fun _ => 0))), (q_n22, .inl (cI, 60, .inl (fun _ => 0))), (q_n30, .inl (cI, 60, .inl (fun _ => 0))), (q_n38, .inl (cI, 60, .inl (fun _ => 0)))] := hD
  refine lv_aload_n hx hb dX5_init_53 rfl (lv_at hl 0 rfl) ?_
  refine lv_iconst (v := (0 : Int32)) hx hb dX5_init_54 (by decide) ?_
  refine va_put (D := (dC, dI)) (ci := 4) (v := .int (0 : Int32)) (ty := .int) (C := RX5) (T := TX5) (N := 10) hx hb hts iRp_init_X5_init_5 tyX5 tyX5_ok nmX5 hown hK hP hD hS 0 rfl rfl 7 (by decide) (hts _ kRp_init_X5_init_12) (fun _ h9 => h9) rfl (by decide +kernel) rfl rfl (Nat.le_of_ble_eq_true rfl) dX5_init_55 (fun H locs hP hD hS => ?_)
  have hP : va_P (dC, dI) vwCl [(h_t, .inr (4, [.ref q_n6, .ref q_n14, .ref q_n22, .ref q_n30, .ref q_n38, .int (0 : Int32), .int (0 : Int32), .int (0 : Int32), .int 0, .int 0])), (q_n6, .inl (cI, 4, .inl (fun _ => 0))), (q_n14, .inl (cI, 24, .inl (fun _ => 0))), (q_n22, .inl (cI, 60, .inl (fun _ => 0))), (q_n30, .inl (cI, 60, .inl (fun _ => 0))), (q_n38, .inl (cI, 60, .inl (fun _ => 0)))] H := hP
  have hD : va_D A [(h_t, .inr (4, [.ref q_n6, .ref q_n14, .ref q_n22, .ref q_n30, .ref q_n38, .int (0 : Int32), .int (0 : Int32), .int (0 : Int32), .int 0, .int 0])), (q_n6, .inl (cI, 4, .inl (fun _ => 0))), (q_n14, .inl (cI, 24, .inl (fun _ => 0))), (q_n22, .inl (cI, 60, .inl (fun _ => 0))), (q_n30, .inl (cI, 60, .inl (fun _ => 0))), (q_n38, .inl (cI, 60, .inl (fun _ => 0)))] := hD
  refine lv_aload_n hx hb dX5_init_58 rfl (lv_at hl 0 rfl) ?_
  refine lv_iconst (v := (0 : Int32)) hx hb dX5_init_59 (by decide) ?_
  refine va_put (D := (dC, dI)) (ci := 4) (v := .int (0 : Int32)) (ty := .int) (C := RX5) (T := TX5) (N := 10) hx hb hts iRp_init_X5_init_5 tyX5 tyX5_ok nmX5 hown hK hP hD hS 0 rfl rfl 8 (by decide) (hts _ kRp_init_X5_init_13) (fun _ h9 => h9) rfl (by decide +kernel) rfl rfl (Nat.le_of_ble_eq_true rfl) dX5_init_60 (fun H locs hP hD hS => ?_)
  have hP : va_P (dC, dI) vwCl [(h_t, .inr (4, [.ref q_n6, .ref q_n14, .ref q_n22, .ref q_n30, .ref q_n38, .int (0 : Int32), .int (0 : Int32), .int (0 : Int32), .int (0 : Int32), .int 0])), (q_n6, .inl (cI, 4, .inl (fun _ => 0))), (q_n14, .inl (cI, 24, .inl (fun _ => 0))), (q_n22, .inl (cI, 60, .inl (fun _ => 0))), (q_n30, .inl (cI, 60, .inl (fun _ => 0))), (q_n38, .inl (cI, 60, .inl (fun _ => 0)))] H := hP
  have hD : va_D A [(h_t, .inr (4, [.ref q_n6, .ref q_n14, .ref q_n22, .ref q_n30, .ref q_n38, .int (0 : Int32), .int (0 : Int32), .int (0 : Int32), .int (0 : Int32), .int 0])), (q_n6, .inl (cI, 4, .inl (fun _ => 0))), (q_n14, .inl (cI, 24, .inl (fun _ => 0))), (q_n22, .inl (cI, 60, .inl (fun _ => 0))), (q_n30, .inl (cI, 60, .inl (fun _ => 0))), (q_n38, .inl (cI, 60, .inl (fun _ => 0)))] := hD
  refine lv_aload_n hx hb dX5_init_63 rfl (lv_at hl 0 rfl) ?_
  refine lv_iconst (v := (0 : Int32)) hx hb dX5_init_64 (by decide) ?_
  refine va_put (D := (dC, dI)) (ci := 4) (v := .int (0 : Int32)) (ty := .int) (C := RX5) (T := TX5) (N := 10) hx hb hts iRp_init_X5_init_5 tyX5 tyX5_ok nmX5 hown hK hP hD hS 0 rfl rfl 9 (by decide) (hts _ kRp_init_X5_init_14) (fun _ h9 => h9) rfl (by decide +kernel) rfl rfl (Nat.le_of_ble_eq_true rfl) dX5_init_65 (fun H locs hP hD hS => ?_)
  have hP : va_P (dC, dI) vwCl [(h_t, .inr (4, [.ref q_n6, .ref q_n14, .ref q_n22, .ref q_n30, .ref q_n38, .int (0 : Int32), .int (0 : Int32), .int (0 : Int32), .int (0 : Int32), .int (0 : Int32)])), (q_n6, .inl (cI, 4, .inl (fun _ => 0))), (q_n14, .inl (cI, 24, .inl (fun _ => 0))), (q_n22, .inl (cI, 60, .inl (fun _ => 0))), (q_n30, .inl (cI, 60, .inl (fun _ => 0))), (q_n38, .inl (cI, 60, .inl (fun _ => 0)))] H := hP
  have hD : va_D A [(h_t, .inr (4, [.ref q_n6, .ref q_n14, .ref q_n22, .ref q_n30, .ref q_n38, .int (0 : Int32), .int (0 : Int32), .int (0 : Int32), .int (0 : Int32), .int (0 : Int32)])), (q_n6, .inl (cI, 4, .inl (fun _ => 0))), (q_n14, .inl (cI, 24, .inl (fun _ => 0))), (q_n22, .inl (cI, 60, .inl (fun _ => 0))), (q_n30, .inl (cI, 60, .inl (fun _ => 0))), (q_n38, .inl (cI, 60, .inl (fun _ => 0)))] := hD
  refine W.widen (k := 5) (n := 208) (Nat.le_of_ble_eq_true rfl) (Nat.le_of_ble_eq_true rfl) ?_
  rw [← hQQ]
  exact W.vret hx hb hr (fun t ht hW => ⟨⟨(q_n6, q_n14, q_n22, q_n30, q_n38), rfl, trivial, by rw [ht]; exact hP, va_K.moved hW.alike hK, hD⟩, hS.F ht⟩) hS.2.2 dX5_init_68

-- Rp_findOf
theorem kRp_findOf_X5_findOf_0 : Cond.fieldLink RX5 27 "RepeatNests$Repeats" "rowSize" "I" ∈ wsX5_findOf := by decide +kernel
theorem iRp_findOf_X5_findOf_1 : ∀ w ∈ wsX50, w ∈ wsX5_findOf := by decide +kernel
theorem kRp_findOf_X5_findOf_2 : Cond.fieldLink RX5 40 "RepeatNests$Repeats" "number" "I" ∈ wsX5_findOf := by decide +kernel
theorem kRp_findOf_X5_findOf_3 : Cond.fieldLink RX5 15 "RepeatNests$Repeats" "unlike" "[I" ∈ wsX5_findOf := by decide +kernel
theorem kRp_findOf_X5_findOf_4 : Cond.fieldLink RX5 37 "RepeatNests$Repeats" "mostCorrections" "I" ∈ wsX5_findOf := by decide +kernel
theorem kRp_findOf_X5_findOf_5 : Cond.fieldLink RX5 18 "RepeatNests$Repeats" "blocks" "[I" ∈ wsX5_findOf := by decide +kernel
theorem kRp_findOf_X5_findOf_6 : Cond.fieldLink RX5 21 "RepeatNests$Repeats" "ends" "[I" ∈ wsX5_findOf := by decide +kernel
theorem kRp_findOf_X5_findOf_7 : Cond.fieldLink RX5 24 "RepeatNests$Repeats" "prices" "[I" ∈ wsX5_findOf := by decide +kernel
theorem kRp_findOf_X5_findOf_8 : Cond.fieldLink RX5 31 "RepeatNests$Repeats" "repeatPrice" "I" ∈ wsX5_findOf := by decide +kernel
theorem kRp_findOf_X5_findOf_9 : Cond.fieldLink RX5 34 "RepeatNests$Repeats" "correctionPrice" "I" ∈ wsX5_findOf := by decide +kernel
set_option maxHeartbeats 4000000 in
set_option maxRecDepth 100000 in
theorem cRp_findOf (l : Launch) (dC : Nat → ClassId) (dI : Nat → Nat → Nat) (cI cJ cC cS : ClassId) (h_t h_t_standing h_t_unlike h_t_blocks h_t_ends h_t_prices : Nat) (sz : Nat) (t_rowSize : Int32) (t_repeatPrice : Int32) (t_correctionPrice : Int32) (t_mostCorrections : Int32) (t_number : Int32) (t_blocks : Nat → Int32) (t_ends : Nat → Int32) (t_prices : Nat → Int32) (t_unlike : Nat → Int32) (x1 : Int32) (x2 : Int32) (y_t_number : Int32) (y_t_blocks : Nat → Int32) (y_t_ends : Nat → Int32) (y_t_prices : Nat → Int32) (hres : fRp_findOf t_rowSize t_repeatPrice t_correctionPrice t_mostCorrections t_unlike t_number t_blocks t_ends t_prices x1 x2 = some (y_t_number, y_t_blocks, y_t_ends, y_t_prices)) :
    Met l yX5_findOf wsX5_findOf ({ frames := 1, cells := 0, slots := 0, locals := 20 } : Room) (va_Pc [.ref h_t, .int x1, .int x2] (fun (U : State) => U.heap.size = sz ∧ va_P (dC, dI) vwCl [(h_t, .inr (4, [.ref h_t_standing, .ref h_t_unlike, .ref h_t_blocks, .ref h_t_ends, .ref h_t_prices, .int t_rowSize, .int t_repeatPrice, .int t_correctionPrice, .int t_mostCorrections, .int t_number])), (h_t_blocks, .inl (cI, 60, .inl t_blocks)), (h_t_ends, .inl (cI, 60, .inl t_ends)), (h_t_prices, .inl (cI, 60, .inl t_prices)), (h_t_unlike, .inl (cI, 24, .inl t_unlike))] U.heap ∧ va_K (dC, dI) vwCl (tyA cI cJ cC cS) U ∧ nwN U ∧ va_D (fun _ => True) [(h_t, .inr (4, [.ref h_t_standing, .ref h_t_unlike, .ref h_t_blocks, .ref h_t_ends, .ref h_t_prices, .int t_rowSize, .int t_repeatPrice, .int t_correctionPrice, .int t_mostCorrections, .int t_number])), (h_t_blocks, .inl (cI, 60, .inl t_blocks)), (h_t_ends, .inl (cI, 60, .inl t_ends)), (h_t_prices, .inl (cI, 60, .inl t_prices)), (h_t_unlike, .inl (cI, 24, .inl t_unlike))])) (va_Qv (fun (_ : Unit) => True) (fun (_ : Unit) (t : State) => va_P (dC, dI) vwCl [(h_t, .inr (4, [.ref h_t_standing, .ref h_t_unlike, .ref h_t_blocks, .ref h_t_ends, .ref h_t_prices, .int t_rowSize, .int t_repeatPrice, .int t_correctionPrice, .int t_mostCorrections, .int y_t_number])), (h_t_blocks, .inl (cI, 60, .inl y_t_blocks)), (h_t_ends, .inl (cI, 60, .inl y_t_ends)), (h_t_prices, .inl (cI, 60, .inl y_t_prices)), (h_t_unlike, .inl (cI, 24, .inl t_unlike))] t.heap ∧ va_K (dC, dI) vwCl (tyA cI cJ cC cS) t ∧ va_D (va_A [(h_t, .inr (4, [.ref h_t_standing, .ref h_t_unlike, .ref h_t_blocks, .ref h_t_ends, .ref h_t_prices, .int t_rowSize, .int t_repeatPrice, .int t_correctionPrice, .int t_mostCorrections, .int t_number])), (h_t_blocks, .inl (cI, 60, .inl t_blocks)), (h_t_ends, .inl (cI, 60, .inl t_ends)), (h_t_prices, .inl (cI, 60, .inl t_prices)), (h_t_unlike, .inl (cI, 24, .inl t_unlike))] sz) [(h_t, .inr (4, [.ref h_t_standing, .ref h_t_unlike, .ref h_t_blocks, .ref h_t_ends, .ref h_t_prices, .int t_rowSize, .int t_repeatPrice, .int t_correctionPrice, .int t_mostCorrections, .int y_t_number])), (h_t_blocks, .inl (cI, 60, .inl y_t_blocks)), (h_t_ends, .inl (cI, 60, .inl y_t_ends)), (h_t_prices, .inl (cI, 60, .inl y_t_prices)), (h_t_unlike, .inl (cI, 24, .inl t_unlike))]) (va_A [(h_t, .inr (4, [.ref h_t_standing, .ref h_t_unlike, .ref h_t_blocks, .ref h_t_ends, .ref h_t_prices, .int t_rowSize, .int t_repeatPrice, .int t_correctionPrice, .int t_mostCorrections, .int t_number])), (h_t_blocks, .inl (cI, 60, .inl t_blocks)), (h_t_ends, .inl (cI, 60, .inl t_ends)), (h_t_prices, .inl (cI, 60, .inl t_prices)), (h_t_unlike, .inl (cI, 24, .inl t_unlike))] sz)) 0 0 (va_A [(h_t, .inr (4, [.ref h_t_standing, .ref h_t_unlike, .ref h_t_blocks, .ref h_t_ends, .ref h_t_prices, .int t_rowSize, .int t_repeatPrice, .int t_correctionPrice, .int t_mostCorrections, .int t_number])), (h_t_blocks, .inl (cI, 60, .inl t_blocks)), (h_t_ends, .inl (cI, 60, .inl t_ends)), (h_t_prices, .inl (cI, 60, .inl t_prices)), (h_t_unlike, .inl (cI, 24, .inl t_unlike))] sz) := by
  refine Met.ofW (cc := cX5_findOf) (maxL := 7) (ret := none) (by decide) rfl ?_
  intro p e s m args below meth c s₁ B hml hv
  obtain ⟨hargs, hsz, hP, hK, hN, hD0⟩ := hv
  have hx := B.exec
  have hb := B.bytes
  have hr := B.returns
  have hts := atoms_spec (ws := wsX5_findOf) B.pre
  have hown : s.vm.findClass RX5 = some m.cls := findClass_of_methodNamed B.named
  have hlocks := B.notSynchronized
  subst hsz
  have hD := hD0.self (sz := s.heap.size)
  generalize hAe : va_A [(h_t, .inr (4, [.ref h_t_standing, .ref h_t_unlike, .ref h_t_blocks, .ref h_t_ends, .ref h_t_prices, .int t_rowSize, .int t_repeatPrice, .int t_correctionPrice, .int t_mostCorrections, .int t_number])), (h_t_blocks, .inl (cI, 60, .inl t_blocks)), (h_t_ends, .inl (cI, 60, .inl t_ends)), (h_t_prices, .inl (cI, 60, .inl t_prices)), (h_t_unlike, .inl (cI, 24, .inl t_unlike))] s.heap.size = A at hD ⊢
  have hA : ∀ q : Nat, s.heap.size ≤ q → A q := fun q h => by rw [← hAe]; exact Or.inr h
  have hS : va_S A s.heap s.heap [] := va_S.rf
  have hP : va_P (dC, dI) vwCl [(h_t, .inr (4, [.ref h_t_standing, .ref h_t_unlike, .ref h_t_blocks, .ref h_t_ends, .ref h_t_prices, .int t_rowSize, .int t_repeatPrice, .int t_correctionPrice, .int t_mostCorrections, .int t_number])), (h_t_blocks, .inl (cI, 60, .inl t_blocks)), (h_t_ends, .inl (cI, 60, .inl t_ends)), (h_t_prices, .inl (cI, 60, .inl t_prices)), (h_t_unlike, .inl (cI, 24, .inl t_unlike))] s.heap := hP
  have hl := lv_entry [.ref h_t, .int x1, .int x2] (n := 7) (Nat.le_of_ble_eq_true rfl)
  rw [show entryFrame m args 7 = entryFrame m ([.ref h_t, .int x1, .int x2] : List Value).toArray 7 from by rw [hargs], lg_entry_eq]
  generalize (lg_sl [.ref h_t, .int x1, .int x2] ++ List.replicate (7 - (lg_sl [.ref h_t, .int x1, .int x2]).length) Slot.unset).toArray = ls at hl ⊢
  have hl : lv_has ls 7 [(0, .ref h_t), (1, .int x1), (2, .int x2)] := hl
  generalize hQQ : MQ below (va_Qv (fun (_ : Unit) => True) (fun (_ : Unit) (t : State) => va_P (dC, dI) vwCl [(h_t, .inr (4, [.ref h_t_standing, .ref h_t_unlike, .ref h_t_blocks, .ref h_t_ends, .ref h_t_prices, .int t_rowSize, .int t_repeatPrice, .int t_correctionPrice, .int t_mostCorrections, .int y_t_number])), (h_t_blocks, .inl (cI, 60, .inl y_t_blocks)), (h_t_ends, .inl (cI, 60, .inl y_t_ends)), (h_t_prices, .inl (cI, 60, .inl y_t_prices)), (h_t_unlike, .inl (cI, 24, .inl t_unlike))] t.heap ∧ va_K (dC, dI) vwCl (tyA cI cJ cC cS) t ∧ va_D A [(h_t, .inr (4, [.ref h_t_standing, .ref h_t_unlike, .ref h_t_blocks, .ref h_t_ends, .ref h_t_prices, .int t_rowSize, .int t_repeatPrice, .int t_correctionPrice, .int t_mostCorrections, .int y_t_number])), (h_t_blocks, .inl (cI, 60, .inl y_t_blocks)), (h_t_ends, .inl (cI, 60, .inl y_t_ends)), (h_t_prices, .inl (cI, 60, .inl y_t_prices)), (h_t_unlike, .inl (cI, 24, .inl t_unlike))]) A) args s 0 0 A = QQ
  obtain ⟨H, hH⟩ : ∃ H : Heap, H = s.heap := ⟨_, rfl⟩
  obtain ⟨locs, hlocs⟩ : ∃ locs : List Loc, locs = [] := ⟨_, rfl⟩
  rw [← hH] at hP
  have hS : va_S A s.heap H locs := by rw [hH, hlocs]; exact hS
  suffices hZ : W p l e (headSpec wsX5_findOf ({ frames := 1, cells := 0, slots := 0, locals := 20 } : Room)).room s m args below meth c H locs 0 0 QQ (F0 m 0 ls []) by rw [hH, hlocs] at hZ; exact hZ
  clear hH hlocs
  have hL14 : ∀ (n14 : Nat) , ∀ (x3 : Int32) (x4 : Int32) (x5 : Int32) (t_number : Int32) (t_blocks : Nat → Int32) (t_ends : Nat → Int32) (t_prices : Nat → Int32) (H : Heap) (locs : List Loc) (ls : Array Slot), fRp_findOf_14 t_rowSize t_repeatPrice t_correctionPrice t_mostCorrections t_unlike x1 x2 n14 x3 x4 x5 t_number t_blocks t_ends t_prices = some (y_t_number, y_t_blocks, y_t_ends, y_t_prices) → va_P (dC, dI) vwCl [(h_t, .inr (4, [.ref h_t_standing, .ref h_t_unlike, .ref h_t_blocks, .ref h_t_ends, .ref h_t_prices, .int t_rowSize, .int t_repeatPrice, .int t_correctionPrice, .int t_mostCorrections, .int t_number])), (h_t_blocks, .inl (cI, 60, .inl t_blocks)), (h_t_ends, .inl (cI, 60, .inl t_ends)), (h_t_prices, .inl (cI, 60, .inl t_prices)), (h_t_unlike, .inl (cI, 24, .inl t_unlike))] H → va_D A [(h_t, .inr (4, [.ref h_t_standing, .ref h_t_unlike, .ref h_t_blocks, .ref h_t_ends, .ref h_t_prices, .int t_rowSize, .int t_repeatPrice, .int t_correctionPrice, .int t_mostCorrections, .int t_number])), (h_t_blocks, .inl (cI, 60, .inl t_blocks)), (h_t_ends, .inl (cI, 60, .inl t_ends)), (h_t_prices, .inl (cI, 60, .inl t_prices)), (h_t_unlike, .inl (cI, 24, .inl t_unlike))] → va_S A s.heap H locs → lv_has ls 7 [(0, .ref h_t), (1, .int x1), (2, .int x2), (3, .int x3), (4, .int x4), (5, .int x5)] → W p l e (headSpec wsX5_findOf ({ frames := 1, cells := 0, slots := 0, locals := 20 } : Room)).room s m args below meth c H locs 0 0 QQ (F0 m 14 ls []) := by
    intro n14
    induction n14 with
    | zero =>
      intro x3 x4 x5 t_number t_blocks t_ends t_prices H locs ls hres
      rw [fRp_findOf_14] at hres
      cases hres
    | succ n14 ih14 =>
      intro x3 x4 x5 t_number t_blocks t_ends t_prices H locs ls hres hP hD hS hl
      rw [fRp_findOf_14] at hres
      refine lv_iload hx hb dX5_findOf_14 (lv_at hl 5 rfl) ?_
      refine lv_bipush (v := (24 : Int32)) hx hb dX5_findOf_16 (by decide) ?_
      refine lv_icmp_gt (tgt := 161) hx hb dX5_findOf_18 (by decide) (fun c_1 => ?_) (fun c_1 => ?_)
      · have hres := it_of hres c_1
        obtain ⟨e9_0, e9_1, e9_2, e9_3⟩ := tup4 hres
        subst e9_0
        subst e9_1
        subst e9_2
        subst e9_3
        rw [← hQQ]
        exact W.vret hx hb hr (fun t ht hW => ⟨⟨(), rfl, trivial, by rw [ht]; exact hP, va_K.moved hW.alike hK, hD⟩, hS.F ht⟩) hS.2.2 dX5_findOf_161
      · have hres := ie_of hres c_1
        refine lv_iload_n hx hb dX5_findOf_21 rfl (lv_at hl 1 rfl) ?_
        refine lv_iload hx hb dX5_findOf_22 (lv_at hl 5 rfl) ?_
        refine lv_iload_n hx hb dX5_findOf_24 rfl (lv_at hl 2 rfl) ?_
        refine lv_imul hx hb dX5_findOf_25 ?_
        refine lv_iadd hx hb dX5_findOf_26 ?_
        refine lv_aload_n hx hb dX5_findOf_27 rfl (lv_at hl 0 rfl) ?_
        refine va_get (D := (dC, dI)) (ci := 4) (v := .int t_rowSize) (C := RX5) (T := TX5) (N := 10) hx hb hts iRp_findOf_X5_findOf_1 hown hK hP 0 rfl rfl 5 (by decide) (hts _ kRp_findOf_X5_findOf_0) (fun _ h9 => h9) rfl dX5_findOf_28 ?_
        refine lv_icmp_gt (tgt := 161) hx hb dX5_findOf_31 (by decide) (fun c_2 => ?_) (fun c_2 => ?_)
        · have hres := it_of hres c_2
          obtain ⟨e9_0, e9_1, e9_2, e9_3⟩ := tup4 hres
          subst e9_0
          subst e9_1
          subst e9_2
          subst e9_3
          rw [← hQQ]
          exact W.vret hx hb hr (fun t ht hW => ⟨⟨(), rfl, trivial, by rw [ht]; exact hP, va_K.moved hW.alike hK, hD⟩, hS.F ht⟩) hS.2.2 dX5_findOf_161
        · have hres := ie_of hres c_2
          refine lv_iload hx hb dX5_findOf_34 (lv_at hl 5 rfl) ?_
          refine lv_iconst (v := (1 : Int32)) hx hb dX5_findOf_36 (by decide) ?_
          refine lv_isub hx hb dX5_findOf_37 ?_
          refine lv_iload_n hx hb dX5_findOf_38 rfl (lv_at hl 2 rfl) ?_
          refine lv_imul hx hb dX5_findOf_39 ?_
          refine lv_istore (lv' := [(6, .int ((x5 - (1 : Int32)) * x2)), (0, .ref h_t), (1, .int x1), (2, .int x2), (3, .int x3), (4, .int x4), (5, .int x5)]) hx hb dX5_findOf_40 hl (by decide) rfl (fun ls hl => ?_)
          refine lv_iload hx hb dX5_findOf_42 (lv_at hl 0 rfl) ?_
          refine lv_iconst (v := (1 : Int32)) hx hb dX5_findOf_44 (by decide) ?_
          refine lv_icmp_lt (tgt := 71) hx hb dX5_findOf_45 (by decide) (fun c_3 => ?_) (fun c_3 => ?_)
          · have hres := it_of hres c_3
            obtain ⟨e9_0, e9_1, e9_2, e9_3⟩ := tup4 hres
            subst e9_0
            subst e9_1
            subst e9_2
            subst e9_3
            rw [← hQQ]
            exact W.vret hx hb hr (fun t ht hW => ⟨⟨(), rfl, trivial, by rw [ht]; exact hP, va_K.moved hW.alike hK, hD⟩, hS.F ht⟩) hS.2.2 dX5_findOf_71
          · have hres := ie_of hres c_3
            refine lv_iload hx hb dX5_findOf_48 (lv_at hl 0 rfl) ?_
            refine lv_bipush (v := (24 : Int32)) hx hb dX5_findOf_50 (by decide) ?_
            refine lv_icmp_ge (tgt := 71) hx hb dX5_findOf_52 (by decide) (fun c_4 => ?_) (fun c_4 => ?_)
            · have hres := it_of hres c_4
              obtain ⟨e9_0, e9_1, e9_2, e9_3⟩ := tup4 hres
              subst e9_0
              subst e9_1
              subst e9_2
              subst e9_3
              rw [← hQQ]
              exact W.vret hx hb hr (fun t ht hW => ⟨⟨(), rfl, trivial, by rw [ht]; exact hP, va_K.moved hW.alike hK, hD⟩, hS.F ht⟩) hS.2.2 dX5_findOf_71
            · have hres := ie_of hres c_4
              refine lv_aload_n hx hb dX5_findOf_55 rfl (lv_at hl 1 rfl) ?_
              refine va_get (D := (dC, dI)) (ci := 4) (v := .int t_number) (C := RX5) (T := TX5) (N := 10) hx hb hts iRp_findOf_X5_findOf_1 hown hK hP 0 rfl rfl 9 (by decide) (hts _ kRp_findOf_X5_findOf_2) (fun _ h9 => h9) rfl dX5_findOf_56 ?_
              refine lv_if_lt (tgt := 71) hx hb dX5_findOf_59 (by decide) (fun c_5 => ?_) (fun c_5 => ?_)
              · have hres := it_of hres c_5
                obtain ⟨e9_0, e9_1, e9_2, e9_3⟩ := tup4 hres
                subst e9_0
                subst e9_1
                subst e9_2
                subst e9_3
                rw [← hQQ]
                exact W.vret hx hb hr (fun t ht hW => ⟨⟨(), rfl, trivial, by rw [ht]; exact hP, va_K.moved hW.alike hK, hD⟩, hS.F ht⟩) hS.2.2 dX5_findOf_71
              · have hres := ie_of hres c_5
                refine lv_aload_n hx hb dX5_findOf_62 rfl (lv_at hl 1 rfl) ?_
                refine va_get (D := (dC, dI)) (ci := 4) (v := .int t_number) (C := RX5) (T := TX5) (N := 10) hx hb hts iRp_findOf_X5_findOf_1 hown hK hP 0 rfl rfl 9 (by decide) (hts _ kRp_findOf_X5_findOf_2) (fun _ h9 => h9) rfl dX5_findOf_63 ?_
                refine lv_bipush (v := (60 : Int32)) hx hb dX5_findOf_66 (by decide) ?_
                refine lv_icmp_lt (tgt := 72) hx hb dX5_findOf_68 (by decide) (fun c_6 => ?_) (fun c_6 => ?_)
                · have hres := it_of hres c_6
                  refine lv_iload hx hb dX5_findOf_72 (lv_at hl 5 rfl) ?_
                  refine lv_aload_n hx hb dX5_findOf_74 rfl (lv_at hl 1 rfl) ?_
                  refine va_get (D := (dC, dI)) (ci := 4) (v := .ref h_t_unlike) (C := RX5) (T := TX5) (N := 10) hx hb hts iRp_findOf_X5_findOf_1 hown hK hP 0 rfl rfl 1 (by decide) (hts _ kRp_findOf_X5_findOf_3) (fun _ h9 => h9) rfl dX5_findOf_75 ?_
                  refine lv_iload hx hb dX5_findOf_78 (lv_at hl 0 rfl) ?_
                  obtain ⟨c_7, hres⟩ := ck_of hres
                  refine va_iald hx hb hK hP 4 0 rfl rfl c_7 dX5_findOf_80 ?_
                  refine lv_iload_n hx hb dX5_findOf_81 rfl (lv_at hl 4 rfl) ?_
                  refine lv_iand hx hb dX5_findOf_82 ?_
                  obtain ⟨o8, ho8, hres⟩ := bd_of hres
                  have hPc := hP.sub (ws' := []) [] rfl
                  have hDc := hD.sub (ws' := []) [] (by decide) rfl
                  have hFc := va_free (wc := []) hD hS hA [] rfl
                  refine va_calli (va_runS (As := [.int ((rd t_unlike ((x5 - (1 : Int32)) * x2)) &&& x3)]) (rest := [.int x4]) ⟨hx, hb, hml, hown, hts⟩ (cJI_bitCount l dC dI cI cJ cC cS H.size ((rd t_unlike ((x5 - (1 : Int32)) * x2)) &&& x3) o8 ho8) (va_cwS 1 hts gX5_findOf_J6_bitCount_0f7a4 rfl rfl rfl (by decide +kernel) ⟨Nat.le_of_ble_eq_true rfl, Nat.le_of_ble_eq_true rfl⟩) ⟨fun a U g mk q => by obtain ⟨q0, q1, qP, qK, qN, qD⟩ := q; exact ⟨q0, q1, qP, va_K.moved (u := U) (U := U.calling g mk a) (Vm.Alike.refl U.vm) qK, nwS (u := U) (U := U.calling g mk a) rfl qN, qD⟩, fun U hU hW => ⟨rfl, by rw [hU], by rw [hU]; exact hPc, va_K.moved hW.alike hK, nwW hW hN, hDc.weaken (fun _ _ _ _ => trivial)⟩⟩ rfl rfl hl.1 rfl (lv_room (Nat.le_of_ble_eq_true rfl)) dX5_findOf_83 ⟨Nat.zero_le _, Nat.zero_le _⟩) hS (fun q _ h => hFc q h) hFc (fun r9 u9 t H1 locs ht hvm hw hB hz1 hk1 hS => ?_)
                  have hw := hw.symm
                  subst hw
                  obtain ⟨hP1, hK1, hD1⟩ := hB
                  rw [ht] at hP1
                  obtain ⟨hP, hD⟩ := va_join (wr := [(h_t, .inr (4, [.ref h_t_standing, .ref h_t_unlike, .ref h_t_blocks, .ref h_t_ends, .ref h_t_prices, .int t_rowSize, .int t_repeatPrice, .int t_correctionPrice, .int t_mostCorrections, .int t_number])), (h_t_blocks, .inl (cI, 60, .inl t_blocks)), (h_t_ends, .inl (cI, 60, .inl t_ends)), (h_t_prices, .inl (cI, 60, .inl t_prices)), (h_t_unlike, .inl (cI, 24, .inl t_unlike))]) (w1 := []) hP hD [] [0, 1, 2, 3, 4] rfl rfl (by decide) (by decide) hk1 hFc hP1 hD1
                  generalize H1 = H at hP hS ⊢
                  have hP : va_P (dC, dI) vwCl [(h_t, .inr (4, [.ref h_t_standing, .ref h_t_unlike, .ref h_t_blocks, .ref h_t_ends, .ref h_t_prices, .int t_rowSize, .int t_repeatPrice, .int t_correctionPrice, .int t_mostCorrections, .int t_number])), (h_t_blocks, .inl (cI, 60, .inl t_blocks)), (h_t_ends, .inl (cI, 60, .inl t_ends)), (h_t_prices, .inl (cI, 60, .inl t_prices)), (h_t_unlike, .inl (cI, 24, .inl t_unlike))] H := hP
                  have hD : va_D A [(h_t, .inr (4, [.ref h_t_standing, .ref h_t_unlike, .ref h_t_blocks, .ref h_t_ends, .ref h_t_prices, .int t_rowSize, .int t_repeatPrice, .int t_correctionPrice, .int t_mostCorrections, .int t_number])), (h_t_blocks, .inl (cI, 60, .inl t_blocks)), (h_t_ends, .inl (cI, 60, .inl t_ends)), (h_t_prices, .inl (cI, 60, .inl t_prices)), (h_t_unlike, .inl (cI, 24, .inl t_unlike))] := hD
                  refine lv_iadd hx hb dX5_findOf_86 ?_
                  refine lv_istore (lv' := [(4, .int (x4 + o8)), (6, .int ((x5 - (1 : Int32)) * x2)), (0, .ref h_t), (1, .int x1), (2, .int x2), (3, .int x3), (5, .int x5)]) hx hb dX5_findOf_87 hl (by decide) rfl (fun ls hl => ?_)
                  refine lv_iload hx hb dX5_findOf_89 (lv_at hl 0 rfl) ?_
                  refine lv_aload_n hx hb dX5_findOf_91 rfl (lv_at hl 2 rfl) ?_
                  refine va_get (D := (dC, dI)) (ci := 4) (v := .int t_mostCorrections) (C := RX5) (T := TX5) (N := 10) hx hb hts iRp_findOf_X5_findOf_1 hown hK hP 0 rfl rfl 8 (by decide) (hts _ kRp_findOf_X5_findOf_4) (fun _ h9 => h9) rfl dX5_findOf_92 ?_
                  refine lv_icmp_le (tgt := 99) hx hb dX5_findOf_95 (by decide) (fun c_9 => ?_) (fun c_9 => ?_)
                  · have hres := it_of hres c_9
                    refine lv_aload_n hx hb dX5_findOf_99 rfl (lv_at hl 2 rfl) ?_
                    refine va_get (D := (dC, dI)) (ci := 4) (v := .ref h_t_blocks) (C := RX5) (T := TX5) (N := 10) hx hb hts iRp_findOf_X5_findOf_1 hown hK hP 0 rfl rfl 2 (by decide) (hts _ kRp_findOf_X5_findOf_5) (fun _ h9 => h9) rfl dX5_findOf_100 ?_
                    refine lv_aload_n hx hb dX5_findOf_103 rfl (lv_at hl 2 rfl) ?_
                    refine va_get (D := (dC, dI)) (ci := 4) (v := .int t_number) (C := RX5) (T := TX5) (N := 10) hx hb hts iRp_findOf_X5_findOf_1 hown hK hP 0 rfl rfl 9 (by decide) (hts _ kRp_findOf_X5_findOf_2) (fun _ h9 => h9) rfl dX5_findOf_104 ?_
                    refine lv_iload_n hx hb dX5_findOf_107 rfl (lv_at hl 4 rfl) ?_
                    obtain ⟨c_10, hres⟩ := ck_of hres
                    refine va_iast hx hb hK hP hD hS 1 0 rfl rfl c_10 dX5_findOf_108 (fun H locs hP hD hS => ?_)
                    have hP : va_P (dC, dI) vwCl [(h_t, .inr (4, [.ref h_t_standing, .ref h_t_unlike, .ref h_t_blocks, .ref h_t_ends, .ref h_t_prices, .int t_rowSize, .int t_repeatPrice, .int t_correctionPrice, .int t_mostCorrections, .int t_number])), (h_t_blocks, .inl (cI, 60, .inl (wr t_blocks t_number x2))), (h_t_ends, .inl (cI, 60, .inl t_ends)), (h_t_prices, .inl (cI, 60, .inl t_prices)), (h_t_unlike, .inl (cI, 24, .inl t_unlike))] H := hP
                    have hD : va_D A [(h_t, .inr (4, [.ref h_t_standing, .ref h_t_unlike, .ref h_t_blocks, .ref h_t_ends, .ref h_t_prices, .int t_rowSize, .int t_repeatPrice, .int t_correctionPrice, .int t_mostCorrections, .int t_number])), (h_t_blocks, .inl (cI, 60, .inl (wr t_blocks t_number x2))), (h_t_ends, .inl (cI, 60, .inl t_ends)), (h_t_prices, .inl (cI, 60, .inl t_prices)), (h_t_unlike, .inl (cI, 24, .inl t_unlike))] := hD
                    refine lv_aload_n hx hb dX5_findOf_109 rfl (lv_at hl 2 rfl) ?_
                    refine va_get (D := (dC, dI)) (ci := 4) (v := .ref h_t_ends) (C := RX5) (T := TX5) (N := 10) hx hb hts iRp_findOf_X5_findOf_1 hown hK hP 0 rfl rfl 3 (by decide) (hts _ kRp_findOf_X5_findOf_6) (fun _ h9 => h9) rfl dX5_findOf_110 ?_
                    refine lv_aload_n hx hb dX5_findOf_113 rfl (lv_at hl 2 rfl) ?_
                    refine va_get (D := (dC, dI)) (ci := 4) (v := .int t_number) (C := RX5) (T := TX5) (N := 10) hx hb hts iRp_findOf_X5_findOf_1 hown hK hP 0 rfl rfl 9 (by decide) (hts _ kRp_findOf_X5_findOf_2) (fun _ h9 => h9) rfl dX5_findOf_114 ?_
                    refine lv_iload_n hx hb dX5_findOf_117 rfl (lv_at hl 3 rfl) ?_
                    refine lv_iload hx hb dX5_findOf_118 (lv_at hl 6 rfl) ?_
                    refine lv_iload_n hx hb dX5_findOf_120 rfl (lv_at hl 4 rfl) ?_
                    refine lv_imul hx hb dX5_findOf_121 ?_
                    refine lv_iadd hx hb dX5_findOf_122 ?_
                    obtain ⟨c_11, hres⟩ := ck_of hres
                    refine va_iast hx hb hK hP hD hS 2 0 rfl rfl c_11 dX5_findOf_123 (fun H locs hP hD hS => ?_)
                    have hP : va_P (dC, dI) vwCl [(h_t, .inr (4, [.ref h_t_standing, .ref h_t_unlike, .ref h_t_blocks, .ref h_t_ends, .ref h_t_prices, .int t_rowSize, .int t_repeatPrice, .int t_correctionPrice, .int t_mostCorrections, .int t_number])), (h_t_blocks, .inl (cI, 60, .inl (wr t_blocks t_number x2))), (h_t_ends, .inl (cI, 60, .inl (wr t_ends t_number (x1 + (x5 * x2))))), (h_t_prices, .inl (cI, 60, .inl t_prices)), (h_t_unlike, .inl (cI, 24, .inl t_unlike))] H := hP
                    have hD : va_D A [(h_t, .inr (4, [.ref h_t_standing, .ref h_t_unlike, .ref h_t_blocks, .ref h_t_ends, .ref h_t_prices, .int t_rowSize, .int t_repeatPrice, .int t_correctionPrice, .int t_mostCorrections, .int t_number])), (h_t_blocks, .inl (cI, 60, .inl (wr t_blocks t_number x2))), (h_t_ends, .inl (cI, 60, .inl (wr t_ends t_number (x1 + (x5 * x2))))), (h_t_prices, .inl (cI, 60, .inl t_prices)), (h_t_unlike, .inl (cI, 24, .inl t_unlike))] := hD
                    refine lv_aload_n hx hb dX5_findOf_124 rfl (lv_at hl 2 rfl) ?_
                    refine va_get (D := (dC, dI)) (ci := 4) (v := .ref h_t_prices) (C := RX5) (T := TX5) (N := 10) hx hb hts iRp_findOf_X5_findOf_1 hown hK hP 0 rfl rfl 4 (by decide) (hts _ kRp_findOf_X5_findOf_7) (fun _ h9 => h9) rfl dX5_findOf_125 ?_
                    refine lv_aload_n hx hb dX5_findOf_128 rfl (lv_at hl 2 rfl) ?_
                    refine va_get (D := (dC, dI)) (ci := 4) (v := .int t_number) (C := RX5) (T := TX5) (N := 10) hx hb hts iRp_findOf_X5_findOf_1 hown hK hP 0 rfl rfl 9 (by decide) (hts _ kRp_findOf_X5_findOf_2) (fun _ h9 => h9) rfl dX5_findOf_129 ?_
                    refine lv_aload_n hx hb dX5_findOf_132 rfl (lv_at hl 2 rfl) ?_
                    refine va_get (D := (dC, dI)) (ci := 4) (v := .int t_repeatPrice) (C := RX5) (T := TX5) (N := 10) hx hb hts iRp_findOf_X5_findOf_1 hown hK hP 0 rfl rfl 6 (by decide) (hts _ kRp_findOf_X5_findOf_8) (fun _ h9 => h9) rfl dX5_findOf_133 ?_
                    refine lv_iload hx hb dX5_findOf_136 (lv_at hl 0 rfl) ?_
                    refine lv_aload_n hx hb dX5_findOf_138 rfl (lv_at hl 2 rfl) ?_
                    refine va_get (D := (dC, dI)) (ci := 4) (v := .int t_correctionPrice) (C := RX5) (T := TX5) (N := 10) hx hb hts iRp_findOf_X5_findOf_1 hown hK hP 0 rfl rfl 7 (by decide) (hts _ kRp_findOf_X5_findOf_9) (fun _ h9 => h9) rfl dX5_findOf_139 ?_
                    refine lv_imul hx hb dX5_findOf_142 ?_
                    refine lv_iadd hx hb dX5_findOf_143 ?_
                    obtain ⟨c_12, hres⟩ := ck_of hres
                    refine va_iast hx hb hK hP hD hS 3 0 rfl rfl c_12 dX5_findOf_144 (fun H locs hP hD hS => ?_)
                    have hP : va_P (dC, dI) vwCl [(h_t, .inr (4, [.ref h_t_standing, .ref h_t_unlike, .ref h_t_blocks, .ref h_t_ends, .ref h_t_prices, .int t_rowSize, .int t_repeatPrice, .int t_correctionPrice, .int t_mostCorrections, .int t_number])), (h_t_blocks, .inl (cI, 60, .inl (wr t_blocks t_number x2))), (h_t_ends, .inl (cI, 60, .inl (wr t_ends t_number (x1 + (x5 * x2))))), (h_t_prices, .inl (cI, 60, .inl (wr t_prices t_number (t_repeatPrice + ((x4 + o8) * t_correctionPrice))))), (h_t_unlike, .inl (cI, 24, .inl t_unlike))] H := hP
                    have hD : va_D A [(h_t, .inr (4, [.ref h_t_standing, .ref h_t_unlike, .ref h_t_blocks, .ref h_t_ends, .ref h_t_prices, .int t_rowSize, .int t_repeatPrice, .int t_correctionPrice, .int t_mostCorrections, .int t_number])), (h_t_blocks, .inl (cI, 60, .inl (wr t_blocks t_number x2))), (h_t_ends, .inl (cI, 60, .inl (wr t_ends t_number (x1 + (x5 * x2))))), (h_t_prices, .inl (cI, 60, .inl (wr t_prices t_number (t_repeatPrice + ((x4 + o8) * t_correctionPrice))))), (h_t_unlike, .inl (cI, 24, .inl t_unlike))] := hD
                    refine lv_aload_n hx hb dX5_findOf_145 rfl (lv_at hl 2 rfl) ?_
                    refine lv_dup hx hb dX5_findOf_146 rfl ?_
                    refine va_get (D := (dC, dI)) (ci := 4) (v := .int t_number) (C := RX5) (T := TX5) (N := 10) hx hb hts iRp_findOf_X5_findOf_1 hown hK hP 0 rfl rfl 9 (by decide) (hts _ kRp_findOf_X5_findOf_2) (fun _ h9 => h9) rfl dX5_findOf_147 ?_
                    refine lv_iconst (v := (1 : Int32)) hx hb dX5_findOf_150 (by decide) ?_
                    refine lv_iadd hx hb dX5_findOf_151 ?_
                    refine va_put (D := (dC, dI)) (ci := 4) (v := .int (t_number + (1 : Int32))) (ty := .int) (C := RX5) (T := TX5) (N := 10) hx hb hts iRp_findOf_X5_findOf_1 tyX5 tyX5_ok nmX5 hown hK hP hD hS 0 rfl rfl 9 (by decide) (hts _ kRp_findOf_X5_findOf_2) (fun _ h9 => h9) rfl (by decide +kernel) rfl rfl (Nat.le_of_ble_eq_true rfl) dX5_findOf_152 (fun H locs hP hD hS => ?_)
                    have hP : va_P (dC, dI) vwCl [(h_t, .inr (4, [.ref h_t_standing, .ref h_t_unlike, .ref h_t_blocks, .ref h_t_ends, .ref h_t_prices, .int t_rowSize, .int t_repeatPrice, .int t_correctionPrice, .int t_mostCorrections, .int (t_number + (1 : Int32))])), (h_t_blocks, .inl (cI, 60, .inl (wr t_blocks t_number x2))), (h_t_ends, .inl (cI, 60, .inl (wr t_ends t_number (x1 + (x5 * x2))))), (h_t_prices, .inl (cI, 60, .inl (wr t_prices t_number (t_repeatPrice + ((x4 + o8) * t_correctionPrice))))), (h_t_unlike, .inl (cI, 24, .inl t_unlike))] H := hP
                    have hD : va_D A [(h_t, .inr (4, [.ref h_t_standing, .ref h_t_unlike, .ref h_t_blocks, .ref h_t_ends, .ref h_t_prices, .int t_rowSize, .int t_repeatPrice, .int t_correctionPrice, .int t_mostCorrections, .int (t_number + (1 : Int32))])), (h_t_blocks, .inl (cI, 60, .inl (wr t_blocks t_number x2))), (h_t_ends, .inl (cI, 60, .inl (wr t_ends t_number (x1 + (x5 * x2))))), (h_t_prices, .inl (cI, 60, .inl (wr t_prices t_number (t_repeatPrice + ((x4 + o8) * t_correctionPrice))))), (h_t_unlike, .inl (cI, 24, .inl t_unlike))] := hD
                    refine lv_iinc (v := (x5 + 1)) (lv' := [(5, .int (x5 + 1)), (4, .int (x4 + o8)), (6, .int ((x5 - (1 : Int32)) * x2)), (0, .ref h_t), (1, .int x1), (2, .int x2), (3, .int x3)]) hx hb dX5_findOf_155 hl (k := 6) rfl rfl (by decide) rfl (fun ls hl => ?_)
                    refine lv_goto (tgt := 14) hx hb dX5_findOf_158 (by decide) ?_
                    exact ih14 x3 (x4 + o8) (x5 + 1) (t_number + (1 : Int32)) (wr t_blocks t_number x2) (wr t_ends t_number (x1 + (x5 * x2))) (wr t_prices t_number (t_repeatPrice + ((x4 + o8) * t_correctionPrice))) H locs ls hres hP hD hS (lv_sub hl [3, 4, 5, 6, 1, 0] rfl)
                  · have hres := ie_of hres c_9
                    obtain ⟨e9_0, e9_1, e9_2, e9_3⟩ := tup4 hres
                    subst e9_0
                    subst e9_1
                    subst e9_2
                    subst e9_3
                    rw [← hQQ]
                    exact W.vret hx hb hr (fun t ht hW => ⟨⟨(), rfl, trivial, by rw [ht]; exact hP, va_K.moved hW.alike hK, hD⟩, hS.F ht⟩) hS.2.2 dX5_findOf_98
                · have hres := ie_of hres c_6
                  obtain ⟨e9_0, e9_1, e9_2, e9_3⟩ := tup4 hres
                  subst e9_0
                  subst e9_1
                  subst e9_2
                  subst e9_3
                  rw [← hQQ]
                  exact W.vret hx hb hr (fun t ht hW => ⟨⟨(), rfl, trivial, by rw [ht]; exact hP, va_K.moved hW.alike hK, hD⟩, hS.F ht⟩) hS.2.2 dX5_findOf_71
  rw [fRp_findOf] at hres
  refine lv_iconst (v := (1 : Int32)) hx hb dX5_findOf_0 (by decide) ?_
  refine lv_iload_n hx hb dX5_findOf_1 rfl (lv_at hl 2 rfl) ?_
  refine lv_ishl hx hb dX5_findOf_2 ?_
  refine lv_iconst (v := (1 : Int32)) hx hb dX5_findOf_3 (by decide) ?_
  refine lv_isub hx hb dX5_findOf_4 ?_
  refine lv_iload_n hx hb dX5_findOf_5 rfl (lv_at hl 1 rfl) ?_
  refine lv_ishl hx hb dX5_findOf_6 ?_
  refine lv_istore_n (lv' := [(3, .int ((((1 : Int32) <<< (x2 &&& 31)) - (1 : Int32)) <<< (x1 &&& 31))), (0, .ref h_t), (1, .int x1), (2, .int x2)]) hx hb dX5_findOf_7 rfl hl (by decide) rfl (fun ls hl => ?_)
  refine lv_iconst (v := (0 : Int32)) hx hb dX5_findOf_8 (by decide) ?_
  refine lv_istore (lv' := [(4, .int (0 : Int32)), (3, .int ((((1 : Int32) <<< (x2 &&& 31)) - (1 : Int32)) <<< (x1 &&& 31))), (0, .ref h_t), (1, .int x1), (2, .int x2)]) hx hb dX5_findOf_9 hl (by decide) rfl (fun ls hl => ?_)
  refine lv_iconst (v := (2 : Int32)) hx hb dX5_findOf_11 (by decide) ?_
  refine lv_istore (lv' := [(5, .int (2 : Int32)), (4, .int (0 : Int32)), (3, .int ((((1 : Int32) <<< (x2 &&& 31)) - (1 : Int32)) <<< (x1 &&& 31))), (0, .ref h_t), (1, .int x1), (2, .int x2)]) hx hb dX5_findOf_12 hl (by decide) rfl (fun ls hl => ?_)
  exact hL14 FU ((((1 : Int32) <<< (x2 &&& 31)) - (1 : Int32)) <<< (x1 &&& 31)) (0 : Int32) (2 : Int32) t_number t_blocks t_ends t_prices H locs ls hres hP hD hS (lv_sub hl [3, 4, 5, 2, 1, 0] rfl)

-- Rp_find
theorem kRp_find_X5_find_0 : Cond.fieldLink RX5 27 "RepeatNests$Repeats" "rowSize" "I" ∈ wsX5_find := by decide +kernel
theorem iRp_find_X5_find_1 : ∀ w ∈ wsX50, w ∈ wsX5_find := by decide +kernel
theorem kRp_find_X5_find_2 : Cond.fieldLink RX5 40 "RepeatNests$Repeats" "number" "I" ∈ wsX5_find := by decide +kernel
set_option maxHeartbeats 4000000 in
set_option maxRecDepth 100000 in
theorem cRp_find (l : Launch) (dC : Nat → ClassId) (dI : Nat → Nat → Nat) (cI cJ cC cS : ClassId) (h_t h_t_standing h_t_unlike h_t_blocks h_t_ends h_t_prices : Nat) (sz : Nat) (t_rowSize : Int32) (t_repeatPrice : Int32) (t_correctionPrice : Int32) (t_mostCorrections : Int32) (t_number : Int32) (t_blocks : Nat → Int32) (t_ends : Nat → Int32) (t_prices : Nat → Int32) (t_unlike : Nat → Int32) (x1 : Int32) (y_t_number : Int32) (y_t_blocks : Nat → Int32) (y_t_ends : Nat → Int32) (y_t_prices : Nat → Int32) (hres : fRp_find t_rowSize t_repeatPrice t_correctionPrice t_mostCorrections t_unlike t_blocks t_ends t_prices x1 = some (y_t_number, y_t_blocks, y_t_ends, y_t_prices)) :
    Met l yX5_find wsX5_find ({ frames := 2, cells := 0, slots := 0, locals := 46 } : Room) (va_Pc [.ref h_t, .int x1] (fun (U : State) => U.heap.size = sz ∧ va_P (dC, dI) vwCl [(h_t, .inr (4, [.ref h_t_standing, .ref h_t_unlike, .ref h_t_blocks, .ref h_t_ends, .ref h_t_prices, .int t_rowSize, .int t_repeatPrice, .int t_correctionPrice, .int t_mostCorrections, .int t_number])), (h_t_blocks, .inl (cI, 60, .inl t_blocks)), (h_t_ends, .inl (cI, 60, .inl t_ends)), (h_t_prices, .inl (cI, 60, .inl t_prices)), (h_t_unlike, .inl (cI, 24, .inl t_unlike))] U.heap ∧ va_K (dC, dI) vwCl (tyA cI cJ cC cS) U ∧ nwN U ∧ va_D (fun _ => True) [(h_t, .inr (4, [.ref h_t_standing, .ref h_t_unlike, .ref h_t_blocks, .ref h_t_ends, .ref h_t_prices, .int t_rowSize, .int t_repeatPrice, .int t_correctionPrice, .int t_mostCorrections, .int t_number])), (h_t_blocks, .inl (cI, 60, .inl t_blocks)), (h_t_ends, .inl (cI, 60, .inl t_ends)), (h_t_prices, .inl (cI, 60, .inl t_prices)), (h_t_unlike, .inl (cI, 24, .inl t_unlike))])) (va_Qv (fun (_ : Unit) => True) (fun (_ : Unit) (t : State) => va_P (dC, dI) vwCl [(h_t, .inr (4, [.ref h_t_standing, .ref h_t_unlike, .ref h_t_blocks, .ref h_t_ends, .ref h_t_prices, .int t_rowSize, .int t_repeatPrice, .int t_correctionPrice, .int t_mostCorrections, .int y_t_number])), (h_t_blocks, .inl (cI, 60, .inl y_t_blocks)), (h_t_ends, .inl (cI, 60, .inl y_t_ends)), (h_t_prices, .inl (cI, 60, .inl y_t_prices)), (h_t_unlike, .inl (cI, 24, .inl t_unlike))] t.heap ∧ va_K (dC, dI) vwCl (tyA cI cJ cC cS) t ∧ va_D (va_A [(h_t, .inr (4, [.ref h_t_standing, .ref h_t_unlike, .ref h_t_blocks, .ref h_t_ends, .ref h_t_prices, .int t_rowSize, .int t_repeatPrice, .int t_correctionPrice, .int t_mostCorrections, .int t_number])), (h_t_blocks, .inl (cI, 60, .inl t_blocks)), (h_t_ends, .inl (cI, 60, .inl t_ends)), (h_t_prices, .inl (cI, 60, .inl t_prices)), (h_t_unlike, .inl (cI, 24, .inl t_unlike))] sz) [(h_t, .inr (4, [.ref h_t_standing, .ref h_t_unlike, .ref h_t_blocks, .ref h_t_ends, .ref h_t_prices, .int t_rowSize, .int t_repeatPrice, .int t_correctionPrice, .int t_mostCorrections, .int y_t_number])), (h_t_blocks, .inl (cI, 60, .inl y_t_blocks)), (h_t_ends, .inl (cI, 60, .inl y_t_ends)), (h_t_prices, .inl (cI, 60, .inl y_t_prices)), (h_t_unlike, .inl (cI, 24, .inl t_unlike))]) (va_A [(h_t, .inr (4, [.ref h_t_standing, .ref h_t_unlike, .ref h_t_blocks, .ref h_t_ends, .ref h_t_prices, .int t_rowSize, .int t_repeatPrice, .int t_correctionPrice, .int t_mostCorrections, .int t_number])), (h_t_blocks, .inl (cI, 60, .inl t_blocks)), (h_t_ends, .inl (cI, 60, .inl t_ends)), (h_t_prices, .inl (cI, 60, .inl t_prices)), (h_t_unlike, .inl (cI, 24, .inl t_unlike))] sz)) 0 0 (va_A [(h_t, .inr (4, [.ref h_t_standing, .ref h_t_unlike, .ref h_t_blocks, .ref h_t_ends, .ref h_t_prices, .int t_rowSize, .int t_repeatPrice, .int t_correctionPrice, .int t_mostCorrections, .int t_number])), (h_t_blocks, .inl (cI, 60, .inl t_blocks)), (h_t_ends, .inl (cI, 60, .inl t_ends)), (h_t_prices, .inl (cI, 60, .inl t_prices)), (h_t_unlike, .inl (cI, 24, .inl t_unlike))] sz) := by
  refine Met.ofW (cc := cX5_find) (maxL := 3) (ret := none) (by decide) rfl ?_
  intro p e s m args below meth c s₁ B hml hv
  obtain ⟨hargs, hsz, hP, hK, hN, hD0⟩ := hv
  have hx := B.exec
  have hb := B.bytes
  have hr := B.returns
  have hts := atoms_spec (ws := wsX5_find) B.pre
  have hown : s.vm.findClass RX5 = some m.cls := findClass_of_methodNamed B.named
  have hlocks := B.notSynchronized
  subst hsz
  have hD := hD0.self (sz := s.heap.size)
  generalize hAe : va_A [(h_t, .inr (4, [.ref h_t_standing, .ref h_t_unlike, .ref h_t_blocks, .ref h_t_ends, .ref h_t_prices, .int t_rowSize, .int t_repeatPrice, .int t_correctionPrice, .int t_mostCorrections, .int t_number])), (h_t_blocks, .inl (cI, 60, .inl t_blocks)), (h_t_ends, .inl (cI, 60, .inl t_ends)), (h_t_prices, .inl (cI, 60, .inl t_prices)), (h_t_unlike, .inl (cI, 24, .inl t_unlike))] s.heap.size = A at hD ⊢
  have hA : ∀ q : Nat, s.heap.size ≤ q → A q := fun q h => by rw [← hAe]; exact Or.inr h
  have hS : va_S A s.heap s.heap [] := va_S.rf
  have hP : va_P (dC, dI) vwCl [(h_t, .inr (4, [.ref h_t_standing, .ref h_t_unlike, .ref h_t_blocks, .ref h_t_ends, .ref h_t_prices, .int t_rowSize, .int t_repeatPrice, .int t_correctionPrice, .int t_mostCorrections, .int t_number])), (h_t_blocks, .inl (cI, 60, .inl t_blocks)), (h_t_ends, .inl (cI, 60, .inl t_ends)), (h_t_prices, .inl (cI, 60, .inl t_prices)), (h_t_unlike, .inl (cI, 24, .inl t_unlike))] s.heap := hP
  have hl := lv_entry [.ref h_t, .int x1] (n := 3) (Nat.le_of_ble_eq_true rfl)
  rw [show entryFrame m args 3 = entryFrame m ([.ref h_t, .int x1] : List Value).toArray 3 from by rw [hargs], lg_entry_eq]
  generalize (lg_sl [.ref h_t, .int x1] ++ List.replicate (3 - (lg_sl [.ref h_t, .int x1]).length) Slot.unset).toArray = ls at hl ⊢
  have hl : lv_has ls 3 [(0, .ref h_t), (1, .int x1)] := hl
  generalize hQQ : MQ below (va_Qv (fun (_ : Unit) => True) (fun (_ : Unit) (t : State) => va_P (dC, dI) vwCl [(h_t, .inr (4, [.ref h_t_standing, .ref h_t_unlike, .ref h_t_blocks, .ref h_t_ends, .ref h_t_prices, .int t_rowSize, .int t_repeatPrice, .int t_correctionPrice, .int t_mostCorrections, .int y_t_number])), (h_t_blocks, .inl (cI, 60, .inl y_t_blocks)), (h_t_ends, .inl (cI, 60, .inl y_t_ends)), (h_t_prices, .inl (cI, 60, .inl y_t_prices)), (h_t_unlike, .inl (cI, 24, .inl t_unlike))] t.heap ∧ va_K (dC, dI) vwCl (tyA cI cJ cC cS) t ∧ va_D A [(h_t, .inr (4, [.ref h_t_standing, .ref h_t_unlike, .ref h_t_blocks, .ref h_t_ends, .ref h_t_prices, .int t_rowSize, .int t_repeatPrice, .int t_correctionPrice, .int t_mostCorrections, .int y_t_number])), (h_t_blocks, .inl (cI, 60, .inl y_t_blocks)), (h_t_ends, .inl (cI, 60, .inl y_t_ends)), (h_t_prices, .inl (cI, 60, .inl y_t_prices)), (h_t_unlike, .inl (cI, 24, .inl t_unlike))]) A) args s 0 0 A = QQ
  obtain ⟨H, hH⟩ : ∃ H : Heap, H = s.heap := ⟨_, rfl⟩
  obtain ⟨locs, hlocs⟩ : ∃ locs : List Loc, locs = [] := ⟨_, rfl⟩
  rw [← hH] at hP
  have hS : va_S A s.heap H locs := by rw [hH, hlocs]; exact hS
  suffices hZ : W p l e (headSpec wsX5_find ({ frames := 2, cells := 0, slots := 0, locals := 46 } : Room)).room s m args below meth c H locs 0 0 QQ (F0 m 0 ls []) by rw [hH, hlocs] at hZ; exact hZ
  clear hH hlocs
  have hL7 : ∀ (n7 : Nat) , ∀ (x2 : Int32) (t_number : Int32) (t_blocks : Nat → Int32) (t_ends : Nat → Int32) (t_prices : Nat → Int32) (H : Heap) (locs : List Loc) (ls : Array Slot), fRp_find_7 t_rowSize t_repeatPrice t_correctionPrice t_mostCorrections t_unlike x1 n7 x2 t_number t_blocks t_ends t_prices = some (y_t_number, y_t_blocks, y_t_ends, y_t_prices) → va_P (dC, dI) vwCl [(h_t, .inr (4, [.ref h_t_standing, .ref h_t_unlike, .ref h_t_blocks, .ref h_t_ends, .ref h_t_prices, .int t_rowSize, .int t_repeatPrice, .int t_correctionPrice, .int t_mostCorrections, .int t_number])), (h_t_blocks, .inl (cI, 60, .inl t_blocks)), (h_t_ends, .inl (cI, 60, .inl t_ends)), (h_t_prices, .inl (cI, 60, .inl t_prices)), (h_t_unlike, .inl (cI, 24, .inl t_unlike))] H → va_D A [(h_t, .inr (4, [.ref h_t_standing, .ref h_t_unlike, .ref h_t_blocks, .ref h_t_ends, .ref h_t_prices, .int t_rowSize, .int t_repeatPrice, .int t_correctionPrice, .int t_mostCorrections, .int t_number])), (h_t_blocks, .inl (cI, 60, .inl t_blocks)), (h_t_ends, .inl (cI, 60, .inl t_ends)), (h_t_prices, .inl (cI, 60, .inl t_prices)), (h_t_unlike, .inl (cI, 24, .inl t_unlike))] → va_S A s.heap H locs → lv_has ls 3 [(0, .ref h_t), (1, .int x1), (2, .int x2)] → W p l e (headSpec wsX5_find ({ frames := 2, cells := 0, slots := 0, locals := 46 } : Room)).room s m args below meth c H locs 0 0 QQ (F0 m 7 ls []) := by
    intro n7
    induction n7 with
    | zero =>
      intro x2 t_number t_blocks t_ends t_prices H locs ls hres
      rw [fRp_find_7] at hres
      cases hres
    | succ n7 ih7 =>
      intro x2 t_number t_blocks t_ends t_prices H locs ls hres hP hD hS hl
      rw [fRp_find_7] at hres
      refine lv_iload_n hx hb dX5_find_7 rfl (lv_at hl 1 rfl) ?_
      refine lv_iconst (v := (2 : Int32)) hx hb dX5_find_8 (by decide) ?_
      refine lv_iload_n hx hb dX5_find_9 rfl (lv_at hl 2 rfl) ?_
      refine lv_imul hx hb dX5_find_10 ?_
      refine lv_iadd hx hb dX5_find_11 ?_
      refine lv_aload_n hx hb dX5_find_12 rfl (lv_at hl 0 rfl) ?_
      refine va_get (D := (dC, dI)) (ci := 4) (v := .int t_rowSize) (C := RX5) (T := TX5) (N := 10) hx hb hts iRp_find_X5_find_1 hown hK hP 0 rfl rfl 5 (by decide) (hts _ kRp_find_X5_find_0) (fun _ h9 => h9) rfl dX5_find_13 ?_
      refine lv_icmp_gt (tgt := 31) hx hb dX5_find_16 (by decide) (fun c_1 => ?_) (fun c_1 => ?_)
      · have hres := it_of hres c_1
        obtain ⟨e9_0, e9_1, e9_2, e9_3⟩ := tup4 hres
        subst e9_0
        subst e9_1
        subst e9_2
        subst e9_3
        rw [← hQQ]
        exact W.vret hx hb hr (fun t ht hW => ⟨⟨(), rfl, trivial, by rw [ht]; exact hP, va_K.moved hW.alike hK, hD⟩, hS.F ht⟩) hS.2.2 dX5_find_31
      · have hres := ie_of hres c_1
        refine lv_aload_n hx hb dX5_find_19 rfl (lv_at hl 0 rfl) ?_
        refine lv_iload_n hx hb dX5_find_20 rfl (lv_at hl 1 rfl) ?_
        refine lv_iload_n hx hb dX5_find_21 rfl (lv_at hl 2 rfl) ?_
        obtain ⟨o2, ho2, hres⟩ := bd_of hres
        have hPc := hP.sub (ws' := [(h_t, .inr (4, [.ref h_t_standing, .ref h_t_unlike, .ref h_t_blocks, .ref h_t_ends, .ref h_t_prices, .int t_rowSize, .int t_repeatPrice, .int t_correctionPrice, .int t_mostCorrections, .int t_number])), (h_t_blocks, .inl (cI, 60, .inl t_blocks)), (h_t_ends, .inl (cI, 60, .inl t_ends)), (h_t_prices, .inl (cI, 60, .inl t_prices)), (h_t_unlike, .inl (cI, 24, .inl t_unlike))]) [0, 1, 2, 3, 4] rfl
        have hDc := hD.sub (ws' := [(h_t, .inr (4, [.ref h_t_standing, .ref h_t_unlike, .ref h_t_blocks, .ref h_t_ends, .ref h_t_prices, .int t_rowSize, .int t_repeatPrice, .int t_correctionPrice, .int t_mostCorrections, .int t_number])), (h_t_blocks, .inl (cI, 60, .inl t_blocks)), (h_t_ends, .inl (cI, 60, .inl t_ends)), (h_t_prices, .inl (cI, 60, .inl t_prices)), (h_t_unlike, .inl (cI, 24, .inl t_unlike))]) [0, 1, 2, 3, 4] (by decide) rfl
        have hFc := va_free (wc := [(h_t, .inr (4, [.ref h_t_standing, .ref h_t_unlike, .ref h_t_blocks, .ref h_t_ends, .ref h_t_prices, .int t_rowSize, .int t_repeatPrice, .int t_correctionPrice, .int t_mostCorrections, .int t_number])), (h_t_blocks, .inl (cI, 60, .inl t_blocks)), (h_t_ends, .inl (cI, 60, .inl t_ends)), (h_t_prices, .inl (cI, 60, .inl t_prices)), (h_t_unlike, .inl (cI, 24, .inl t_unlike))]) hD hS hA [0, 1, 2, 3, 4] rfl
        refine va_callv (va_runV (As := [.int x1, .int x2]) (rest := []) ⟨hx, hb, hml, hown, hts⟩ (cRp_findOf l dC dI cI cJ cC cS h_t h_t_standing h_t_unlike h_t_blocks h_t_ends h_t_prices H.size t_rowSize t_repeatPrice t_correctionPrice t_mostCorrections t_number t_blocks t_ends t_prices t_unlike x1 x2 o2.1 o2.2.1 o2.2.2.1 o2.2.2.2 ho2) (cwV 2 hts gX5_find_X5_findOf rfl rfl rfl (by decide +kernel) ⟨Nat.le_of_ble_eq_true rfl, Nat.le_of_ble_eq_true rfl⟩) ⟨fun a U g mk q => by obtain ⟨q0, q1, qP, qK, qN, qD⟩ := q; exact ⟨q0, q1, qP, va_K.moved (u := U) (U := U.calling g mk a) (Vm.Alike.refl U.vm) qK, nwS (u := U) (U := U.calling g mk a) rfl qN, qD⟩, va_recv hK hPc (ci := 4) (q0 := 0) rfl rfl, fun U hU hW => ⟨rfl, by rw [hU], by rw [hU]; exact hPc, va_K.moved hW.alike hK, nwW hW hN, hDc.weaken (fun _ _ _ _ => trivial)⟩⟩ rfl rfl hl.1 rfl (lv_room (Nat.le_of_ble_eq_true rfl)) dX5_find_22 ⟨Nat.zero_le _, Nat.zero_le _⟩) hS (fun q _ h => hFc q h) hFc (fun u9 t H1 locs ht hvm hw hB hz1 hk1 hS => ?_)
        obtain ⟨hP1, hK1, hD1⟩ := hB
        rw [ht] at hP1
        obtain ⟨hP, hD⟩ := va_join (wr := []) (w1 := [(h_t, .inr (4, [.ref h_t_standing, .ref h_t_unlike, .ref h_t_blocks, .ref h_t_ends, .ref h_t_prices, .int t_rowSize, .int t_repeatPrice, .int t_correctionPrice, .int t_mostCorrections, .int o2.1])), (h_t_blocks, .inl (cI, 60, .inl o2.2.1)), (h_t_ends, .inl (cI, 60, .inl o2.2.2.1)), (h_t_prices, .inl (cI, 60, .inl o2.2.2.2)), (h_t_unlike, .inl (cI, 24, .inl t_unlike))]) hP hD [0, 1, 2, 3, 4] [] rfl rfl (by decide) (by decide) hk1 hFc hP1 hD1
        generalize H1 = H at hP hS ⊢
        have hP : va_P (dC, dI) vwCl [(h_t, .inr (4, [.ref h_t_standing, .ref h_t_unlike, .ref h_t_blocks, .ref h_t_ends, .ref h_t_prices, .int t_rowSize, .int t_repeatPrice, .int t_correctionPrice, .int t_mostCorrections, .int o2.1])), (h_t_blocks, .inl (cI, 60, .inl o2.2.1)), (h_t_ends, .inl (cI, 60, .inl o2.2.2.1)), (h_t_prices, .inl (cI, 60, .inl o2.2.2.2)), (h_t_unlike, .inl (cI, 24, .inl t_unlike))] H := hP
        have hD : va_D A [(h_t, .inr (4, [.ref h_t_standing, .ref h_t_unlike, .ref h_t_blocks, .ref h_t_ends, .ref h_t_prices, .int t_rowSize, .int t_repeatPrice, .int t_correctionPrice, .int t_mostCorrections, .int o2.1])), (h_t_blocks, .inl (cI, 60, .inl o2.2.1)), (h_t_ends, .inl (cI, 60, .inl o2.2.2.1)), (h_t_prices, .inl (cI, 60, .inl o2.2.2.2)), (h_t_unlike, .inl (cI, 24, .inl t_unlike))] := hD
        refine lv_iinc (v := (x2 + 1)) (lv' := [(2, .int (x2 + 1)), (0, .ref h_t), (1, .int x1)]) hx hb dX5_find_25 hl (k := 2) rfl rfl (by decide) rfl (fun ls hl => ?_)
        refine lv_goto (tgt := 7) hx hb dX5_find_28 (by decide) ?_
        exact ih7 (x2 + 1) o2.1 o2.2.1 o2.2.2.1 o2.2.2.2 H locs ls hres hP hD hS (lv_sub hl [1, 2, 0] rfl)
  rw [fRp_find] at hres
  refine lv_aload_n hx hb dX5_find_0 rfl (lv_at hl 0 rfl) ?_
  refine lv_iconst (v := (0 : Int32)) hx hb dX5_find_1 (by decide) ?_
  refine va_put (D := (dC, dI)) (ci := 4) (v := .int (0 : Int32)) (ty := .int) (C := RX5) (T := TX5) (N := 10) hx hb hts iRp_find_X5_find_1 tyX5 tyX5_ok nmX5 hown hK hP hD hS 0 rfl rfl 9 (by decide) (hts _ kRp_find_X5_find_2) (fun _ h9 => h9) rfl (by decide +kernel) rfl rfl (Nat.le_of_ble_eq_true rfl) dX5_find_2 (fun H locs hP hD hS => ?_)
  have hP : va_P (dC, dI) vwCl [(h_t, .inr (4, [.ref h_t_standing, .ref h_t_unlike, .ref h_t_blocks, .ref h_t_ends, .ref h_t_prices, .int t_rowSize, .int t_repeatPrice, .int t_correctionPrice, .int t_mostCorrections, .int (0 : Int32)])), (h_t_blocks, .inl (cI, 60, .inl t_blocks)), (h_t_ends, .inl (cI, 60, .inl t_ends)), (h_t_prices, .inl (cI, 60, .inl t_prices)), (h_t_unlike, .inl (cI, 24, .inl t_unlike))] H := hP
  have hD : va_D A [(h_t, .inr (4, [.ref h_t_standing, .ref h_t_unlike, .ref h_t_blocks, .ref h_t_ends, .ref h_t_prices, .int t_rowSize, .int t_repeatPrice, .int t_correctionPrice, .int t_mostCorrections, .int (0 : Int32)])), (h_t_blocks, .inl (cI, 60, .inl t_blocks)), (h_t_ends, .inl (cI, 60, .inl t_ends)), (h_t_prices, .inl (cI, 60, .inl t_prices)), (h_t_unlike, .inl (cI, 24, .inl t_unlike))] := hD
  refine lv_iconst (v := (1 : Int32)) hx hb dX5_find_5 (by decide) ?_
  refine lv_istore_n (lv' := [(2, .int (1 : Int32)), (0, .ref h_t), (1, .int x1)]) hx hb dX5_find_6 rfl hl (by decide) rfl (fun ls hl => ?_)
  exact hL7 FU (1 : Int32) (0 : Int32) t_blocks t_ends t_prices H locs ls hres hP hD hS (lv_sub hl [1, 2, 0] rfl)

-- Rp_look
theorem kRp_look_X5_look_0 : Cond.fieldLink RX5 27 "RepeatNests$Repeats" "rowSize" "I" ∈ wsX5_look := by decide +kernel
theorem iRp_look_X5_look_1 : ∀ w ∈ wsX50, w ∈ wsX5_look := by decide +kernel
theorem kRp_look_X5_look_2 : Cond.initialized yX10_isKind.cls ∈ wsX5_look := by decide +kernel
theorem kRp_look_X5_look_3 : Cond.static yX10_isKind ∈ wsX5_look := by decide +kernel
theorem kRp_look_X5_look_4 : Cond.fieldLink RX5 9 "RepeatNests$Repeats" "standing" "[I" ∈ wsX5_look := by decide +kernel
theorem kRp_look_X5_look_5 : Cond.fieldLink RX5 15 "RepeatNests$Repeats" "unlike" "[I" ∈ wsX5_look := by decide +kernel
theorem iRp_look_X5_look_6 : ∀ w ∈ wsX70, w ∈ wsX5_look := by decide +kernel
theorem kRp_look_X5_look_7 : Cond.fieldLink RX5 31 "RepeatNests$Repeats" "repeatPrice" "I" ∈ wsX5_look := by decide +kernel
theorem kRp_look_X5_look_8 : Cond.fieldLink RX5 34 "RepeatNests$Repeats" "correctionPrice" "I" ∈ wsX5_look := by decide +kernel
theorem kRp_look_X5_look_9 : Cond.fieldLink RX5 37 "RepeatNests$Repeats" "mostCorrections" "I" ∈ wsX5_look := by decide +kernel
set_option maxHeartbeats 4000000 in
set_option maxRecDepth 100000 in
theorem cRp_look (l : Launch) (dC : Nat → ClassId) (dI : Nat → Nat → Nat) (cI cJ cC cS : ClassId) (h_t h_t_standing h_t_unlike h_t_blocks h_t_ends h_t_prices h_u h_u_letters h_u_settings : Nat) (sz : Nat) (t_rowSize : Int32) (t_repeatPrice : Int32) (t_correctionPrice : Int32) (t_mostCorrections : Int32) (t_number : Int32) (t_standing : Nat → Int32) (t_unlike : Nat → Int32) (u_size : Int32) (u_letters : Nat → Int32) (u_settings : Nat → Int32) (y_t_rowSize : Int32) (y_t_repeatPrice : Int32) (y_t_correctionPrice : Int32) (y_t_mostCorrections : Int32) (y_t_standing : Nat → Int32) (y_t_unlike : Nat → Int32) (hres : fRp_look u_size u_letters u_settings t_standing t_unlike = some (y_t_rowSize, y_t_repeatPrice, y_t_correctionPrice, y_t_mostCorrections, y_t_standing, y_t_unlike)) :
    Met l yX5_look wsX5_look ({ frames := 1, cells := 0, slots := 0, locals := 21 } : Room) (va_Pc [.ref h_t, .ref h_u] (fun (U : State) => U.heap.size = sz ∧ va_P (dC, dI) vwCl [(h_t, .inr (4, [.ref h_t_standing, .ref h_t_unlike, .ref h_t_blocks, .ref h_t_ends, .ref h_t_prices, .int t_rowSize, .int t_repeatPrice, .int t_correctionPrice, .int t_mostCorrections, .int t_number])), (h_t_standing, .inl (cI, 4, .inl t_standing)), (h_t_unlike, .inl (cI, 24, .inl t_unlike)), (h_u, .inr (6, [.ref h_u_letters, .ref h_u_settings, .int u_size])), (h_u_letters, .inl (cI, 24, .inl u_letters)), (h_u_settings, .inl (cI, 5, .inl u_settings))] U.heap ∧ va_K (dC, dI) vwCl (tyA cI cJ cC cS) U ∧ nwN U ∧ va_D (fun _ => True) [(h_t, .inr (4, [.ref h_t_standing, .ref h_t_unlike, .ref h_t_blocks, .ref h_t_ends, .ref h_t_prices, .int t_rowSize, .int t_repeatPrice, .int t_correctionPrice, .int t_mostCorrections, .int t_number])), (h_t_standing, .inl (cI, 4, .inl t_standing)), (h_t_unlike, .inl (cI, 24, .inl t_unlike)), (h_u, .inr (6, [.ref h_u_letters, .ref h_u_settings, .int u_size])), (h_u_letters, .inl (cI, 24, .inl u_letters)), (h_u_settings, .inl (cI, 5, .inl u_settings))])) (va_Qv (fun (_ : Unit) => True) (fun (_ : Unit) (t : State) => va_P (dC, dI) vwCl [(h_t, .inr (4, [.ref h_t_standing, .ref h_t_unlike, .ref h_t_blocks, .ref h_t_ends, .ref h_t_prices, .int y_t_rowSize, .int y_t_repeatPrice, .int y_t_correctionPrice, .int y_t_mostCorrections, .int t_number])), (h_t_standing, .inl (cI, 4, .inl y_t_standing)), (h_t_unlike, .inl (cI, 24, .inl y_t_unlike)), (h_u, .inr (6, [.ref h_u_letters, .ref h_u_settings, .int u_size])), (h_u_letters, .inl (cI, 24, .inl u_letters)), (h_u_settings, .inl (cI, 5, .inl u_settings))] t.heap ∧ va_K (dC, dI) vwCl (tyA cI cJ cC cS) t ∧ va_D (va_A [(h_t, .inr (4, [.ref h_t_standing, .ref h_t_unlike, .ref h_t_blocks, .ref h_t_ends, .ref h_t_prices, .int t_rowSize, .int t_repeatPrice, .int t_correctionPrice, .int t_mostCorrections, .int t_number])), (h_t_standing, .inl (cI, 4, .inl t_standing)), (h_t_unlike, .inl (cI, 24, .inl t_unlike)), (h_u, .inr (6, [.ref h_u_letters, .ref h_u_settings, .int u_size])), (h_u_letters, .inl (cI, 24, .inl u_letters)), (h_u_settings, .inl (cI, 5, .inl u_settings))] sz) [(h_t, .inr (4, [.ref h_t_standing, .ref h_t_unlike, .ref h_t_blocks, .ref h_t_ends, .ref h_t_prices, .int y_t_rowSize, .int y_t_repeatPrice, .int y_t_correctionPrice, .int y_t_mostCorrections, .int t_number])), (h_t_standing, .inl (cI, 4, .inl y_t_standing)), (h_t_unlike, .inl (cI, 24, .inl y_t_unlike)), (h_u, .inr (6, [.ref h_u_letters, .ref h_u_settings, .int u_size])), (h_u_letters, .inl (cI, 24, .inl u_letters)), (h_u_settings, .inl (cI, 5, .inl u_settings))]) (va_A [(h_t, .inr (4, [.ref h_t_standing, .ref h_t_unlike, .ref h_t_blocks, .ref h_t_ends, .ref h_t_prices, .int t_rowSize, .int t_repeatPrice, .int t_correctionPrice, .int t_mostCorrections, .int t_number])), (h_t_standing, .inl (cI, 4, .inl t_standing)), (h_t_unlike, .inl (cI, 24, .inl t_unlike)), (h_u, .inr (6, [.ref h_u_letters, .ref h_u_settings, .int u_size])), (h_u_letters, .inl (cI, 24, .inl u_letters)), (h_u_settings, .inl (cI, 5, .inl u_settings))] sz)) 0 0 (va_A [(h_t, .inr (4, [.ref h_t_standing, .ref h_t_unlike, .ref h_t_blocks, .ref h_t_ends, .ref h_t_prices, .int t_rowSize, .int t_repeatPrice, .int t_correctionPrice, .int t_mostCorrections, .int t_number])), (h_t_standing, .inl (cI, 4, .inl t_standing)), (h_t_unlike, .inl (cI, 24, .inl t_unlike)), (h_u, .inr (6, [.ref h_u_letters, .ref h_u_settings, .int u_size])), (h_u_letters, .inl (cI, 24, .inl u_letters)), (h_u_settings, .inl (cI, 5, .inl u_settings))] sz) := by
  refine Met.ofW (cc := cX5_look) (maxL := 5) (ret := none) (by decide) rfl ?_
  intro p e s m args below meth c s₁ B hml hv
  obtain ⟨hargs, hsz, hP, hK, hN, hD0⟩ := hv
  have hx := B.exec
  have hb := B.bytes
  have hr := B.returns
  have hts := atoms_spec (ws := wsX5_look) B.pre
  have hown : s.vm.findClass RX5 = some m.cls := findClass_of_methodNamed B.named
  have hlocks := B.notSynchronized
  subst hsz
  have hD := hD0.self (sz := s.heap.size)
  generalize hAe : va_A [(h_t, .inr (4, [.ref h_t_standing, .ref h_t_unlike, .ref h_t_blocks, .ref h_t_ends, .ref h_t_prices, .int t_rowSize, .int t_repeatPrice, .int t_correctionPrice, .int t_mostCorrections, .int t_number])), (h_t_standing, .inl (cI, 4, .inl t_standing)), (h_t_unlike, .inl (cI, 24, .inl t_unlike)), (h_u, .inr (6, [.ref h_u_letters, .ref h_u_settings, .int u_size])), (h_u_letters, .inl (cI, 24, .inl u_letters)), (h_u_settings, .inl (cI, 5, .inl u_settings))] s.heap.size = A at hD ⊢
  have hA : ∀ q : Nat, s.heap.size ≤ q → A q := fun q h => by rw [← hAe]; exact Or.inr h
  have hS : va_S A s.heap s.heap [] := va_S.rf
  have hP : va_P (dC, dI) vwCl [(h_t, .inr (4, [.ref h_t_standing, .ref h_t_unlike, .ref h_t_blocks, .ref h_t_ends, .ref h_t_prices, .int t_rowSize, .int t_repeatPrice, .int t_correctionPrice, .int t_mostCorrections, .int t_number])), (h_t_standing, .inl (cI, 4, .inl t_standing)), (h_t_unlike, .inl (cI, 24, .inl t_unlike)), (h_u, .inr (6, [.ref h_u_letters, .ref h_u_settings, .int u_size])), (h_u_letters, .inl (cI, 24, .inl u_letters)), (h_u_settings, .inl (cI, 5, .inl u_settings))] s.heap := hP
  have hl := lv_entry [.ref h_t, .ref h_u] (n := 5) (Nat.le_of_ble_eq_true rfl)
  rw [show entryFrame m args 5 = entryFrame m ([.ref h_t, .ref h_u] : List Value).toArray 5 from by rw [hargs], lg_entry_eq]
  generalize (lg_sl [.ref h_t, .ref h_u] ++ List.replicate (5 - (lg_sl [.ref h_t, .ref h_u]).length) Slot.unset).toArray = ls at hl ⊢
  have hl : lv_has ls 5 [(0, .ref h_t), (1, .ref h_u)] := hl
  generalize hQQ : MQ below (va_Qv (fun (_ : Unit) => True) (fun (_ : Unit) (t : State) => va_P (dC, dI) vwCl [(h_t, .inr (4, [.ref h_t_standing, .ref h_t_unlike, .ref h_t_blocks, .ref h_t_ends, .ref h_t_prices, .int y_t_rowSize, .int y_t_repeatPrice, .int y_t_correctionPrice, .int y_t_mostCorrections, .int t_number])), (h_t_standing, .inl (cI, 4, .inl y_t_standing)), (h_t_unlike, .inl (cI, 24, .inl y_t_unlike)), (h_u, .inr (6, [.ref h_u_letters, .ref h_u_settings, .int u_size])), (h_u_letters, .inl (cI, 24, .inl u_letters)), (h_u_settings, .inl (cI, 5, .inl u_settings))] t.heap ∧ va_K (dC, dI) vwCl (tyA cI cJ cC cS) t ∧ va_D A [(h_t, .inr (4, [.ref h_t_standing, .ref h_t_unlike, .ref h_t_blocks, .ref h_t_ends, .ref h_t_prices, .int y_t_rowSize, .int y_t_repeatPrice, .int y_t_correctionPrice, .int y_t_mostCorrections, .int t_number])), (h_t_standing, .inl (cI, 4, .inl y_t_standing)), (h_t_unlike, .inl (cI, 24, .inl y_t_unlike)), (h_u, .inr (6, [.ref h_u_letters, .ref h_u_settings, .int u_size])), (h_u_letters, .inl (cI, 24, .inl u_letters)), (h_u_settings, .inl (cI, 5, .inl u_settings))]) A) args s 0 0 A = QQ
  obtain ⟨H, hH⟩ : ∃ H : Heap, H = s.heap := ⟨_, rfl⟩
  obtain ⟨locs, hlocs⟩ : ∃ locs : List Loc, locs = [] := ⟨_, rfl⟩
  rw [← hH] at hP
  have hS : va_S A s.heap H locs := by rw [hH, hlocs]; exact hS
  suffices hZ : W p l e (headSpec wsX5_look ({ frames := 1, cells := 0, slots := 0, locals := 21 } : Room)).room s m args below meth c H locs 0 0 QQ (F0 m 0 ls []) by rw [hH, hlocs] at hZ; exact hZ
  clear hH hlocs
  have hL98 : ∀ (n98 : Nat) , ∀ (x2 : Int32) (t_rowSize : Int32) (t_repeatPrice : Int32) (t_correctionPrice : Int32) (t_mostCorrections : Int32) (t_standing : Nat → Int32) (t_unlike : Nat → Int32) (H : Heap) (locs : List Loc) (ls : Array Slot), fRp_look_98 n98 x2 t_rowSize t_repeatPrice t_correctionPrice t_mostCorrections t_standing t_unlike = some (y_t_rowSize, y_t_repeatPrice, y_t_correctionPrice, y_t_mostCorrections, y_t_standing, y_t_unlike) → va_P (dC, dI) vwCl [(h_t, .inr (4, [.ref h_t_standing, .ref h_t_unlike, .ref h_t_blocks, .ref h_t_ends, .ref h_t_prices, .int t_rowSize, .int t_repeatPrice, .int t_correctionPrice, .int t_mostCorrections, .int t_number])), (h_t_standing, .inl (cI, 4, .inl t_standing)), (h_t_unlike, .inl (cI, 24, .inl t_unlike)), (h_u, .inr (6, [.ref h_u_letters, .ref h_u_settings, .int u_size])), (h_u_letters, .inl (cI, 24, .inl u_letters)), (h_u_settings, .inl (cI, 5, .inl u_settings))] H → va_D A [(h_t, .inr (4, [.ref h_t_standing, .ref h_t_unlike, .ref h_t_blocks, .ref h_t_ends, .ref h_t_prices, .int t_rowSize, .int t_repeatPrice, .int t_correctionPrice, .int t_mostCorrections, .int t_number])), (h_t_standing, .inl (cI, 4, .inl t_standing)), (h_t_unlike, .inl (cI, 24, .inl t_unlike)), (h_u, .inr (6, [.ref h_u_letters, .ref h_u_settings, .int u_size])), (h_u_letters, .inl (cI, 24, .inl u_letters)), (h_u_settings, .inl (cI, 5, .inl u_settings))] → va_S A s.heap H locs → lv_has ls 5 [(0, .ref h_t), (2, .int x2)] → W p l e (headSpec wsX5_look ({ frames := 1, cells := 0, slots := 0, locals := 21 } : Room)).room s m args below meth c H locs 0 0 QQ (F0 m 98 ls []) := by
    intro n98
    induction n98 with
    | zero =>
      intro x2 t_rowSize t_repeatPrice t_correctionPrice t_mostCorrections t_standing t_unlike H locs ls hres
      rw [fRp_look_98] at hres
      cases hres
    | succ n98 ih98 =>
      have hL109 : ∀ (n109 : Nat) , ∀ (x2 : Int32) (x3 : Int32) (x4 : Int32) (t_rowSize : Int32) (t_repeatPrice : Int32) (t_correctionPrice : Int32) (t_mostCorrections : Int32) (t_standing : Nat → Int32) (t_unlike : Nat → Int32) (H : Heap) (locs : List Loc) (ls : Array Slot), fRp_look_109 (fRp_look_98 n98) n109 x2 x3 x4 t_rowSize t_repeatPrice t_correctionPrice t_mostCorrections t_standing t_unlike = some (y_t_rowSize, y_t_repeatPrice, y_t_correctionPrice, y_t_mostCorrections, y_t_standing, y_t_unlike) → va_P (dC, dI) vwCl [(h_t, .inr (4, [.ref h_t_standing, .ref h_t_unlike, .ref h_t_blocks, .ref h_t_ends, .ref h_t_prices, .int t_rowSize, .int t_repeatPrice, .int t_correctionPrice, .int t_mostCorrections, .int t_number])), (h_t_standing, .inl (cI, 4, .inl t_standing)), (h_t_unlike, .inl (cI, 24, .inl t_unlike)), (h_u, .inr (6, [.ref h_u_letters, .ref h_u_settings, .int u_size])), (h_u_letters, .inl (cI, 24, .inl u_letters)), (h_u_settings, .inl (cI, 5, .inl u_settings))] H → va_D A [(h_t, .inr (4, [.ref h_t_standing, .ref h_t_unlike, .ref h_t_blocks, .ref h_t_ends, .ref h_t_prices, .int t_rowSize, .int t_repeatPrice, .int t_correctionPrice, .int t_mostCorrections, .int t_number])), (h_t_standing, .inl (cI, 4, .inl t_standing)), (h_t_unlike, .inl (cI, 24, .inl t_unlike)), (h_u, .inr (6, [.ref h_u_letters, .ref h_u_settings, .int u_size])), (h_u_letters, .inl (cI, 24, .inl u_letters)), (h_u_settings, .inl (cI, 5, .inl u_settings))] → va_S A s.heap H locs → lv_has ls 5 [(0, .ref h_t), (2, .int x2), (3, .int x3), (4, .int x4)] → W p l e (headSpec wsX5_look ({ frames := 1, cells := 0, slots := 0, locals := 21 } : Room)).room s m args below meth c H locs 0 0 QQ (F0 m 109 ls []) := by
        intro n109
        induction n109 with
        | zero =>
          intro x2 x3 x4 t_rowSize t_repeatPrice t_correctionPrice t_mostCorrections t_standing t_unlike H locs ls hres
          rw [fRp_look_109] at hres
          cases hres
        | succ n109 ih109 =>
          intro x2 x3 x4 t_rowSize t_repeatPrice t_correctionPrice t_mostCorrections t_standing t_unlike H locs ls hres hP hD hS hl
          rw [fRp_look_109] at hres
          refine lv_iload hx hb dX5_look_109 (lv_at hl 3 rfl) ?_
          refine lv_iconst (v := (4 : Int32)) hx hb dX5_look_111 (by decide) ?_
          refine lv_icmp_ge (tgt := 141) hx hb dX5_look_112 (by decide) (fun c_10 => ?_) (fun c_10 => ?_)
          · have hres := it_of hres c_10
            refine lv_aload_n hx hb dX5_look_141 rfl (lv_at hl 0 rfl) ?_
            refine va_get (D := (dC, dI)) (ci := 4) (v := .ref h_t_unlike) (C := RX5) (T := TX5) (N := 10) hx hb hts iRp_look_X5_look_1 hown hK hP 0 rfl rfl 1 (by decide) (hts _ kRp_look_X5_look_5) (fun _ h9 => h9) rfl dX5_look_142 ?_
            refine lv_iload_n hx hb dX5_look_145 rfl (lv_at hl 1 rfl) ?_
            refine lv_iload_n hx hb dX5_look_146 rfl (lv_at hl 2 rfl) ?_
            refine lv_iconst (v := (-1 : Int32)) hx hb dX5_look_147 (by decide) ?_
            refine lv_ixor hx hb dX5_look_148 ?_
            obtain ⟨c_11, hres⟩ := ck_of hres
            refine va_iast hx hb hK hP hD hS 2 0 rfl rfl c_11 dX5_look_149 (fun H locs hP hD hS => ?_)
            have hP : va_P (dC, dI) vwCl [(h_t, .inr (4, [.ref h_t_standing, .ref h_t_unlike, .ref h_t_blocks, .ref h_t_ends, .ref h_t_prices, .int t_rowSize, .int t_repeatPrice, .int t_correctionPrice, .int t_mostCorrections, .int t_number])), (h_t_standing, .inl (cI, 4, .inl t_standing)), (h_t_unlike, .inl (cI, 24, .inl (wr t_unlike x2 (x3 ^^^ (-1 : Int32))))), (h_u, .inr (6, [.ref h_u_letters, .ref h_u_settings, .int u_size])), (h_u_letters, .inl (cI, 24, .inl u_letters)), (h_u_settings, .inl (cI, 5, .inl u_settings))] H := hP
            have hD : va_D A [(h_t, .inr (4, [.ref h_t_standing, .ref h_t_unlike, .ref h_t_blocks, .ref h_t_ends, .ref h_t_prices, .int t_rowSize, .int t_repeatPrice, .int t_correctionPrice, .int t_mostCorrections, .int t_number])), (h_t_standing, .inl (cI, 4, .inl t_standing)), (h_t_unlike, .inl (cI, 24, .inl (wr t_unlike x2 (x3 ^^^ (-1 : Int32))))), (h_u, .inr (6, [.ref h_u_letters, .ref h_u_settings, .int u_size])), (h_u_letters, .inl (cI, 24, .inl u_letters)), (h_u_settings, .inl (cI, 5, .inl u_settings))] := hD
            refine lv_iinc (v := (x2 + 1)) (lv' := [(2, .int (x2 + 1)), (0, .ref h_t), (3, .int x3), (4, .int x4)]) hx hb dX5_look_150 hl (k := 1) rfl rfl (by decide) rfl (fun ls hl => ?_)
            refine lv_goto (tgt := 98) hx hb dX5_look_153 (by decide) ?_
            exact ih98 (x2 + 1) t_rowSize t_repeatPrice t_correctionPrice t_mostCorrections t_standing (wr t_unlike x2 (x3 ^^^ (-1 : Int32))) H locs ls hres hP hD hS (lv_sub hl [1, 0] rfl)
          · have hres := ie_of hres c_10
            refine lv_iload_n hx hb dX5_look_115 rfl (lv_at hl 2 rfl) ?_
            refine lv_aload_n hx hb dX5_look_116 rfl (lv_at hl 0 rfl) ?_
            refine va_get (D := (dC, dI)) (ci := 4) (v := .ref h_t_standing) (C := RX5) (T := TX5) (N := 10) hx hb hts iRp_look_X5_look_1 hown hK hP 0 rfl rfl 0 (by decide) (hts _ kRp_look_X5_look_4) (fun _ h9 => h9) rfl dX5_look_117 ?_
            refine lv_iload hx hb dX5_look_120 (lv_at hl 3 rfl) ?_
            obtain ⟨c_12, hres⟩ := ck_of hres
            refine va_iald hx hb hK hP 1 0 rfl rfl c_12 dX5_look_122 ?_
            refine lv_aload_n hx hb dX5_look_123 rfl (lv_at hl 0 rfl) ?_
            refine va_get (D := (dC, dI)) (ci := 4) (v := .ref h_t_standing) (C := RX5) (T := TX5) (N := 10) hx hb hts iRp_look_X5_look_1 hown hK hP 0 rfl rfl 0 (by decide) (hts _ kRp_look_X5_look_4) (fun _ h9 => h9) rfl dX5_look_124 ?_
            refine lv_iload hx hb dX5_look_127 (lv_at hl 3 rfl) ?_
            obtain ⟨c_13, hres⟩ := ck_of hres
            refine va_iald hx hb hK hP 1 0 rfl rfl c_13 dX5_look_129 ?_
            refine lv_iload_n hx hb dX5_look_130 rfl (lv_at hl 1 rfl) ?_
            refine lv_ishr hx hb dX5_look_131 ?_
            refine lv_iand hx hb dX5_look_132 ?_
            refine lv_ior hx hb dX5_look_133 ?_
            refine lv_istore_n (lv' := [(3, .int (x3 ||| ((rd t_standing x4) &&& ((rd t_standing x4) >>> (x2 &&& 31))))), (0, .ref h_t), (2, .int x2), (4, .int x4)]) hx hb dX5_look_134 rfl hl (by decide) rfl (fun ls hl => ?_)
            refine lv_iinc (v := (x4 + 1)) (lv' := [(4, .int (x4 + 1)), (3, .int (x3 ||| ((rd t_standing x4) &&& ((rd t_standing x4) >>> (x2 &&& 31))))), (0, .ref h_t), (2, .int x2)]) hx hb dX5_look_135 hl (k := 3) rfl rfl (by decide) rfl (fun ls hl => ?_)
            refine lv_goto (tgt := 109) hx hb dX5_look_138 (by decide) ?_
            exact ih109 x2 (x3 ||| ((rd t_standing x4) &&& ((rd t_standing x4) >>> (x2 &&& 31)))) (x4 + 1) t_rowSize t_repeatPrice t_correctionPrice t_mostCorrections t_standing t_unlike H locs ls hres hP hD hS (lv_sub hl [2, 3, 1, 0] rfl)
      intro x2 t_rowSize t_repeatPrice t_correctionPrice t_mostCorrections t_standing t_unlike H locs ls hres hP hD hS hl
      rw [fRp_look_98] at hres
      refine lv_iload_n hx hb dX5_look_98 rfl (lv_at hl 1 rfl) ?_
      refine lv_bipush (v := (24 : Int32)) hx hb dX5_look_99 (by decide) ?_
      refine lv_icmp_ge (tgt := 156) hx hb dX5_look_101 (by decide) (fun c_7 => ?_) (fun c_7 => ?_)
      · have hres := it_of hres c_7
        obtain ⟨e9_0, e9_1, e9_2, e9_3, e9_4, e9_5⟩ := tup6 hres
        subst e9_0
        subst e9_1
        subst e9_2
        subst e9_3
        subst e9_4
        subst e9_5
        rw [← hQQ]
        exact W.vret hx hb hr (fun t ht hW => ⟨⟨(), rfl, trivial, by rw [ht]; exact hP, va_K.moved hW.alike hK, hD⟩, hS.F ht⟩) hS.2.2 dX5_look_156
      · have hres := ie_of hres c_7
        refine lv_iconst (v := (0 : Int32)) hx hb dX5_look_104 (by decide) ?_
        refine lv_istore_n (lv' := [(3, .int (0 : Int32)), (0, .ref h_t), (2, .int x2)]) hx hb dX5_look_105 rfl hl (by decide) rfl (fun ls hl => ?_)
        refine lv_iconst (v := (0 : Int32)) hx hb dX5_look_106 (by decide) ?_
        refine lv_istore (lv' := [(4, .int (0 : Int32)), (3, .int (0 : Int32)), (0, .ref h_t), (2, .int x2)]) hx hb dX5_look_107 hl (by decide) rfl (fun ls hl => ?_)
        exact hL109 FU x2 (0 : Int32) (0 : Int32) t_rowSize t_repeatPrice t_correctionPrice t_mostCorrections t_standing t_unlike H locs ls hres hP hD hS (lv_sub hl [2, 3, 1, 0] rfl)
  have hL57 : ∀ (n57 : Nat) , ∀ (x2 : Int32) (t_rowSize : Int32) (t_repeatPrice : Int32) (t_correctionPrice : Int32) (t_mostCorrections : Int32) (t_standing : Nat → Int32) (t_unlike : Nat → Int32) (H : Heap) (locs : List Loc) (ls : Array Slot), fRp_look_57 u_size u_letters n57 x2 t_rowSize t_repeatPrice t_correctionPrice t_mostCorrections t_standing t_unlike = some (y_t_rowSize, y_t_repeatPrice, y_t_correctionPrice, y_t_mostCorrections, y_t_standing, y_t_unlike) → va_P (dC, dI) vwCl [(h_t, .inr (4, [.ref h_t_standing, .ref h_t_unlike, .ref h_t_blocks, .ref h_t_ends, .ref h_t_prices, .int t_rowSize, .int t_repeatPrice, .int t_correctionPrice, .int t_mostCorrections, .int t_number])), (h_t_standing, .inl (cI, 4, .inl t_standing)), (h_t_unlike, .inl (cI, 24, .inl t_unlike)), (h_u, .inr (6, [.ref h_u_letters, .ref h_u_settings, .int u_size])), (h_u_letters, .inl (cI, 24, .inl u_letters)), (h_u_settings, .inl (cI, 5, .inl u_settings))] H → va_D A [(h_t, .inr (4, [.ref h_t_standing, .ref h_t_unlike, .ref h_t_blocks, .ref h_t_ends, .ref h_t_prices, .int t_rowSize, .int t_repeatPrice, .int t_correctionPrice, .int t_mostCorrections, .int t_number])), (h_t_standing, .inl (cI, 4, .inl t_standing)), (h_t_unlike, .inl (cI, 24, .inl t_unlike)), (h_u, .inr (6, [.ref h_u_letters, .ref h_u_settings, .int u_size])), (h_u_letters, .inl (cI, 24, .inl u_letters)), (h_u_settings, .inl (cI, 5, .inl u_settings))] → va_S A s.heap H locs → lv_has ls 5 [(0, .ref h_t), (1, .ref h_u), (2, .int x2)] → W p l e (headSpec wsX5_look ({ frames := 1, cells := 0, slots := 0, locals := 21 } : Room)).room s m args below meth c H locs 0 0 QQ (F0 m 57 ls []) := by
    intro n57
    induction n57 with
    | zero =>
      intro x2 t_rowSize t_repeatPrice t_correctionPrice t_mostCorrections t_standing t_unlike H locs ls hres
      rw [fRp_look_57] at hres
      cases hres
    | succ n57 ih57 =>
      intro x2 t_rowSize t_repeatPrice t_correctionPrice t_mostCorrections t_standing t_unlike H locs ls hres hP hD hS hl
      rw [fRp_look_57] at hres
      refine lv_iload_n hx hb dX5_look_57 rfl (lv_at hl 2 rfl) ?_
      refine lv_aload_n hx hb dX5_look_58 rfl (lv_at hl 0 rfl) ?_
      refine va_get (D := (dC, dI)) (ci := 4) (v := .int t_rowSize) (C := RX5) (T := TX5) (N := 10) hx hb hts iRp_look_X5_look_1 hown hK hP 0 rfl rfl 5 (by decide) (hts _ kRp_look_X5_look_0) (fun _ h9 => h9) rfl dX5_look_59 ?_
      refine lv_icmp_ge (tgt := 96) hx hb dX5_look_62 (by decide) (fun c_1 => ?_) (fun c_1 => ?_)
      · have hres := it_of hres c_1
        refine lv_iconst (v := (1 : Int32)) hx hb dX5_look_96 (by decide) ?_
        refine lv_istore_n (lv' := [(2, .int (1 : Int32)), (0, .ref h_t), (1, .ref h_u)]) hx hb dX5_look_97 rfl hl (by decide) rfl (fun ls hl => ?_)
        exact hL98 FU (1 : Int32) t_rowSize t_repeatPrice t_correctionPrice t_mostCorrections t_standing t_unlike H locs ls hres hP hD hS (lv_sub hl [1, 0] rfl)
      · have hres := ie_of hres c_1
        refine lv_aload_n hx hb dX5_look_65 rfl (lv_at hl 1 rfl) ?_
        refine lv_iload_n hx hb dX5_look_66 rfl (lv_at hl 2 rfl) ?_
        obtain ⟨o2, ho2, hres⟩ := bd_of hres
        have hPc := hP.sub (ws' := [(h_u, .inr (6, [.ref h_u_letters, .ref h_u_settings, .int u_size])), (h_u_letters, .inl (cI, 24, .inl u_letters))]) [3, 4] rfl
        have hDc := hD.sub (ws' := [(h_u, .inr (6, [.ref h_u_letters, .ref h_u_settings, .int u_size])), (h_u_letters, .inl (cI, 24, .inl u_letters))]) [3, 4] (by decide) rfl
        have hFc := va_free (wc := [(h_u, .inr (6, [.ref h_u_letters, .ref h_u_settings, .int u_size])), (h_u_letters, .inl (cI, 24, .inl u_letters))]) hD hS hA [3, 4] rfl
        refine va_calli (va_runV (As := [.int x2]) (rest := []) ⟨hx, hb, hml, hown, hts⟩ (cSt_letter l dC dI cI cJ cC cS h_u h_u_letters h_u_settings H.size u_size u_letters x2 o2 ho2) (cwV 1 hts gX5_look_X7_letter rfl rfl rfl (by decide +kernel) ⟨Nat.le_of_ble_eq_true rfl, Nat.le_of_ble_eq_true rfl⟩) ⟨fun a U g mk q => by obtain ⟨q0, q1, qP, qK, qN, qD⟩ := q; exact ⟨q0, q1, qP, va_K.moved (u := U) (U := U.calling g mk a) (Vm.Alike.refl U.vm) qK, nwS (u := U) (U := U.calling g mk a) rfl qN, qD⟩, va_recv hK hPc (ci := 6) (q0 := 0) rfl rfl, fun U hU hW => ⟨rfl, by rw [hU], by rw [hU]; exact hPc, va_K.moved hW.alike hK, nwW hW hN, hDc.weaken (fun _ _ _ _ => trivial)⟩⟩ rfl rfl hl.1 rfl (lv_room (Nat.le_of_ble_eq_true rfl)) dX5_look_67 ⟨Nat.zero_le _, Nat.zero_le _⟩) hS (fun q _ h => hFc q h) hFc (fun r9 u9 t H1 locs ht hvm hw hB hz1 hk1 hS => ?_)
        have hw := hw.symm
        subst hw
        obtain ⟨hP1, hK1, hD1⟩ := hB
        rw [ht] at hP1
        obtain ⟨hP, hD⟩ := va_join (wr := [(h_t, .inr (4, [.ref h_t_standing, .ref h_t_unlike, .ref h_t_blocks, .ref h_t_ends, .ref h_t_prices, .int t_rowSize, .int t_repeatPrice, .int t_correctionPrice, .int t_mostCorrections, .int t_number])), (h_t_standing, .inl (cI, 4, .inl t_standing)), (h_t_unlike, .inl (cI, 24, .inl t_unlike)), (h_u_settings, .inl (cI, 5, .inl u_settings))]) (w1 := [(h_u, .inr (6, [.ref h_u_letters, .ref h_u_settings, .int u_size])), (h_u_letters, .inl (cI, 24, .inl u_letters))]) hP hD [3, 4] [0, 1, 2, 5] rfl rfl (by decide) (by decide) hk1 hFc hP1 hD1
        generalize H1 = H at hP hS ⊢
        have hP : va_P (dC, dI) vwCl [(h_t, .inr (4, [.ref h_t_standing, .ref h_t_unlike, .ref h_t_blocks, .ref h_t_ends, .ref h_t_prices, .int t_rowSize, .int t_repeatPrice, .int t_correctionPrice, .int t_mostCorrections, .int t_number])), (h_t_standing, .inl (cI, 4, .inl t_standing)), (h_t_unlike, .inl (cI, 24, .inl t_unlike)), (h_u_settings, .inl (cI, 5, .inl u_settings)), (h_u, .inr (6, [.ref h_u_letters, .ref h_u_settings, .int u_size])), (h_u_letters, .inl (cI, 24, .inl u_letters))] H := hP
        have hD : va_D A [(h_t, .inr (4, [.ref h_t_standing, .ref h_t_unlike, .ref h_t_blocks, .ref h_t_ends, .ref h_t_prices, .int t_rowSize, .int t_repeatPrice, .int t_correctionPrice, .int t_mostCorrections, .int t_number])), (h_t_standing, .inl (cI, 4, .inl t_standing)), (h_t_unlike, .inl (cI, 24, .inl t_unlike)), (h_u_settings, .inl (cI, 5, .inl u_settings)), (h_u, .inr (6, [.ref h_u_letters, .ref h_u_settings, .int u_size])), (h_u_letters, .inl (cI, 24, .inl u_letters))] := hD
        refine lv_istore_n (lv' := [(3, .int o2), (0, .ref h_t), (1, .ref h_u), (2, .int x2)]) hx hb dX5_look_70 rfl hl (by decide) rfl (fun ls hl => ?_)
        refine lv_iload_n hx hb dX5_look_71 rfl (lv_at hl 0 rfl) ?_
        obtain ⟨o3, ho3, hres⟩ := bd_of hres
        have hPc := hP.sub (ws' := []) [] rfl
        have hDc := hD.sub (ws' := []) [] (by decide) rfl
        have hFc := va_free (wc := []) hD hS hA [] rfl
        refine va_calli (va_runSN (As := [.int o2]) (rest := []) ⟨hx, hb, hml, hown, hts⟩ (cRN_isKind l dC dI cI cJ cC cS H.size o2 o3 ho3) ⟨va_cnB 1 hts gX5_look_X10_isKind_n55 rfl rfl rfl (nwP hN (by decide +kernel : Cond.methodLinkNest "RepeatNests$Repeats" 55 ({ cls := "RepeatNests", name := "isKind", desc := "(I)Z" } : Jvm.MethodName) "RepeatNests" ∈ nwAll)) (hts _ kRp_look_X5_look_2) (by decide +kernel) ⟨Nat.le_of_ble_eq_true rfl, Nat.le_of_ble_eq_true rfl⟩, hts _ kRp_look_X5_look_3, trivial⟩ ⟨fun a U g mk q => by obtain ⟨q0, q1, qP, qK, qN, qD⟩ := q; exact ⟨q0, q1, qP, va_K.moved (u := U) (U := U.calling g mk a) (Vm.Alike.refl U.vm) qK, nwS (u := U) (U := U.calling g mk a) rfl qN, qD⟩, fun U hU hW => ⟨rfl, by rw [hU], by rw [hU]; exact hPc, va_K.moved hW.alike hK, nwW hW hN, hDc.weaken (fun _ _ _ _ => trivial)⟩⟩ rfl rfl hl.1 rfl (lv_room (Nat.le_of_ble_eq_true rfl)) dX5_look_72 ⟨Nat.zero_le _, Nat.zero_le _⟩) hS (fun q _ h => hFc q h) hFc (fun r9 u9 t H1 locs ht hvm hw hB hz1 hk1 hS => ?_)
        have hw := hw.symm
        subst hw
        obtain ⟨hP1, hK1, hD1⟩ := hB
        rw [ht] at hP1
        obtain ⟨hP, hD⟩ := va_join (wr := [(h_t, .inr (4, [.ref h_t_standing, .ref h_t_unlike, .ref h_t_blocks, .ref h_t_ends, .ref h_t_prices, .int t_rowSize, .int t_repeatPrice, .int t_correctionPrice, .int t_mostCorrections, .int t_number])), (h_t_standing, .inl (cI, 4, .inl t_standing)), (h_t_unlike, .inl (cI, 24, .inl t_unlike)), (h_u_settings, .inl (cI, 5, .inl u_settings)), (h_u, .inr (6, [.ref h_u_letters, .ref h_u_settings, .int u_size])), (h_u_letters, .inl (cI, 24, .inl u_letters))]) (w1 := []) hP hD [] [0, 1, 2, 3, 4, 5] rfl rfl (by decide) (by decide) hk1 hFc hP1 hD1
        generalize H1 = H at hP hS ⊢
        have hP : va_P (dC, dI) vwCl [(h_t, .inr (4, [.ref h_t_standing, .ref h_t_unlike, .ref h_t_blocks, .ref h_t_ends, .ref h_t_prices, .int t_rowSize, .int t_repeatPrice, .int t_correctionPrice, .int t_mostCorrections, .int t_number])), (h_t_standing, .inl (cI, 4, .inl t_standing)), (h_t_unlike, .inl (cI, 24, .inl t_unlike)), (h_u_settings, .inl (cI, 5, .inl u_settings)), (h_u, .inr (6, [.ref h_u_letters, .ref h_u_settings, .int u_size])), (h_u_letters, .inl (cI, 24, .inl u_letters))] H := hP
        have hD : va_D A [(h_t, .inr (4, [.ref h_t_standing, .ref h_t_unlike, .ref h_t_blocks, .ref h_t_ends, .ref h_t_prices, .int t_rowSize, .int t_repeatPrice, .int t_correctionPrice, .int t_mostCorrections, .int t_number])), (h_t_standing, .inl (cI, 4, .inl t_standing)), (h_t_unlike, .inl (cI, 24, .inl t_unlike)), (h_u_settings, .inl (cI, 5, .inl u_settings)), (h_u, .inr (6, [.ref h_u_letters, .ref h_u_settings, .int u_size])), (h_u_letters, .inl (cI, 24, .inl u_letters))] := hD
        refine lv_if_eq (tgt := 90) hx hb dX5_look_75 (by decide) (fun c_4 => ?_) (fun c_4 => ?_)
        · have hres := it_of hres c_4
          refine lv_iinc (v := (x2 + 1)) (lv' := [(2, .int (x2 + 1)), (3, .int o2), (0, .ref h_t), (1, .ref h_u)]) hx hb dX5_look_90 hl (k := 3) rfl rfl (by decide) rfl (fun ls hl => ?_)
          refine lv_goto (tgt := 57) hx hb dX5_look_93 (by decide) ?_
          exact ih57 (x2 + 1) t_rowSize t_repeatPrice t_correctionPrice t_mostCorrections t_standing t_unlike H locs ls hres (hP.sub [0, 1, 2, 4, 5, 3] rfl) (hD.sub [0, 1, 2, 4, 5, 3] (by decide) rfl) hS (lv_sub hl [2, 3, 0] rfl)
        · have hres := ie_of hres c_4
          refine lv_aload_n hx hb dX5_look_78 rfl (lv_at hl 1 rfl) ?_
          refine va_get (D := (dC, dI)) (ci := 4) (v := .ref h_t_standing) (C := RX5) (T := TX5) (N := 10) hx hb hts iRp_look_X5_look_1 hown hK hP 0 rfl rfl 0 (by decide) (hts _ kRp_look_X5_look_4) (fun _ h9 => h9) rfl dX5_look_79 ?_
          refine lv_iload_n hx hb dX5_look_82 rfl (lv_at hl 0 rfl) ?_
          refine lv_dup2_11 hx hb dX5_look_83 rfl rfl ?_
          obtain ⟨c_5, hres⟩ := ck_of hres
          refine va_iald hx hb hK hP 1 0 rfl rfl c_5 dX5_look_84 ?_
          refine lv_iconst (v := (1 : Int32)) hx hb dX5_look_85 (by decide) ?_
          refine lv_iload_n hx hb dX5_look_86 rfl (lv_at hl 3 rfl) ?_
          refine lv_ishl hx hb dX5_look_87 ?_
          refine lv_ior hx hb dX5_look_88 ?_
          obtain ⟨c_6, hres⟩ := ck_of hres
          refine va_iast hx hb hK hP hD hS 1 0 rfl rfl c_6 dX5_look_89 (fun H locs hP hD hS => ?_)
          have hP : va_P (dC, dI) vwCl [(h_t, .inr (4, [.ref h_t_standing, .ref h_t_unlike, .ref h_t_blocks, .ref h_t_ends, .ref h_t_prices, .int t_rowSize, .int t_repeatPrice, .int t_correctionPrice, .int t_mostCorrections, .int t_number])), (h_t_standing, .inl (cI, 4, .inl (wr t_standing o2 ((rd t_standing o2) ||| ((1 : Int32) <<< (x2 &&& 31)))))), (h_t_unlike, .inl (cI, 24, .inl t_unlike)), (h_u_settings, .inl (cI, 5, .inl u_settings)), (h_u, .inr (6, [.ref h_u_letters, .ref h_u_settings, .int u_size])), (h_u_letters, .inl (cI, 24, .inl u_letters))] H := hP
          have hD : va_D A [(h_t, .inr (4, [.ref h_t_standing, .ref h_t_unlike, .ref h_t_blocks, .ref h_t_ends, .ref h_t_prices, .int t_rowSize, .int t_repeatPrice, .int t_correctionPrice, .int t_mostCorrections, .int t_number])), (h_t_standing, .inl (cI, 4, .inl (wr t_standing o2 ((rd t_standing o2) ||| ((1 : Int32) <<< (x2 &&& 31)))))), (h_t_unlike, .inl (cI, 24, .inl t_unlike)), (h_u_settings, .inl (cI, 5, .inl u_settings)), (h_u, .inr (6, [.ref h_u_letters, .ref h_u_settings, .int u_size])), (h_u_letters, .inl (cI, 24, .inl u_letters))] := hD
          refine lv_iinc (v := (x2 + 1)) (lv' := [(2, .int (x2 + 1)), (3, .int o2), (0, .ref h_t), (1, .ref h_u)]) hx hb dX5_look_90 hl (k := 3) rfl rfl (by decide) rfl (fun ls hl => ?_)
          refine lv_goto (tgt := 57) hx hb dX5_look_93 (by decide) ?_
          exact ih57 (x2 + 1) t_rowSize t_repeatPrice t_correctionPrice t_mostCorrections (wr t_standing o2 ((rd t_standing o2) ||| ((1 : Int32) <<< (x2 &&& 31)))) t_unlike H locs ls hres (hP.sub [0, 1, 2, 4, 5, 3] rfl) (hD.sub [0, 1, 2, 4, 5, 3] (by decide) rfl) hS (lv_sub hl [2, 3, 0] rfl)
  have hL37 : ∀ (n37 : Nat) , ∀ (x2 : Int32) (t_rowSize : Int32) (t_repeatPrice : Int32) (t_correctionPrice : Int32) (t_mostCorrections : Int32) (t_standing : Nat → Int32) (t_unlike : Nat → Int32) (H : Heap) (locs : List Loc) (ls : Array Slot), fRp_look_37 u_size u_letters n37 x2 t_rowSize t_repeatPrice t_correctionPrice t_mostCorrections t_standing t_unlike = some (y_t_rowSize, y_t_repeatPrice, y_t_correctionPrice, y_t_mostCorrections, y_t_standing, y_t_unlike) → va_P (dC, dI) vwCl [(h_t, .inr (4, [.ref h_t_standing, .ref h_t_unlike, .ref h_t_blocks, .ref h_t_ends, .ref h_t_prices, .int t_rowSize, .int t_repeatPrice, .int t_correctionPrice, .int t_mostCorrections, .int t_number])), (h_t_standing, .inl (cI, 4, .inl t_standing)), (h_t_unlike, .inl (cI, 24, .inl t_unlike)), (h_u, .inr (6, [.ref h_u_letters, .ref h_u_settings, .int u_size])), (h_u_letters, .inl (cI, 24, .inl u_letters)), (h_u_settings, .inl (cI, 5, .inl u_settings))] H → va_D A [(h_t, .inr (4, [.ref h_t_standing, .ref h_t_unlike, .ref h_t_blocks, .ref h_t_ends, .ref h_t_prices, .int t_rowSize, .int t_repeatPrice, .int t_correctionPrice, .int t_mostCorrections, .int t_number])), (h_t_standing, .inl (cI, 4, .inl t_standing)), (h_t_unlike, .inl (cI, 24, .inl t_unlike)), (h_u, .inr (6, [.ref h_u_letters, .ref h_u_settings, .int u_size])), (h_u_letters, .inl (cI, 24, .inl u_letters)), (h_u_settings, .inl (cI, 5, .inl u_settings))] → va_S A s.heap H locs → lv_has ls 5 [(0, .ref h_t), (1, .ref h_u), (2, .int x2)] → W p l e (headSpec wsX5_look ({ frames := 1, cells := 0, slots := 0, locals := 21 } : Room)).room s m args below meth c H locs 0 0 QQ (F0 m 37 ls []) := by
    intro n37
    induction n37 with
    | zero =>
      intro x2 t_rowSize t_repeatPrice t_correctionPrice t_mostCorrections t_standing t_unlike H locs ls hres
      rw [fRp_look_37] at hres
      cases hres
    | succ n37 ih37 =>
      intro x2 t_rowSize t_repeatPrice t_correctionPrice t_mostCorrections t_standing t_unlike H locs ls hres hP hD hS hl
      rw [fRp_look_37] at hres
      refine lv_iload_n hx hb dX5_look_37 rfl (lv_at hl 2 rfl) ?_
      refine lv_iconst (v := (4 : Int32)) hx hb dX5_look_38 (by decide) ?_
      refine lv_icmp_ge (tgt := 55) hx hb dX5_look_39 (by decide) (fun c_8 => ?_) (fun c_8 => ?_)
      · have hres := it_of hres c_8
        refine lv_iconst (v := (0 : Int32)) hx hb dX5_look_55 (by decide) ?_
        refine lv_istore_n (lv' := [(2, .int (0 : Int32)), (0, .ref h_t), (1, .ref h_u)]) hx hb dX5_look_56 rfl hl (by decide) rfl (fun ls hl => ?_)
        exact hL57 FU (0 : Int32) t_rowSize t_repeatPrice t_correctionPrice t_mostCorrections t_standing t_unlike H locs ls hres hP hD hS (lv_sub hl [1, 2, 0] rfl)
      · have hres := ie_of hres c_8
        refine lv_aload_n hx hb dX5_look_42 rfl (lv_at hl 0 rfl) ?_
        refine va_get (D := (dC, dI)) (ci := 4) (v := .ref h_t_standing) (C := RX5) (T := TX5) (N := 10) hx hb hts iRp_look_X5_look_1 hown hK hP 0 rfl rfl 0 (by decide) (hts _ kRp_look_X5_look_4) (fun _ h9 => h9) rfl dX5_look_43 ?_
        refine lv_iload_n hx hb dX5_look_46 rfl (lv_at hl 2 rfl) ?_
        refine lv_iconst (v := (0 : Int32)) hx hb dX5_look_47 (by decide) ?_
        obtain ⟨c_9, hres⟩ := ck_of hres
        refine va_iast hx hb hK hP hD hS 1 0 rfl rfl c_9 dX5_look_48 (fun H locs hP hD hS => ?_)
        have hP : va_P (dC, dI) vwCl [(h_t, .inr (4, [.ref h_t_standing, .ref h_t_unlike, .ref h_t_blocks, .ref h_t_ends, .ref h_t_prices, .int t_rowSize, .int t_repeatPrice, .int t_correctionPrice, .int t_mostCorrections, .int t_number])), (h_t_standing, .inl (cI, 4, .inl (wr t_standing x2 (0 : Int32)))), (h_t_unlike, .inl (cI, 24, .inl t_unlike)), (h_u, .inr (6, [.ref h_u_letters, .ref h_u_settings, .int u_size])), (h_u_letters, .inl (cI, 24, .inl u_letters)), (h_u_settings, .inl (cI, 5, .inl u_settings))] H := hP
        have hD : va_D A [(h_t, .inr (4, [.ref h_t_standing, .ref h_t_unlike, .ref h_t_blocks, .ref h_t_ends, .ref h_t_prices, .int t_rowSize, .int t_repeatPrice, .int t_correctionPrice, .int t_mostCorrections, .int t_number])), (h_t_standing, .inl (cI, 4, .inl (wr t_standing x2 (0 : Int32)))), (h_t_unlike, .inl (cI, 24, .inl t_unlike)), (h_u, .inr (6, [.ref h_u_letters, .ref h_u_settings, .int u_size])), (h_u_letters, .inl (cI, 24, .inl u_letters)), (h_u_settings, .inl (cI, 5, .inl u_settings))] := hD
        refine lv_iinc (v := (x2 + 1)) (lv' := [(2, .int (x2 + 1)), (0, .ref h_t), (1, .ref h_u)]) hx hb dX5_look_49 hl (k := 2) rfl rfl (by decide) rfl (fun ls hl => ?_)
        refine lv_goto (tgt := 37) hx hb dX5_look_52 (by decide) ?_
        exact ih37 (x2 + 1) t_rowSize t_repeatPrice t_correctionPrice t_mostCorrections (wr t_standing x2 (0 : Int32)) t_unlike H locs ls hres hP hD hS (lv_sub hl [1, 2, 0] rfl)
  rw [fRp_look] at hres
  refine lv_aload_n hx hb dX5_look_0 rfl (lv_at hl 0 rfl) ?_
  refine lv_aload_n hx hb dX5_look_1 rfl (lv_at hl 1 rfl) ?_
  refine va_getN (D := (dC, dI)) (ci := 6) (v := .int u_size) (C := RX7) (T := TX7) (N := 3) hx hb hts iRp_look_X5_look_6 hown hK hP 3 rfl rfl 2 (by decide) (nwU hN (by decide +kernel : Cond.fieldLinkNest "RepeatNests$Repeats" 43 "RepeatNests$State" "size" "I" "RepeatNests" ∈ nwAll)) (fun _ h9 => h9) rfl dX5_look_2 ?_
  refine va_put (D := (dC, dI)) (ci := 4) (v := .int u_size) (ty := .int) (C := RX5) (T := TX5) (N := 10) hx hb hts iRp_look_X5_look_1 tyX5 tyX5_ok nmX5 hown hK hP hD hS 0 rfl rfl 5 (by decide) (hts _ kRp_look_X5_look_0) (fun _ h9 => h9) rfl (by decide +kernel) rfl rfl (Nat.le_of_ble_eq_true rfl) dX5_look_5 (fun H locs hP hD hS => ?_)
  have hP : va_P (dC, dI) vwCl [(h_t, .inr (4, [.ref h_t_standing, .ref h_t_unlike, .ref h_t_blocks, .ref h_t_ends, .ref h_t_prices, .int u_size, .int t_repeatPrice, .int t_correctionPrice, .int t_mostCorrections, .int t_number])), (h_t_standing, .inl (cI, 4, .inl t_standing)), (h_t_unlike, .inl (cI, 24, .inl t_unlike)), (h_u, .inr (6, [.ref h_u_letters, .ref h_u_settings, .int u_size])), (h_u_letters, .inl (cI, 24, .inl u_letters)), (h_u_settings, .inl (cI, 5, .inl u_settings))] H := hP
  have hD : va_D A [(h_t, .inr (4, [.ref h_t_standing, .ref h_t_unlike, .ref h_t_blocks, .ref h_t_ends, .ref h_t_prices, .int u_size, .int t_repeatPrice, .int t_correctionPrice, .int t_mostCorrections, .int t_number])), (h_t_standing, .inl (cI, 4, .inl t_standing)), (h_t_unlike, .inl (cI, 24, .inl t_unlike)), (h_u, .inr (6, [.ref h_u_letters, .ref h_u_settings, .int u_size])), (h_u_letters, .inl (cI, 24, .inl u_letters)), (h_u_settings, .inl (cI, 5, .inl u_settings))] := hD
  refine lv_aload_n hx hb dX5_look_8 rfl (lv_at hl 0 rfl) ?_
  refine lv_aload_n hx hb dX5_look_9 rfl (lv_at hl 1 rfl) ?_
  refine lv_iconst (v := (1 : Int32)) hx hb dX5_look_10 (by decide) ?_
  obtain ⟨o14, ho14, hres⟩ := bd_of hres
  have hPc := hP.sub (ws' := [(h_u, .inr (6, [.ref h_u_letters, .ref h_u_settings, .int u_size])), (h_u_settings, .inl (cI, 5, .inl u_settings))]) [3, 5] rfl
  have hDc := hD.sub (ws' := [(h_u, .inr (6, [.ref h_u_letters, .ref h_u_settings, .int u_size])), (h_u_settings, .inl (cI, 5, .inl u_settings))]) [3, 5] (by decide) rfl
  have hFc := va_free (wc := [(h_u, .inr (6, [.ref h_u_letters, .ref h_u_settings, .int u_size])), (h_u_settings, .inl (cI, 5, .inl u_settings))]) hD hS hA [3, 5] rfl
  refine va_calli (va_runV (As := [.int (1 : Int32)]) (rest := [.ref h_t]) ⟨hx, hb, hml, hown, hts⟩ (cSt_setting l dC dI cI cJ cC cS h_u h_u_letters h_u_settings H.size u_size u_settings (1 : Int32) o14 ho14) (cwV 1 hts gX5_look_X7_setting rfl rfl rfl (by decide +kernel) ⟨Nat.le_of_ble_eq_true rfl, Nat.le_of_ble_eq_true rfl⟩) ⟨fun a U g mk q => by obtain ⟨q0, q1, qP, qK, qN, qD⟩ := q; exact ⟨q0, q1, qP, va_K.moved (u := U) (U := U.calling g mk a) (Vm.Alike.refl U.vm) qK, nwS (u := U) (U := U.calling g mk a) rfl qN, qD⟩, va_recv hK hPc (ci := 6) (q0 := 0) rfl rfl, fun U hU hW => ⟨rfl, by rw [hU], by rw [hU]; exact hPc, va_K.moved hW.alike hK, nwW hW hN, hDc.weaken (fun _ _ _ _ => trivial)⟩⟩ rfl rfl hl.1 rfl (lv_room (Nat.le_of_ble_eq_true rfl)) dX5_look_11 ⟨Nat.zero_le _, Nat.zero_le _⟩) hS (fun q _ h => hFc q h) hFc (fun r9 u9 t H1 locs ht hvm hw hB hz1 hk1 hS => ?_)
  have hw := hw.symm
  subst hw
  obtain ⟨hP1, hK1, hD1⟩ := hB
  rw [ht] at hP1
  obtain ⟨hP, hD⟩ := va_join (wr := [(h_t, .inr (4, [.ref h_t_standing, .ref h_t_unlike, .ref h_t_blocks, .ref h_t_ends, .ref h_t_prices, .int u_size, .int t_repeatPrice, .int t_correctionPrice, .int t_mostCorrections, .int t_number])), (h_t_standing, .inl (cI, 4, .inl t_standing)), (h_t_unlike, .inl (cI, 24, .inl t_unlike)), (h_u_letters, .inl (cI, 24, .inl u_letters))]) (w1 := [(h_u, .inr (6, [.ref h_u_letters, .ref h_u_settings, .int u_size])), (h_u_settings, .inl (cI, 5, .inl u_settings))]) hP hD [3, 5] [0, 1, 2, 4] rfl rfl (by decide) (by decide) hk1 hFc hP1 hD1
  generalize H1 = H at hP hS ⊢
  have hP : va_P (dC, dI) vwCl [(h_t, .inr (4, [.ref h_t_standing, .ref h_t_unlike, .ref h_t_blocks, .ref h_t_ends, .ref h_t_prices, .int u_size, .int t_repeatPrice, .int t_correctionPrice, .int t_mostCorrections, .int t_number])), (h_t_standing, .inl (cI, 4, .inl t_standing)), (h_t_unlike, .inl (cI, 24, .inl t_unlike)), (h_u_letters, .inl (cI, 24, .inl u_letters)), (h_u, .inr (6, [.ref h_u_letters, .ref h_u_settings, .int u_size])), (h_u_settings, .inl (cI, 5, .inl u_settings))] H := hP
  have hD : va_D A [(h_t, .inr (4, [.ref h_t_standing, .ref h_t_unlike, .ref h_t_blocks, .ref h_t_ends, .ref h_t_prices, .int u_size, .int t_repeatPrice, .int t_correctionPrice, .int t_mostCorrections, .int t_number])), (h_t_standing, .inl (cI, 4, .inl t_standing)), (h_t_unlike, .inl (cI, 24, .inl t_unlike)), (h_u_letters, .inl (cI, 24, .inl u_letters)), (h_u, .inr (6, [.ref h_u_letters, .ref h_u_settings, .int u_size])), (h_u_settings, .inl (cI, 5, .inl u_settings))] := hD
  refine va_put (D := (dC, dI)) (ci := 4) (v := .int o14) (ty := .int) (C := RX5) (T := TX5) (N := 10) hx hb hts iRp_look_X5_look_1 tyX5 tyX5_ok nmX5 hown hK hP hD hS 0 rfl rfl 6 (by decide) (hts _ kRp_look_X5_look_7) (fun _ h9 => h9) rfl (by decide +kernel) rfl rfl (Nat.le_of_ble_eq_true rfl) dX5_look_14 (fun H locs hP hD hS => ?_)
  have hP : va_P (dC, dI) vwCl [(h_t, .inr (4, [.ref h_t_standing, .ref h_t_unlike, .ref h_t_blocks, .ref h_t_ends, .ref h_t_prices, .int u_size, .int o14, .int t_correctionPrice, .int t_mostCorrections, .int t_number])), (h_t_standing, .inl (cI, 4, .inl t_standing)), (h_t_unlike, .inl (cI, 24, .inl t_unlike)), (h_u_letters, .inl (cI, 24, .inl u_letters)), (h_u, .inr (6, [.ref h_u_letters, .ref h_u_settings, .int u_size])), (h_u_settings, .inl (cI, 5, .inl u_settings))] H := hP
  have hD : va_D A [(h_t, .inr (4, [.ref h_t_standing, .ref h_t_unlike, .ref h_t_blocks, .ref h_t_ends, .ref h_t_prices, .int u_size, .int o14, .int t_correctionPrice, .int t_mostCorrections, .int t_number])), (h_t_standing, .inl (cI, 4, .inl t_standing)), (h_t_unlike, .inl (cI, 24, .inl t_unlike)), (h_u_letters, .inl (cI, 24, .inl u_letters)), (h_u, .inr (6, [.ref h_u_letters, .ref h_u_settings, .int u_size])), (h_u_settings, .inl (cI, 5, .inl u_settings))] := hD
  refine lv_aload_n hx hb dX5_look_17 rfl (lv_at hl 0 rfl) ?_
  refine lv_aload_n hx hb dX5_look_18 rfl (lv_at hl 1 rfl) ?_
  refine lv_iconst (v := (2 : Int32)) hx hb dX5_look_19 (by decide) ?_
  obtain ⟨o15, ho15, hres⟩ := bd_of hres
  have hPc := hP.sub (ws' := [(h_u, .inr (6, [.ref h_u_letters, .ref h_u_settings, .int u_size])), (h_u_settings, .inl (cI, 5, .inl u_settings))]) [4, 5] rfl
  have hDc := hD.sub (ws' := [(h_u, .inr (6, [.ref h_u_letters, .ref h_u_settings, .int u_size])), (h_u_settings, .inl (cI, 5, .inl u_settings))]) [4, 5] (by decide) rfl
  have hFc := va_free (wc := [(h_u, .inr (6, [.ref h_u_letters, .ref h_u_settings, .int u_size])), (h_u_settings, .inl (cI, 5, .inl u_settings))]) hD hS hA [4, 5] rfl
  refine va_calli (va_runV (As := [.int (2 : Int32)]) (rest := [.ref h_t]) ⟨hx, hb, hml, hown, hts⟩ (cSt_setting l dC dI cI cJ cC cS h_u h_u_letters h_u_settings H.size u_size u_settings (2 : Int32) o15 ho15) (cwV 1 hts gX5_look_X7_setting rfl rfl rfl (by decide +kernel) ⟨Nat.le_of_ble_eq_true rfl, Nat.le_of_ble_eq_true rfl⟩) ⟨fun a U g mk q => by obtain ⟨q0, q1, qP, qK, qN, qD⟩ := q; exact ⟨q0, q1, qP, va_K.moved (u := U) (U := U.calling g mk a) (Vm.Alike.refl U.vm) qK, nwS (u := U) (U := U.calling g mk a) rfl qN, qD⟩, va_recv hK hPc (ci := 6) (q0 := 0) rfl rfl, fun U hU hW => ⟨rfl, by rw [hU], by rw [hU]; exact hPc, va_K.moved hW.alike hK, nwW hW hN, hDc.weaken (fun _ _ _ _ => trivial)⟩⟩ rfl rfl hl.1 rfl (lv_room (Nat.le_of_ble_eq_true rfl)) dX5_look_20 ⟨Nat.zero_le _, Nat.zero_le _⟩) hS (fun q _ h => hFc q h) hFc (fun r9 u9 t H1 locs ht hvm hw hB hz1 hk1 hS => ?_)
  have hw := hw.symm
  subst hw
  obtain ⟨hP1, hK1, hD1⟩ := hB
  rw [ht] at hP1
  obtain ⟨hP, hD⟩ := va_join (wr := [(h_t, .inr (4, [.ref h_t_standing, .ref h_t_unlike, .ref h_t_blocks, .ref h_t_ends, .ref h_t_prices, .int u_size, .int o14, .int t_correctionPrice, .int t_mostCorrections, .int t_number])), (h_t_standing, .inl (cI, 4, .inl t_standing)), (h_t_unlike, .inl (cI, 24, .inl t_unlike)), (h_u_letters, .inl (cI, 24, .inl u_letters))]) (w1 := [(h_u, .inr (6, [.ref h_u_letters, .ref h_u_settings, .int u_size])), (h_u_settings, .inl (cI, 5, .inl u_settings))]) hP hD [4, 5] [0, 1, 2, 3] rfl rfl (by decide) (by decide) hk1 hFc hP1 hD1
  generalize H1 = H at hP hS ⊢
  have hP : va_P (dC, dI) vwCl [(h_t, .inr (4, [.ref h_t_standing, .ref h_t_unlike, .ref h_t_blocks, .ref h_t_ends, .ref h_t_prices, .int u_size, .int o14, .int t_correctionPrice, .int t_mostCorrections, .int t_number])), (h_t_standing, .inl (cI, 4, .inl t_standing)), (h_t_unlike, .inl (cI, 24, .inl t_unlike)), (h_u_letters, .inl (cI, 24, .inl u_letters)), (h_u, .inr (6, [.ref h_u_letters, .ref h_u_settings, .int u_size])), (h_u_settings, .inl (cI, 5, .inl u_settings))] H := hP
  have hD : va_D A [(h_t, .inr (4, [.ref h_t_standing, .ref h_t_unlike, .ref h_t_blocks, .ref h_t_ends, .ref h_t_prices, .int u_size, .int o14, .int t_correctionPrice, .int t_mostCorrections, .int t_number])), (h_t_standing, .inl (cI, 4, .inl t_standing)), (h_t_unlike, .inl (cI, 24, .inl t_unlike)), (h_u_letters, .inl (cI, 24, .inl u_letters)), (h_u, .inr (6, [.ref h_u_letters, .ref h_u_settings, .int u_size])), (h_u_settings, .inl (cI, 5, .inl u_settings))] := hD
  refine va_put (D := (dC, dI)) (ci := 4) (v := .int o15) (ty := .int) (C := RX5) (T := TX5) (N := 10) hx hb hts iRp_look_X5_look_1 tyX5 tyX5_ok nmX5 hown hK hP hD hS 0 rfl rfl 7 (by decide) (hts _ kRp_look_X5_look_8) (fun _ h9 => h9) rfl (by decide +kernel) rfl rfl (Nat.le_of_ble_eq_true rfl) dX5_look_23 (fun H locs hP hD hS => ?_)
  have hP : va_P (dC, dI) vwCl [(h_t, .inr (4, [.ref h_t_standing, .ref h_t_unlike, .ref h_t_blocks, .ref h_t_ends, .ref h_t_prices, .int u_size, .int o14, .int o15, .int t_mostCorrections, .int t_number])), (h_t_standing, .inl (cI, 4, .inl t_standing)), (h_t_unlike, .inl (cI, 24, .inl t_unlike)), (h_u_letters, .inl (cI, 24, .inl u_letters)), (h_u, .inr (6, [.ref h_u_letters, .ref h_u_settings, .int u_size])), (h_u_settings, .inl (cI, 5, .inl u_settings))] H := hP
  have hD : va_D A [(h_t, .inr (4, [.ref h_t_standing, .ref h_t_unlike, .ref h_t_blocks, .ref h_t_ends, .ref h_t_prices, .int u_size, .int o14, .int o15, .int t_mostCorrections, .int t_number])), (h_t_standing, .inl (cI, 4, .inl t_standing)), (h_t_unlike, .inl (cI, 24, .inl t_unlike)), (h_u_letters, .inl (cI, 24, .inl u_letters)), (h_u, .inr (6, [.ref h_u_letters, .ref h_u_settings, .int u_size])), (h_u_settings, .inl (cI, 5, .inl u_settings))] := hD
  refine lv_aload_n hx hb dX5_look_26 rfl (lv_at hl 0 rfl) ?_
  refine lv_aload_n hx hb dX5_look_27 rfl (lv_at hl 1 rfl) ?_
  refine lv_iconst (v := (3 : Int32)) hx hb dX5_look_28 (by decide) ?_
  obtain ⟨o16, ho16, hres⟩ := bd_of hres
  have hPc := hP.sub (ws' := [(h_u, .inr (6, [.ref h_u_letters, .ref h_u_settings, .int u_size])), (h_u_settings, .inl (cI, 5, .inl u_settings))]) [4, 5] rfl
  have hDc := hD.sub (ws' := [(h_u, .inr (6, [.ref h_u_letters, .ref h_u_settings, .int u_size])), (h_u_settings, .inl (cI, 5, .inl u_settings))]) [4, 5] (by decide) rfl
  have hFc := va_free (wc := [(h_u, .inr (6, [.ref h_u_letters, .ref h_u_settings, .int u_size])), (h_u_settings, .inl (cI, 5, .inl u_settings))]) hD hS hA [4, 5] rfl
  refine va_calli (va_runV (As := [.int (3 : Int32)]) (rest := [.ref h_t]) ⟨hx, hb, hml, hown, hts⟩ (cSt_setting l dC dI cI cJ cC cS h_u h_u_letters h_u_settings H.size u_size u_settings (3 : Int32) o16 ho16) (cwV 1 hts gX5_look_X7_setting rfl rfl rfl (by decide +kernel) ⟨Nat.le_of_ble_eq_true rfl, Nat.le_of_ble_eq_true rfl⟩) ⟨fun a U g mk q => by obtain ⟨q0, q1, qP, qK, qN, qD⟩ := q; exact ⟨q0, q1, qP, va_K.moved (u := U) (U := U.calling g mk a) (Vm.Alike.refl U.vm) qK, nwS (u := U) (U := U.calling g mk a) rfl qN, qD⟩, va_recv hK hPc (ci := 6) (q0 := 0) rfl rfl, fun U hU hW => ⟨rfl, by rw [hU], by rw [hU]; exact hPc, va_K.moved hW.alike hK, nwW hW hN, hDc.weaken (fun _ _ _ _ => trivial)⟩⟩ rfl rfl hl.1 rfl (lv_room (Nat.le_of_ble_eq_true rfl)) dX5_look_29 ⟨Nat.zero_le _, Nat.zero_le _⟩) hS (fun q _ h => hFc q h) hFc (fun r9 u9 t H1 locs ht hvm hw hB hz1 hk1 hS => ?_)
  have hw := hw.symm
  subst hw
  obtain ⟨hP1, hK1, hD1⟩ := hB
  rw [ht] at hP1
  obtain ⟨hP, hD⟩ := va_join (wr := [(h_t, .inr (4, [.ref h_t_standing, .ref h_t_unlike, .ref h_t_blocks, .ref h_t_ends, .ref h_t_prices, .int u_size, .int o14, .int o15, .int t_mostCorrections, .int t_number])), (h_t_standing, .inl (cI, 4, .inl t_standing)), (h_t_unlike, .inl (cI, 24, .inl t_unlike)), (h_u_letters, .inl (cI, 24, .inl u_letters))]) (w1 := [(h_u, .inr (6, [.ref h_u_letters, .ref h_u_settings, .int u_size])), (h_u_settings, .inl (cI, 5, .inl u_settings))]) hP hD [4, 5] [0, 1, 2, 3] rfl rfl (by decide) (by decide) hk1 hFc hP1 hD1
  generalize H1 = H at hP hS ⊢
  have hP : va_P (dC, dI) vwCl [(h_t, .inr (4, [.ref h_t_standing, .ref h_t_unlike, .ref h_t_blocks, .ref h_t_ends, .ref h_t_prices, .int u_size, .int o14, .int o15, .int t_mostCorrections, .int t_number])), (h_t_standing, .inl (cI, 4, .inl t_standing)), (h_t_unlike, .inl (cI, 24, .inl t_unlike)), (h_u_letters, .inl (cI, 24, .inl u_letters)), (h_u, .inr (6, [.ref h_u_letters, .ref h_u_settings, .int u_size])), (h_u_settings, .inl (cI, 5, .inl u_settings))] H := hP
  have hD : va_D A [(h_t, .inr (4, [.ref h_t_standing, .ref h_t_unlike, .ref h_t_blocks, .ref h_t_ends, .ref h_t_prices, .int u_size, .int o14, .int o15, .int t_mostCorrections, .int t_number])), (h_t_standing, .inl (cI, 4, .inl t_standing)), (h_t_unlike, .inl (cI, 24, .inl t_unlike)), (h_u_letters, .inl (cI, 24, .inl u_letters)), (h_u, .inr (6, [.ref h_u_letters, .ref h_u_settings, .int u_size])), (h_u_settings, .inl (cI, 5, .inl u_settings))] := hD
  refine va_put (D := (dC, dI)) (ci := 4) (v := .int o16) (ty := .int) (C := RX5) (T := TX5) (N := 10) hx hb hts iRp_look_X5_look_1 tyX5 tyX5_ok nmX5 hown hK hP hD hS 0 rfl rfl 8 (by decide) (hts _ kRp_look_X5_look_9) (fun _ h9 => h9) rfl (by decide +kernel) rfl rfl (Nat.le_of_ble_eq_true rfl) dX5_look_32 (fun H locs hP hD hS => ?_)
  have hP : va_P (dC, dI) vwCl [(h_t, .inr (4, [.ref h_t_standing, .ref h_t_unlike, .ref h_t_blocks, .ref h_t_ends, .ref h_t_prices, .int u_size, .int o14, .int o15, .int o16, .int t_number])), (h_t_standing, .inl (cI, 4, .inl t_standing)), (h_t_unlike, .inl (cI, 24, .inl t_unlike)), (h_u_letters, .inl (cI, 24, .inl u_letters)), (h_u, .inr (6, [.ref h_u_letters, .ref h_u_settings, .int u_size])), (h_u_settings, .inl (cI, 5, .inl u_settings))] H := hP
  have hD : va_D A [(h_t, .inr (4, [.ref h_t_standing, .ref h_t_unlike, .ref h_t_blocks, .ref h_t_ends, .ref h_t_prices, .int u_size, .int o14, .int o15, .int o16, .int t_number])), (h_t_standing, .inl (cI, 4, .inl t_standing)), (h_t_unlike, .inl (cI, 24, .inl t_unlike)), (h_u_letters, .inl (cI, 24, .inl u_letters)), (h_u, .inr (6, [.ref h_u_letters, .ref h_u_settings, .int u_size])), (h_u_settings, .inl (cI, 5, .inl u_settings))] := hD
  refine lv_iconst (v := (0 : Int32)) hx hb dX5_look_35 (by decide) ?_
  refine lv_istore_n (lv' := [(2, .int (0 : Int32)), (0, .ref h_t), (1, .ref h_u)]) hx hb dX5_look_36 rfl hl (by decide) rfl (fun ls hl => ?_)
  exact hL37 FU (0 : Int32) u_size o14 o15 o16 t_standing t_unlike H locs ls hres (hP.sub [0, 1, 2, 4, 3, 5] rfl) (hD.sub [0, 1, 2, 4, 3, 5] (by decide) rfl) hS (lv_sub hl [1, 2, 0] rfl)
