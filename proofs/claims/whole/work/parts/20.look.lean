-- St_letter
def fSt_letter (t_size : Int32) (t_letters : Nat → Int32) (x1 : Int32) : Option (Int32) :=
  if x1 < 0 then
    some (-1 : Int32)
  else
    if t_size ≤ x1 then
      some (-1 : Int32)
    else
      if (24 : Int32) ≤ x1 then
        some (-1 : Int32)
      else
        if bIn x1 24 = true then
          some (rd t_letters x1)
        else none
theorem kSt_letter_X7_letter_0 : Cond.fieldLink RX7 18 "RepeatNests$State" "size" "I" ∈ wsX7_letter := by decide +kernel
theorem iSt_letter_X7_letter_1 : ∀ w ∈ wsX70, w ∈ wsX7_letter := by decide +kernel
theorem kSt_letter_X7_letter_2 : Cond.fieldLink RX7 9 "RepeatNests$State" "letters" "[I" ∈ wsX7_letter := by decide +kernel
set_option maxHeartbeats 4000000 in
set_option maxRecDepth 100000 in
theorem cSt_letter (l : Launch) (dC : Nat → ClassId) (dI : Nat → Nat → Nat) (cI cJ cC cS : ClassId) (h_t h_t_letters h_t_settings : Nat) (sz : Nat) (t_size : Int32) (t_letters : Nat → Int32) (x1 : Int32) (r : Int32) (hres : fSt_letter t_size t_letters x1 = some r) :
    Met l yX7_letter wsX7_letter ({ frames := 0, cells := 0, slots := 0, locals := 0 } : Room) (va_Pc [.ref h_t, .int x1] (fun (U : State) => U.heap.size = sz ∧ va_P (dC, dI) vwCl [(h_t, .inr (6, [.ref h_t_letters, .ref h_t_settings, .int t_size])), (h_t_letters, .inl (cI, 24, .inl t_letters))] U.heap ∧ va_K (dC, dI) vwCl (tyA cI cJ cC cS) U ∧ nwN U ∧ va_D (fun _ => True) [(h_t, .inr (6, [.ref h_t_letters, .ref h_t_settings, .int t_size])), (h_t_letters, .inl (cI, 24, .inl t_letters))])) (va_Qi (fun (r9 : Int32) (_ : Unit) => r9 = r) (fun (_ : Unit) (t : State) => va_P (dC, dI) vwCl [(h_t, .inr (6, [.ref h_t_letters, .ref h_t_settings, .int t_size])), (h_t_letters, .inl (cI, 24, .inl t_letters))] t.heap ∧ va_K (dC, dI) vwCl (tyA cI cJ cC cS) t ∧ va_D (va_A [(h_t, .inr (6, [.ref h_t_letters, .ref h_t_settings, .int t_size])), (h_t_letters, .inl (cI, 24, .inl t_letters))] sz) [(h_t, .inr (6, [.ref h_t_letters, .ref h_t_settings, .int t_size])), (h_t_letters, .inl (cI, 24, .inl t_letters))]) (va_A [(h_t, .inr (6, [.ref h_t_letters, .ref h_t_settings, .int t_size])), (h_t_letters, .inl (cI, 24, .inl t_letters))] sz)) 0 0 (va_A [(h_t, .inr (6, [.ref h_t_letters, .ref h_t_settings, .int t_size])), (h_t_letters, .inl (cI, 24, .inl t_letters))] sz) := by
  refine Met.ofW (cc := cX7_letter) (maxL := 2) (ret := (some .int)) (by decide) rfl ?_
  intro p e s m args below meth c s₁ B hml hv
  obtain ⟨hargs, hsz, hP, hK, hN, hD0⟩ := hv
  have hx := B.exec
  have hb := B.bytes
  have hr := B.returns
  have hts := atoms_spec (ws := wsX7_letter) B.pre
  have hown : s.vm.findClass RX7 = some m.cls := findClass_of_methodNamed B.named
  have hlocks := B.notSynchronized
  subst hsz
  have hD := hD0.self (sz := s.heap.size)
  generalize hAe : va_A [(h_t, .inr (6, [.ref h_t_letters, .ref h_t_settings, .int t_size])), (h_t_letters, .inl (cI, 24, .inl t_letters))] s.heap.size = A at hD ⊢
  have hA : ∀ q : Nat, s.heap.size ≤ q → A q := fun q h => by rw [← hAe]; exact Or.inr h
  have hS : va_S A s.heap s.heap [] := va_S.rf
  have hP : va_P (dC, dI) vwCl [(h_t, .inr (6, [.ref h_t_letters, .ref h_t_settings, .int t_size])), (h_t_letters, .inl (cI, 24, .inl t_letters))] s.heap := hP
  have hl := lv_entry [.ref h_t, .int x1] (n := 2) (Nat.le_of_ble_eq_true rfl)
  rw [show entryFrame m args 2 = entryFrame m ([.ref h_t, .int x1] : List Value).toArray 2 from by rw [hargs], lg_entry_eq]
  generalize (lg_sl [.ref h_t, .int x1] ++ List.replicate (2 - (lg_sl [.ref h_t, .int x1]).length) Slot.unset).toArray = ls at hl ⊢
  have hl : lv_has ls 2 [(0, .ref h_t), (1, .int x1)] := hl
  generalize hQQ : MQ below (va_Qi (fun (r9 : Int32) (_ : Unit) => r9 = r) (fun (_ : Unit) (t : State) => va_P (dC, dI) vwCl [(h_t, .inr (6, [.ref h_t_letters, .ref h_t_settings, .int t_size])), (h_t_letters, .inl (cI, 24, .inl t_letters))] t.heap ∧ va_K (dC, dI) vwCl (tyA cI cJ cC cS) t ∧ va_D A [(h_t, .inr (6, [.ref h_t_letters, .ref h_t_settings, .int t_size])), (h_t_letters, .inl (cI, 24, .inl t_letters))]) A) args s 0 0 A = QQ
  obtain ⟨H, hH⟩ : ∃ H : Heap, H = s.heap := ⟨_, rfl⟩
  obtain ⟨locs, hlocs⟩ : ∃ locs : List Loc, locs = [] := ⟨_, rfl⟩
  rw [← hH] at hP
  have hS : va_S A s.heap H locs := by rw [hH, hlocs]; exact hS
  suffices hZ : W p l e (headSpec wsX7_letter ({ frames := 0, cells := 0, slots := 0, locals := 0 } : Room)).room s m args below meth c H locs 0 0 QQ (F0 m 0 ls []) by rw [hH, hlocs] at hZ; exact hZ
  clear hH hlocs
  rw [fSt_letter] at hres
  refine lv_iload_n hx hb dX7_letter_0 rfl (lv_at hl 1 rfl) ?_
  refine lv_if_lt (tgt := 27) hx hb dX7_letter_1 (by decide) (fun c_1 => ?_) (fun c_1 => ?_)
  · have hres := it_of hres c_1
    refine lv_iconst (v := (-1 : Int32)) hx hb dX7_letter_27 (by decide) ?_
    have e9_0 := Option.some.inj hres
    subst e9_0
    rw [← hQQ]
    exact W.iret (v := (-1 : Int32)) hx hb hr (fun t ht hW => ⟨⟨(-1 : Int32), (), rfl, rfl, by rw [ht]; exact hP, va_K.moved hW.alike hK, hD⟩, hS.F ht⟩) hS.2.2 dX7_letter_28
  · have hres := ie_of hres c_1
    refine lv_iload_n hx hb dX7_letter_4 rfl (lv_at hl 1 rfl) ?_
    refine lv_aload_n hx hb dX7_letter_5 rfl (lv_at hl 0 rfl) ?_
    refine va_get (D := (dC, dI)) (ci := 6) (v := .int t_size) (C := RX7) (T := TX7) (N := 3) hx hb hts iSt_letter_X7_letter_1 hown hK hP 0 rfl rfl 2 (by decide) (hts _ kSt_letter_X7_letter_0) (fun _ h9 => h9) rfl dX7_letter_6 ?_
    refine lv_icmp_ge (tgt := 27) hx hb dX7_letter_9 (by decide) (fun c_2 => ?_) (fun c_2 => ?_)
    · have hres := it_of hres c_2
      refine lv_iconst (v := (-1 : Int32)) hx hb dX7_letter_27 (by decide) ?_
      have e9_0 := Option.some.inj hres
      subst e9_0
      rw [← hQQ]
      exact W.iret (v := (-1 : Int32)) hx hb hr (fun t ht hW => ⟨⟨(-1 : Int32), (), rfl, rfl, by rw [ht]; exact hP, va_K.moved hW.alike hK, hD⟩, hS.F ht⟩) hS.2.2 dX7_letter_28
    · have hres := ie_of hres c_2
      refine lv_iload_n hx hb dX7_letter_12 rfl (lv_at hl 1 rfl) ?_
      refine lv_bipush (v := (24 : Int32)) hx hb dX7_letter_13 (by decide) ?_
      refine lv_icmp_ge (tgt := 27) hx hb dX7_letter_15 (by decide) (fun c_3 => ?_) (fun c_3 => ?_)
      · have hres := it_of hres c_3
        refine lv_iconst (v := (-1 : Int32)) hx hb dX7_letter_27 (by decide) ?_
        have e9_0 := Option.some.inj hres
        subst e9_0
        rw [← hQQ]
        exact W.iret (v := (-1 : Int32)) hx hb hr (fun t ht hW => ⟨⟨(-1 : Int32), (), rfl, rfl, by rw [ht]; exact hP, va_K.moved hW.alike hK, hD⟩, hS.F ht⟩) hS.2.2 dX7_letter_28
      · have hres := ie_of hres c_3
        refine lv_aload_n hx hb dX7_letter_18 rfl (lv_at hl 0 rfl) ?_
        refine va_get (D := (dC, dI)) (ci := 6) (v := .ref h_t_letters) (C := RX7) (T := TX7) (N := 3) hx hb hts iSt_letter_X7_letter_1 hown hK hP 0 rfl rfl 0 (by decide) (hts _ kSt_letter_X7_letter_2) (fun _ h9 => h9) rfl dX7_letter_19 ?_
        refine lv_iload_n hx hb dX7_letter_22 rfl (lv_at hl 1 rfl) ?_
        obtain ⟨c_4, hres⟩ := ck_of hres
        refine va_iald hx hb hK hP 1 0 rfl rfl c_4 dX7_letter_23 ?_
        refine lv_goto (tgt := 28) hx hb dX7_letter_24 (by decide) ?_
        have e9_0 := Option.some.inj hres
        subst e9_0
        rw [← hQQ]
        exact W.iret (v := (rd t_letters x1)) hx hb hr (fun t ht hW => ⟨⟨(rd t_letters x1), (), rfl, rfl, by rw [ht]; exact hP, va_K.moved hW.alike hK, hD⟩, hS.F ht⟩) hS.2.2 dX7_letter_28
-- St_unlikeLetters
def fSt_unlikeLetters_8 (t_size : Int32) (t_letters : Nat → Int32) (x2 : Int32) (x3 : Int32) : Nat → Int32 → Int32 → Option (Int32)
  | 0, _, _ => none
  | n + 1, x4, x5 =>
    if x2 ≤ x5 then
      some x4
    else
      (fSt_letter t_size t_letters x5).bind fun o2 =>
        (fSt_letter t_size t_letters (x5 - x3)).bind fun o3 =>
          if o2 = o3 then
            fSt_unlikeLetters_8 t_size t_letters x2 x3 n x4 (x5 + 1)
          else
            fSt_unlikeLetters_8 t_size t_letters x2 x3 n (x4 + 1) (x5 + 1)
def fSt_unlikeLetters (t_size : Int32) (t_letters : Nat → Int32) (x1 : Int32) (x2 : Int32) (x3 : Int32) : Option (Int32) :=
  fSt_unlikeLetters_8 t_size t_letters x2 x3 FU (0 : Int32) (x1 + x3)

set_option maxHeartbeats 4000000 in
set_option maxRecDepth 100000 in
theorem cSt_unlikeLetters (l : Launch) (dC : Nat → ClassId) (dI : Nat → Nat → Nat) (cI cJ cC cS : ClassId) (h_t h_t_letters h_t_settings : Nat) (sz : Nat) (t_size : Int32) (t_letters : Nat → Int32) (x1 : Int32) (x2 : Int32) (x3 : Int32) (r : Int32) (hres : fSt_unlikeLetters t_size t_letters x1 x2 x3 = some r) :
    Met l yX7_unlikeLetters wsX7_unlikeLetters ({ frames := 1, cells := 0, slots := 0, locals := 21 } : Room) (va_Pc [.ref h_t, .int x1, .int x2, .int x3] (fun (U : State) => U.heap.size = sz ∧ va_P (dC, dI) vwCl [(h_t, .inr (6, [.ref h_t_letters, .ref h_t_settings, .int t_size])), (h_t_letters, .inl (cI, 24, .inl t_letters))] U.heap ∧ va_K (dC, dI) vwCl (tyA cI cJ cC cS) U ∧ nwN U ∧ va_D (fun _ => True) [(h_t, .inr (6, [.ref h_t_letters, .ref h_t_settings, .int t_size])), (h_t_letters, .inl (cI, 24, .inl t_letters))])) (va_Qi (fun (r9 : Int32) (_ : Unit) => r9 = r) (fun (_ : Unit) (t : State) => va_P (dC, dI) vwCl [(h_t, .inr (6, [.ref h_t_letters, .ref h_t_settings, .int t_size])), (h_t_letters, .inl (cI, 24, .inl t_letters))] t.heap ∧ va_K (dC, dI) vwCl (tyA cI cJ cC cS) t ∧ va_D (va_A [(h_t, .inr (6, [.ref h_t_letters, .ref h_t_settings, .int t_size])), (h_t_letters, .inl (cI, 24, .inl t_letters))] sz) [(h_t, .inr (6, [.ref h_t_letters, .ref h_t_settings, .int t_size])), (h_t_letters, .inl (cI, 24, .inl t_letters))]) (va_A [(h_t, .inr (6, [.ref h_t_letters, .ref h_t_settings, .int t_size])), (h_t_letters, .inl (cI, 24, .inl t_letters))] sz)) 0 0 (va_A [(h_t, .inr (6, [.ref h_t_letters, .ref h_t_settings, .int t_size])), (h_t_letters, .inl (cI, 24, .inl t_letters))] sz) := by
  refine Met.ofW (cc := cX7_unlikeLetters) (maxL := 6) (ret := (some .int)) (by decide) rfl ?_
  intro p e s m args below meth c s₁ B hml hv
  obtain ⟨hargs, hsz, hP, hK, hN, hD0⟩ := hv
  have hx := B.exec
  have hb := B.bytes
  have hr := B.returns
  have hts := atoms_spec (ws := wsX7_unlikeLetters) B.pre
  have hown : s.vm.findClass RX7 = some m.cls := findClass_of_methodNamed B.named
  have hlocks := B.notSynchronized
  subst hsz
  have hD := hD0.self (sz := s.heap.size)
  generalize hAe : va_A [(h_t, .inr (6, [.ref h_t_letters, .ref h_t_settings, .int t_size])), (h_t_letters, .inl (cI, 24, .inl t_letters))] s.heap.size = A at hD ⊢
  have hA : ∀ q : Nat, s.heap.size ≤ q → A q := fun q h => by rw [← hAe]; exact Or.inr h
  have hS : va_S A s.heap s.heap [] := va_S.rf
  have hP : va_P (dC, dI) vwCl [(h_t, .inr (6, [.ref h_t_letters, .ref h_t_settings, .int t_size])), (h_t_letters, .inl (cI, 24, .inl t_letters))] s.heap := hP
  have hl := lv_entry [.ref h_t, .int x1, .int x2, .int x3] (n := 6) (Nat.le_of_ble_eq_true rfl)
  rw [show entryFrame m args 6 = entryFrame m ([.ref h_t, .int x1, .int x2, .int x3] : List Value).toArray 6 from by rw [hargs], lg_entry_eq]
  generalize (lg_sl [.ref h_t, .int x1, .int x2, .int x3] ++ List.replicate (6 - (lg_sl [.ref h_t, .int x1, .int x2, .int x3]).length) Slot.unset).toArray = ls at hl ⊢
  have hl : lv_has ls 6 [(0, .ref h_t), (1, .int x1), (2, .int x2), (3, .int x3)] := hl
  generalize hQQ : MQ below (va_Qi (fun (r9 : Int32) (_ : Unit) => r9 = r) (fun (_ : Unit) (t : State) => va_P (dC, dI) vwCl [(h_t, .inr (6, [.ref h_t_letters, .ref h_t_settings, .int t_size])), (h_t_letters, .inl (cI, 24, .inl t_letters))] t.heap ∧ va_K (dC, dI) vwCl (tyA cI cJ cC cS) t ∧ va_D A [(h_t, .inr (6, [.ref h_t_letters, .ref h_t_settings, .int t_size])), (h_t_letters, .inl (cI, 24, .inl t_letters))]) A) args s 0 0 A = QQ
  obtain ⟨H, hH⟩ : ∃ H : Heap, H = s.heap := ⟨_, rfl⟩
  obtain ⟨locs, hlocs⟩ : ∃ locs : List Loc, locs = [] := ⟨_, rfl⟩
  rw [← hH] at hP
  have hS : va_S A s.heap H locs := by rw [hH, hlocs]; exact hS
  suffices hZ : W p l e (headSpec wsX7_unlikeLetters ({ frames := 1, cells := 0, slots := 0, locals := 21 } : Room)).room s m args below meth c H locs 0 0 QQ (F0 m 0 ls []) by rw [hH, hlocs] at hZ; exact hZ
  clear hH hlocs
  have hL8 : ∀ (n8 : Nat) , ∀ (x4 : Int32) (x5 : Int32) (H : Heap) (locs : List Loc) (ls : Array Slot), fSt_unlikeLetters_8 t_size t_letters x2 x3 n8 x4 x5 = some r → va_P (dC, dI) vwCl [(h_t, .inr (6, [.ref h_t_letters, .ref h_t_settings, .int t_size])), (h_t_letters, .inl (cI, 24, .inl t_letters))] H → va_D A [(h_t, .inr (6, [.ref h_t_letters, .ref h_t_settings, .int t_size])), (h_t_letters, .inl (cI, 24, .inl t_letters))] → va_S A s.heap H locs → lv_has ls 6 [(0, .ref h_t), (2, .int x2), (3, .int x3), (4, .int x4), (5, .int x5)] → W p l e (headSpec wsX7_unlikeLetters ({ frames := 1, cells := 0, slots := 0, locals := 21 } : Room)).room s m args below meth c H locs 0 0 QQ (F0 m 8 ls []) := by
    intro n8
    induction n8 with
    | zero =>
      intro x4 x5 H locs ls hres
      rw [fSt_unlikeLetters_8] at hres
      cases hres
    | succ n8 ih8 =>
      intro x4 x5 H locs ls hres hP hD hS hl
      rw [fSt_unlikeLetters_8] at hres
      refine lv_iload hx hb dX7_unlikeLetters_8 (lv_at hl 4 rfl) ?_
      refine lv_iload_n hx hb dX7_unlikeLetters_10 rfl (lv_at hl 1 rfl) ?_
      refine lv_icmp_ge (tgt := 40) hx hb dX7_unlikeLetters_11 (by decide) (fun c_1 => ?_) (fun c_1 => ?_)
      · have hres := it_of hres c_1
        refine lv_iload hx hb dX7_unlikeLetters_40 (lv_at hl 3 rfl) ?_
        have e9_0 := Option.some.inj hres
        subst e9_0
        rw [← hQQ]
        exact W.iret (v := x4) hx hb hr (fun t ht hW => ⟨⟨x4, (), rfl, rfl, by rw [ht]; exact hP, va_K.moved hW.alike hK, hD⟩, hS.F ht⟩) hS.2.2 dX7_unlikeLetters_42
      · have hres := ie_of hres c_1
        refine lv_aload_n hx hb dX7_unlikeLetters_14 rfl (lv_at hl 0 rfl) ?_
        refine lv_iload hx hb dX7_unlikeLetters_15 (lv_at hl 4 rfl) ?_
        obtain ⟨o2, ho2, hres⟩ := bd_of hres
        have hPc := hP.sub (ws' := [(h_t, .inr (6, [.ref h_t_letters, .ref h_t_settings, .int t_size])), (h_t_letters, .inl (cI, 24, .inl t_letters))]) [0, 1] rfl
        have hDc := hD.sub (ws' := [(h_t, .inr (6, [.ref h_t_letters, .ref h_t_settings, .int t_size])), (h_t_letters, .inl (cI, 24, .inl t_letters))]) [0, 1] (by decide) rfl
        have hFc := va_free (wc := [(h_t, .inr (6, [.ref h_t_letters, .ref h_t_settings, .int t_size])), (h_t_letters, .inl (cI, 24, .inl t_letters))]) hD hS hA [0, 1] rfl
        refine va_calli (va_runV (As := [.int x5]) (rest := []) ⟨hx, hb, hml, hown, hts⟩ (cSt_letter l dC dI cI cJ cC cS h_t h_t_letters h_t_settings H.size t_size t_letters x5 o2 ho2) (cwV 1 hts gX7_unlikeLetters_X7_letter rfl rfl rfl (by decide +kernel) ⟨Nat.le_of_ble_eq_true rfl, Nat.le_of_ble_eq_true rfl⟩) ⟨fun a U g mk q => by obtain ⟨q0, q1, qP, qK, qN, qD⟩ := q; exact ⟨q0, q1, qP, va_K.moved (u := U) (U := U.calling g mk a) (Vm.Alike.refl U.vm) qK, nwS (u := U) (U := U.calling g mk a) rfl qN, qD⟩, va_recv hK hPc (ci := 6) (q0 := 0) rfl rfl, fun U hU hW => ⟨rfl, by rw [hU], by rw [hU]; exact hPc, va_K.moved hW.alike hK, nwW hW hN, hDc.weaken (fun _ _ _ _ => trivial)⟩⟩ rfl rfl hl.1 rfl (lv_room (Nat.le_of_ble_eq_true rfl)) dX7_unlikeLetters_17 ⟨Nat.zero_le _, Nat.zero_le _⟩) hS (fun q _ h => hFc q h) hFc (fun r9 u9 t H1 locs ht hvm hw hB hz1 hk1 hS => ?_)
        subst hw
        obtain ⟨hP1, hK1, hD1⟩ := hB
        rw [ht] at hP1
        obtain ⟨hP, hD⟩ := va_join (wr := []) (w1 := [(h_t, .inr (6, [.ref h_t_letters, .ref h_t_settings, .int t_size])), (h_t_letters, .inl (cI, 24, .inl t_letters))]) hP hD [0, 1] [] rfl rfl (by decide) (by decide) hk1 hFc hP1 hD1
        generalize H1 = H at hP hS ⊢
        have hP : va_P (dC, dI) vwCl [(h_t, .inr (6, [.ref h_t_letters, .ref h_t_settings, .int t_size])), (h_t_letters, .inl (cI, 24, .inl t_letters))] H := hP
        have hD : va_D A [(h_t, .inr (6, [.ref h_t_letters, .ref h_t_settings, .int t_size])), (h_t_letters, .inl (cI, 24, .inl t_letters))] := hD
        refine lv_aload_n hx hb dX7_unlikeLetters_20 rfl (lv_at hl 0 rfl) ?_
        refine lv_iload hx hb dX7_unlikeLetters_21 (lv_at hl 4 rfl) ?_
        refine lv_iload_n hx hb dX7_unlikeLetters_23 rfl (lv_at hl 2 rfl) ?_
        refine lv_isub hx hb dX7_unlikeLetters_24 ?_
        obtain ⟨o3, ho3, hres⟩ := bd_of hres
        have hPc := hP.sub (ws' := [(h_t, .inr (6, [.ref h_t_letters, .ref h_t_settings, .int t_size])), (h_t_letters, .inl (cI, 24, .inl t_letters))]) [0, 1] rfl
        have hDc := hD.sub (ws' := [(h_t, .inr (6, [.ref h_t_letters, .ref h_t_settings, .int t_size])), (h_t_letters, .inl (cI, 24, .inl t_letters))]) [0, 1] (by decide) rfl
        have hFc := va_free (wc := [(h_t, .inr (6, [.ref h_t_letters, .ref h_t_settings, .int t_size])), (h_t_letters, .inl (cI, 24, .inl t_letters))]) hD hS hA [0, 1] rfl
        refine va_calli (va_runV (As := [.int (x5 - x3)]) (rest := [.int o2]) ⟨hx, hb, hml, hown, hts⟩ (cSt_letter l dC dI cI cJ cC cS h_t h_t_letters h_t_settings H.size t_size t_letters (x5 - x3) o3 ho3) (cwV 1 hts gX7_unlikeLetters_X7_letter rfl rfl rfl (by decide +kernel) ⟨Nat.le_of_ble_eq_true rfl, Nat.le_of_ble_eq_true rfl⟩) ⟨fun a U g mk q => by obtain ⟨q0, q1, qP, qK, qN, qD⟩ := q; exact ⟨q0, q1, qP, va_K.moved (u := U) (U := U.calling g mk a) (Vm.Alike.refl U.vm) qK, nwS (u := U) (U := U.calling g mk a) rfl qN, qD⟩, va_recv hK hPc (ci := 6) (q0 := 0) rfl rfl, fun U hU hW => ⟨rfl, by rw [hU], by rw [hU]; exact hPc, va_K.moved hW.alike hK, nwW hW hN, hDc.weaken (fun _ _ _ _ => trivial)⟩⟩ rfl rfl hl.1 rfl (lv_room (Nat.le_of_ble_eq_true rfl)) dX7_unlikeLetters_25 ⟨Nat.zero_le _, Nat.zero_le _⟩) hS (fun q _ h => hFc q h) hFc (fun r9 u9 t H1 locs ht hvm hw hB hz1 hk1 hS => ?_)
        subst hw
        obtain ⟨hP1, hK1, hD1⟩ := hB
        rw [ht] at hP1
        obtain ⟨hP, hD⟩ := va_join (wr := []) (w1 := [(h_t, .inr (6, [.ref h_t_letters, .ref h_t_settings, .int t_size])), (h_t_letters, .inl (cI, 24, .inl t_letters))]) hP hD [0, 1] [] rfl rfl (by decide) (by decide) hk1 hFc hP1 hD1
        generalize H1 = H at hP hS ⊢
        have hP : va_P (dC, dI) vwCl [(h_t, .inr (6, [.ref h_t_letters, .ref h_t_settings, .int t_size])), (h_t_letters, .inl (cI, 24, .inl t_letters))] H := hP
        have hD : va_D A [(h_t, .inr (6, [.ref h_t_letters, .ref h_t_settings, .int t_size])), (h_t_letters, .inl (cI, 24, .inl t_letters))] := hD
        refine lv_icmp_eq (tgt := 34) hx hb dX7_unlikeLetters_28 (by decide) (fun c_4 => ?_) (fun c_4 => ?_)
        · have hres := it_of hres c_4
          refine lv_iinc (v := (x5 + 1)) (lv' := [(5, .int (x5 + 1)), (0, .ref h_t), (2, .int x2), (3, .int x3), (4, .int x4)]) hx hb dX7_unlikeLetters_34 hl (k := 4) rfl rfl (by decide) rfl (fun ls hl => ?_)
          refine lv_goto (tgt := 8) hx hb dX7_unlikeLetters_37 (by decide) ?_
          exact ih8 x4 (x5 + 1) H locs ls hres hP hD hS (lv_sub hl [1, 2, 3, 4, 0] rfl)
        · have hres := ie_of hres c_4
          refine lv_iinc (v := (x4 + 1)) (lv' := [(4, .int (x4 + 1)), (0, .ref h_t), (2, .int x2), (3, .int x3), (5, .int x5)]) hx hb dX7_unlikeLetters_31 hl (k := 3) rfl rfl (by decide) rfl (fun ls hl => ?_)
          refine lv_iinc (v := (x5 + 1)) (lv' := [(5, .int (x5 + 1)), (4, .int (x4 + 1)), (0, .ref h_t), (2, .int x2), (3, .int x3)]) hx hb dX7_unlikeLetters_34 hl (k := 4) rfl rfl (by decide) rfl (fun ls hl => ?_)
          refine lv_goto (tgt := 8) hx hb dX7_unlikeLetters_37 (by decide) ?_
          exact ih8 (x4 + 1) (x5 + 1) H locs ls hres hP hD hS (lv_sub hl [2, 3, 4, 1, 0] rfl)
  rw [fSt_unlikeLetters] at hres
  refine lv_iconst (v := (0 : Int32)) hx hb dX7_unlikeLetters_0 (by decide) ?_
  refine lv_istore (lv' := [(4, .int (0 : Int32)), (0, .ref h_t), (1, .int x1), (2, .int x2), (3, .int x3)]) hx hb dX7_unlikeLetters_1 hl (by decide) rfl (fun ls hl => ?_)
  refine lv_iload_n hx hb dX7_unlikeLetters_3 rfl (lv_at hl 2 rfl) ?_
  refine lv_iload_n hx hb dX7_unlikeLetters_4 rfl (lv_at hl 4 rfl) ?_
  refine lv_iadd hx hb dX7_unlikeLetters_5 ?_
  refine lv_istore (lv' := [(5, .int (x1 + x3)), (4, .int (0 : Int32)), (0, .ref h_t), (1, .int x1), (2, .int x2), (3, .int x3)]) hx hb dX7_unlikeLetters_6 hl (by decide) rfl (fun ls hl => ?_)
  exact hL8 FU (0 : Int32) (x1 + x3) H locs ls hres hP hD hS (lv_sub hl [2, 4, 5, 1, 0] rfl)
-- St_leastPeriod
def fSt_leastPeriod_2 (t_size : Int32) (t_letters : Nat → Int32) (x1 : Int32) (x2 : Int32) : Nat → Int32 → Option (Int32)
  | 0, _ => none
  | n + 1, x3 =>
    if (x2 - x1) ≤ x3 then
      some (x2 - x1)
    else
      (fSt_unlikeLetters t_size t_letters x1 x2 x3).bind fun o2 =>
        if o2 = 0 then
          some x3
        else
          fSt_leastPeriod_2 t_size t_letters x1 x2 n (x3 + 1)
def fSt_leastPeriod (t_size : Int32) (t_letters : Nat → Int32) (x1 : Int32) (x2 : Int32) : Option (Int32) :=
  fSt_leastPeriod_2 t_size t_letters x1 x2 FU (1 : Int32)

set_option maxHeartbeats 4000000 in
set_option maxRecDepth 100000 in
theorem cSt_leastPeriod (l : Launch) (dC : Nat → ClassId) (dI : Nat → Nat → Nat) (cI cJ cC cS : ClassId) (h_t h_t_letters h_t_settings : Nat) (sz : Nat) (t_size : Int32) (t_letters : Nat → Int32) (x1 : Int32) (x2 : Int32) (r : Int32) (hres : fSt_leastPeriod t_size t_letters x1 x2 = some r) :
    Met l yX7_leastPeriod wsX7_leastPeriod ({ frames := 2, cells := 0, slots := 0, locals := 46 } : Room) (va_Pc [.ref h_t, .int x1, .int x2] (fun (U : State) => U.heap.size = sz ∧ va_P (dC, dI) vwCl [(h_t, .inr (6, [.ref h_t_letters, .ref h_t_settings, .int t_size])), (h_t_letters, .inl (cI, 24, .inl t_letters))] U.heap ∧ va_K (dC, dI) vwCl (tyA cI cJ cC cS) U ∧ nwN U ∧ va_D (fun _ => True) [(h_t, .inr (6, [.ref h_t_letters, .ref h_t_settings, .int t_size])), (h_t_letters, .inl (cI, 24, .inl t_letters))])) (va_Qi (fun (r9 : Int32) (_ : Unit) => r9 = r) (fun (_ : Unit) (t : State) => va_P (dC, dI) vwCl [(h_t, .inr (6, [.ref h_t_letters, .ref h_t_settings, .int t_size])), (h_t_letters, .inl (cI, 24, .inl t_letters))] t.heap ∧ va_K (dC, dI) vwCl (tyA cI cJ cC cS) t ∧ va_D (va_A [(h_t, .inr (6, [.ref h_t_letters, .ref h_t_settings, .int t_size])), (h_t_letters, .inl (cI, 24, .inl t_letters))] sz) [(h_t, .inr (6, [.ref h_t_letters, .ref h_t_settings, .int t_size])), (h_t_letters, .inl (cI, 24, .inl t_letters))]) (va_A [(h_t, .inr (6, [.ref h_t_letters, .ref h_t_settings, .int t_size])), (h_t_letters, .inl (cI, 24, .inl t_letters))] sz)) 0 0 (va_A [(h_t, .inr (6, [.ref h_t_letters, .ref h_t_settings, .int t_size])), (h_t_letters, .inl (cI, 24, .inl t_letters))] sz) := by
  refine Met.ofW (cc := cX7_leastPeriod) (maxL := 4) (ret := (some .int)) (by decide) rfl ?_
  intro p e s m args below meth c s₁ B hml hv
  obtain ⟨hargs, hsz, hP, hK, hN, hD0⟩ := hv
  have hx := B.exec
  have hb := B.bytes
  have hr := B.returns
  have hts := atoms_spec (ws := wsX7_leastPeriod) B.pre
  have hown : s.vm.findClass RX7 = some m.cls := findClass_of_methodNamed B.named
  have hlocks := B.notSynchronized
  subst hsz
  have hD := hD0.self (sz := s.heap.size)
  generalize hAe : va_A [(h_t, .inr (6, [.ref h_t_letters, .ref h_t_settings, .int t_size])), (h_t_letters, .inl (cI, 24, .inl t_letters))] s.heap.size = A at hD ⊢
  have hA : ∀ q : Nat, s.heap.size ≤ q → A q := fun q h => by rw [← hAe]; exact Or.inr h
  have hS : va_S A s.heap s.heap [] := va_S.rf
  have hP : va_P (dC, dI) vwCl [(h_t, .inr (6, [.ref h_t_letters, .ref h_t_settings, .int t_size])), (h_t_letters, .inl (cI, 24, .inl t_letters))] s.heap := hP
  have hl := lv_entry [.ref h_t, .int x1, .int x2] (n := 4) (Nat.le_of_ble_eq_true rfl)
  rw [show entryFrame m args 4 = entryFrame m ([.ref h_t, .int x1, .int x2] : List Value).toArray 4 from by rw [hargs], lg_entry_eq]
  generalize (lg_sl [.ref h_t, .int x1, .int x2] ++ List.replicate (4 - (lg_sl [.ref h_t, .int x1, .int x2]).length) Slot.unset).toArray = ls at hl ⊢
  have hl : lv_has ls 4 [(0, .ref h_t), (1, .int x1), (2, .int x2)] := hl
  generalize hQQ : MQ below (va_Qi (fun (r9 : Int32) (_ : Unit) => r9 = r) (fun (_ : Unit) (t : State) => va_P (dC, dI) vwCl [(h_t, .inr (6, [.ref h_t_letters, .ref h_t_settings, .int t_size])), (h_t_letters, .inl (cI, 24, .inl t_letters))] t.heap ∧ va_K (dC, dI) vwCl (tyA cI cJ cC cS) t ∧ va_D A [(h_t, .inr (6, [.ref h_t_letters, .ref h_t_settings, .int t_size])), (h_t_letters, .inl (cI, 24, .inl t_letters))]) A) args s 0 0 A = QQ
  obtain ⟨H, hH⟩ : ∃ H : Heap, H = s.heap := ⟨_, rfl⟩
  obtain ⟨locs, hlocs⟩ : ∃ locs : List Loc, locs = [] := ⟨_, rfl⟩
  rw [← hH] at hP
  have hS : va_S A s.heap H locs := by rw [hH, hlocs]; exact hS
  suffices hZ : W p l e (headSpec wsX7_leastPeriod ({ frames := 2, cells := 0, slots := 0, locals := 46 } : Room)).room s m args below meth c H locs 0 0 QQ (F0 m 0 ls []) by rw [hH, hlocs] at hZ; exact hZ
  clear hH hlocs
  have hL2 : ∀ (n2 : Nat) , ∀ (x3 : Int32) (H : Heap) (locs : List Loc) (ls : Array Slot), fSt_leastPeriod_2 t_size t_letters x1 x2 n2 x3 = some r → va_P (dC, dI) vwCl [(h_t, .inr (6, [.ref h_t_letters, .ref h_t_settings, .int t_size])), (h_t_letters, .inl (cI, 24, .inl t_letters))] H → va_D A [(h_t, .inr (6, [.ref h_t_letters, .ref h_t_settings, .int t_size])), (h_t_letters, .inl (cI, 24, .inl t_letters))] → va_S A s.heap H locs → lv_has ls 4 [(0, .ref h_t), (1, .int x1), (2, .int x2), (3, .int x3)] → W p l e (headSpec wsX7_leastPeriod ({ frames := 2, cells := 0, slots := 0, locals := 46 } : Room)).room s m args below meth c H locs 0 0 QQ (F0 m 2 ls []) := by
    intro n2
    induction n2 with
    | zero =>
      intro x3 H locs ls hres
      rw [fSt_leastPeriod_2] at hres
      cases hres
    | succ n2 ih2 =>
      intro x3 H locs ls hres hP hD hS hl
      rw [fSt_leastPeriod_2] at hres
      refine lv_iload_n hx hb dX7_leastPeriod_2 rfl (lv_at hl 3 rfl) ?_
      refine lv_iload_n hx hb dX7_leastPeriod_3 rfl (lv_at hl 2 rfl) ?_
      refine lv_iload_n hx hb dX7_leastPeriod_4 rfl (lv_at hl 1 rfl) ?_
      refine lv_isub hx hb dX7_leastPeriod_5 ?_
      refine lv_icmp_ge (tgt := 27) hx hb dX7_leastPeriod_6 (by decide) (fun c_1 => ?_) (fun c_1 => ?_)
      · have hres := it_of hres c_1
        refine lv_iload_n hx hb dX7_leastPeriod_27 rfl (lv_at hl 2 rfl) ?_
        refine lv_iload_n hx hb dX7_leastPeriod_28 rfl (lv_at hl 1 rfl) ?_
        refine lv_isub hx hb dX7_leastPeriod_29 ?_
        have e9_0 := Option.some.inj hres
        subst e9_0
        rw [← hQQ]
        exact W.iret (v := (x2 - x1)) hx hb hr (fun t ht hW => ⟨⟨(x2 - x1), (), rfl, rfl, by rw [ht]; exact hP, va_K.moved hW.alike hK, hD⟩, hS.F ht⟩) hS.2.2 dX7_leastPeriod_30
      · have hres := ie_of hres c_1
        refine lv_aload_n hx hb dX7_leastPeriod_9 rfl (lv_at hl 0 rfl) ?_
        refine lv_iload_n hx hb dX7_leastPeriod_10 rfl (lv_at hl 1 rfl) ?_
        refine lv_iload_n hx hb dX7_leastPeriod_11 rfl (lv_at hl 2 rfl) ?_
        refine lv_iload_n hx hb dX7_leastPeriod_12 rfl (lv_at hl 3 rfl) ?_
        obtain ⟨o2, ho2, hres⟩ := bd_of hres
        have hPc := hP.sub (ws' := [(h_t, .inr (6, [.ref h_t_letters, .ref h_t_settings, .int t_size])), (h_t_letters, .inl (cI, 24, .inl t_letters))]) [0, 1] rfl
        have hDc := hD.sub (ws' := [(h_t, .inr (6, [.ref h_t_letters, .ref h_t_settings, .int t_size])), (h_t_letters, .inl (cI, 24, .inl t_letters))]) [0, 1] (by decide) rfl
        have hFc := va_free (wc := [(h_t, .inr (6, [.ref h_t_letters, .ref h_t_settings, .int t_size])), (h_t_letters, .inl (cI, 24, .inl t_letters))]) hD hS hA [0, 1] rfl
        refine va_calli (va_runV (As := [.int x1, .int x2, .int x3]) (rest := []) ⟨hx, hb, hml, hown, hts⟩ (cSt_unlikeLetters l dC dI cI cJ cC cS h_t h_t_letters h_t_settings H.size t_size t_letters x1 x2 x3 o2 ho2) (cwV 3 hts gX7_leastPeriod_X7_unlikeLetters rfl rfl rfl (by decide +kernel) ⟨Nat.le_of_ble_eq_true rfl, Nat.le_of_ble_eq_true rfl⟩) ⟨fun a U g mk q => by obtain ⟨q0, q1, qP, qK, qN, qD⟩ := q; exact ⟨q0, q1, qP, va_K.moved (u := U) (U := U.calling g mk a) (Vm.Alike.refl U.vm) qK, nwS (u := U) (U := U.calling g mk a) rfl qN, qD⟩, va_recv hK hPc (ci := 6) (q0 := 0) rfl rfl, fun U hU hW => ⟨rfl, by rw [hU], by rw [hU]; exact hPc, va_K.moved hW.alike hK, nwW hW hN, hDc.weaken (fun _ _ _ _ => trivial)⟩⟩ rfl rfl hl.1 rfl (lv_room (Nat.le_of_ble_eq_true rfl)) dX7_leastPeriod_13 ⟨Nat.zero_le _, Nat.zero_le _⟩) hS (fun q _ h => hFc q h) hFc (fun r9 u9 t H1 locs ht hvm hw hB hz1 hk1 hS => ?_)
        subst hw
        obtain ⟨hP1, hK1, hD1⟩ := hB
        rw [ht] at hP1
        obtain ⟨hP, hD⟩ := va_join (wr := []) (w1 := [(h_t, .inr (6, [.ref h_t_letters, .ref h_t_settings, .int t_size])), (h_t_letters, .inl (cI, 24, .inl t_letters))]) hP hD [0, 1] [] rfl rfl (by decide) (by decide) hk1 hFc hP1 hD1
        generalize H1 = H at hP hS ⊢
        have hP : va_P (dC, dI) vwCl [(h_t, .inr (6, [.ref h_t_letters, .ref h_t_settings, .int t_size])), (h_t_letters, .inl (cI, 24, .inl t_letters))] H := hP
        have hD : va_D A [(h_t, .inr (6, [.ref h_t_letters, .ref h_t_settings, .int t_size])), (h_t_letters, .inl (cI, 24, .inl t_letters))] := hD
        refine lv_if_ne (tgt := 21) hx hb dX7_leastPeriod_16 (by decide) (fun c_3 => ?_) (fun c_3 => ?_)
        · have hres := ie_of hres c_3
          refine lv_iinc (v := (x3 + 1)) (lv' := [(3, .int (x3 + 1)), (0, .ref h_t), (1, .int x1), (2, .int x2)]) hx hb dX7_leastPeriod_21 hl (k := 3) rfl rfl (by decide) rfl (fun ls hl => ?_)
          refine lv_goto (tgt := 2) hx hb dX7_leastPeriod_24 (by decide) ?_
          exact ih2 (x3 + 1) H locs ls hres hP hD hS (lv_sub hl [1, 2, 3, 0] rfl)
        · have hres := it_of hres c_3
          refine lv_iload_n hx hb dX7_leastPeriod_19 rfl (lv_at hl 3 rfl) ?_
          have e9_0 := Option.some.inj hres
          subst e9_0
          rw [← hQQ]
          exact W.iret (v := x3) hx hb hr (fun t ht hW => ⟨⟨x3, (), rfl, rfl, by rw [ht]; exact hP, va_K.moved hW.alike hK, hD⟩, hS.F ht⟩) hS.2.2 dX7_leastPeriod_20
  rw [fSt_leastPeriod] at hres
  refine lv_iconst (v := (1 : Int32)) hx hb dX7_leastPeriod_0 (by decide) ?_
  refine lv_istore_n (lv' := [(3, .int (1 : Int32)), (0, .ref h_t), (1, .int x1), (2, .int x2)]) hx hb dX7_leastPeriod_1 rfl hl (by decide) rfl (fun ls hl => ?_)
  exact hL2 FU (1 : Int32) H locs ls hres hP hD hS (lv_sub hl [1, 2, 3, 0] rfl)
