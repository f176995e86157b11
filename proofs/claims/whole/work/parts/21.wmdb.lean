-- MD_reads
def fMD_reads_125 (k49 : Int32 → Int32 → Int32 → Int32 → Int32 → Int32 → Int32 → Int32 → Int32 → Int32 → Int32 → (Nat → Int32) → (Nat → Int32) → (Nat → Int32) → (Nat → Int32) → Option (Int32 × Int32 × Int32 × Int32 × Int32 × Int32 × Int32 × Int32 × Int32 × Int32 × Int32 × (Nat → Int32) × (Nat → Int32) × (Nat → Int32) × (Nat → Int32))) (t_at : Int32) (t_ownLength : Int32) (t_depth : Int32) (t_deepest : Int32) (t_letters : Int32) (t_repeats : Int32) (t_corrections : Int32) (t_mostCorrections : Int32) (t_place : Int32) (t_reason : Int32) (t_itemAt : Nat → Int32) (t_levelAt : Nat → Int32) (t_own : Nat → Int32) (t_times : Nat → Int32) : Option (Int32 × Int32 × Int32 × Int32 × Int32 × Int32 × Int32 × Int32 × Int32 × Int32 × Int32 × (Nat → Int32) × (Nat → Int32) × (Nat → Int32) × (Nat → Int32)) :=
    (fMD_faulty t_at (1 : Int32)).bind fun o18 =>
      k49 o18.1 t_at t_ownLength t_depth t_deepest t_letters t_repeats t_corrections t_mostCorrections o18.2.1 o18.2.2 t_itemAt t_levelAt t_own t_times
def fMD_reads_156 (t_typed : Int32) (t_at : Int32) (t_ownLength : Int32) (t_depth : Int32) (t_deepest : Int32) (t_letters : Int32) (t_repeats : Int32) (t_corrections : Int32) (t_mostCorrections : Int32) (t_place : Int32) (t_reason : Int32) (t_itemAt : Nat → Int32) (t_levelAt : Nat → Int32) (t_own : Nat → Int32) (t_times : Nat → Int32) : Option (Int32 × Int32 × Int32 × Int32 × Int32 × Int32 × Int32 × Int32 × Int32 × Int32 × Int32 × (Nat → Int32) × (Nat → Int32) × (Nat → Int32) × (Nat → Int32)) :=
    (fMD_faulty t_typed (1 : Int32)).bind fun o16 =>
      if o16.1 = 0 then
        some ((0 : Int32), t_at, t_ownLength, t_depth, t_deepest, t_letters, t_repeats, t_corrections, t_mostCorrections, o16.2.1, o16.2.2, t_itemAt, t_levelAt, t_own, t_times)
      else
        some ((1 : Int32), t_at, t_ownLength, t_depth, t_deepest, t_letters, t_repeats, t_corrections, t_mostCorrections, o16.2.1, o16.2.2, t_itemAt, t_levelAt, t_own, t_times)
def fMD_reads_138 (t_typed : Int32) (x1 : Int32) (t_at : Int32) (t_ownLength : Int32) (t_depth : Int32) (t_deepest : Int32) (t_letters : Int32) (t_repeats : Int32) (t_corrections : Int32) (t_mostCorrections : Int32) (t_place : Int32) (t_reason : Int32) (t_itemAt : Nat → Int32) (t_levelAt : Nat → Int32) (t_own : Nat → Int32) (t_times : Nat → Int32) : Option (Int32 × Int32 × Int32 × Int32 × Int32 × Int32 × Int32 × Int32 × Int32 × Int32 × Int32 × (Nat → Int32) × (Nat → Int32) × (Nat → Int32) × (Nat → Int32)) :=
    if x1 = 0 then
      some ((0 : Int32), t_at, t_ownLength, t_depth, t_deepest, t_letters, t_repeats, t_corrections, t_mostCorrections, t_place, t_reason, t_itemAt, t_levelAt, t_own, t_times)
    else
      if 0 < t_depth then
        fMD_reads_156 t_typed t_at t_ownLength t_depth t_deepest t_letters t_repeats t_corrections t_mostCorrections t_place t_reason t_itemAt t_levelAt t_own t_times
      else
        if t_typed = 0 then
          fMD_reads_156 t_typed t_at t_ownLength t_depth t_deepest t_letters t_repeats t_corrections t_mostCorrections t_place t_reason t_itemAt t_levelAt t_own t_times
        else
          some ((1 : Int32), t_at, t_ownLength, t_depth, t_deepest, t_letters, t_repeats, t_corrections, t_mostCorrections, t_place, t_reason, t_itemAt, t_levelAt, t_own, t_times)
def fMD_reads_49 (t_typed : Int32) (t_text : Nat → Int32) : Nat → Int32 → Int32 → Int32 → Int32 → Int32 → Int32 → Int32 → Int32 → Int32 → Int32 → Int32 → (Nat → Int32) → (Nat → Int32) → (Nat → Int32) → (Nat → Int32) → Option (Int32 × Int32 × Int32 × Int32 × Int32 × Int32 × Int32 × Int32 × Int32 × Int32 × Int32 × (Nat → Int32) × (Nat → Int32) × (Nat → Int32) × (Nat → Int32))
  | 0, _, _, _, _, _, _, _, _, _, _, _, _, _, _, _ => none
  | n + 1, x1, t_at, t_ownLength, t_depth, t_deepest, t_letters, t_repeats, t_corrections, t_mostCorrections, t_place, t_reason, t_itemAt, t_levelAt, t_own, t_times =>
    if x1 = 0 then
      fMD_reads_138 t_typed x1 t_at t_ownLength t_depth t_deepest t_letters t_repeats t_corrections t_mostCorrections t_place t_reason t_itemAt t_levelAt t_own t_times
    else
      if t_typed ≤ t_at then
        fMD_reads_138 t_typed x1 t_at t_ownLength t_depth t_deepest t_letters t_repeats t_corrections t_mostCorrections t_place t_reason t_itemAt t_levelAt t_own t_times
      else
        (fMD_sign t_typed t_at t_text).bind fun o3 =>
          (fMD_in o3 (97 : Int32) (100 : Int32)).bind fun o4 =>
            if o4 = 0 then
              (fMD_in o3 (49 : Int32) (57 : Int32)).bind fun o6 =>
                if o6 = 0 then
                  if o3 = (41 : Int32) then
                    if t_depth ≤ 0 then
                      fMD_reads_125 (fMD_reads_49 t_typed t_text n) t_at t_ownLength t_depth t_deepest t_letters t_repeats t_corrections t_mostCorrections t_place t_reason t_itemAt t_levelAt t_own t_times
                    else
                      (fMD_endsBlock t_typed t_itemAt t_levelAt t_text t_times t_at t_ownLength t_depth t_corrections t_mostCorrections t_place t_reason t_own).bind fun o10 =>
                        fMD_reads_49 t_typed t_text n o10.1 o10.2.1 o10.2.2.1 o10.2.2.2.1 t_deepest t_letters t_repeats o10.2.2.2.2.1 o10.2.2.2.2.2.1 o10.2.2.2.2.2.2.1 o10.2.2.2.2.2.2.2.1 t_itemAt t_levelAt o10.2.2.2.2.2.2.2.2 t_times
                  else
                    fMD_reads_125 (fMD_reads_49 t_typed t_text n) t_at t_ownLength t_depth t_deepest t_letters t_repeats t_corrections t_mostCorrections t_place t_reason t_itemAt t_levelAt t_own t_times
                else
                  (fMD_opensBlock t_typed t_ownLength t_text t_at t_depth t_deepest t_repeats t_place t_reason t_itemAt t_levelAt t_times).bind fun o11 =>
                    fMD_reads_49 t_typed t_text n o11.1 o11.2.1 t_ownLength o11.2.2.1 o11.2.2.2.1 t_letters o11.2.2.2.2.1 t_corrections t_mostCorrections o11.2.2.2.2.2.1 o11.2.2.2.2.2.2.1 o11.2.2.2.2.2.2.2.1 o11.2.2.2.2.2.2.2.2.1 t_own o11.2.2.2.2.2.2.2.2.2
            else
              (fMD_readsLetter t_typed t_depth t_levelAt t_text t_at t_ownLength t_letters t_place t_reason t_own).bind fun o12 =>
                fMD_reads_49 t_typed t_text n o12.1 o12.2.1 o12.2.2.1 t_depth t_deepest o12.2.2.2.1 t_repeats t_corrections t_mostCorrections o12.2.2.2.2.1 o12.2.2.2.2.2.1 t_itemAt t_levelAt o12.2.2.2.2.2.2 t_times
def fMD_reads (t_typed : Int32) (t_text : Nat → Int32) (t_place : Int32) (t_reason : Int32) (t_itemAt : Nat → Int32) (t_levelAt : Nat → Int32) (t_own : Nat → Int32) (t_times : Nat → Int32) : Option (Int32 × Int32 × Int32 × Int32 × Int32 × Int32 × Int32 × Int32 × Int32 × Int32 × Int32 × (Nat → Int32) × (Nat → Int32) × (Nat → Int32) × (Nat → Int32)) :=
  fMD_reads_49 t_typed t_text FU (1 : Int32) (0 : Int32) (0 : Int32) (0 : Int32) (0 : Int32) (0 : Int32) (0 : Int32) (0 : Int32) (0 : Int32) t_place t_reason t_itemAt (wr t_levelAt (0 : Int32) (0 : Int32)) t_own t_times
theorem kMD_reads_X11_reads_0 : Cond.fieldLink RX11 158 "RepeatNestsModel" "at" "I" ∈ wsX11_reads := by decide +kernel
theorem iMD_reads_X11_reads_1 : ∀ w ∈ wsX110, w ∈ wsX11_reads := by decide +kernel
theorem kMD_reads_X11_reads_2 : Cond.fieldLink RX11 155 "RepeatNestsModel" "typed" "I" ∈ wsX11_reads := by decide +kernel
theorem kMD_reads_X11_reads_3 : Cond.fieldLink RX11 176 "RepeatNestsModel" "depth" "I" ∈ wsX11_reads := by decide +kernel
theorem kMD_reads_X11_reads_4 : Cond.fieldLink RX11 173 "RepeatNestsModel" "ownLength" "I" ∈ wsX11_reads := by decide +kernel
theorem kMD_reads_X11_reads_5 : Cond.fieldLink RX11 186 "RepeatNestsModel" "deepest" "I" ∈ wsX11_reads := by decide +kernel
theorem kMD_reads_X11_reads_6 : Cond.fieldLink RX11 179 "RepeatNestsModel" "letters" "I" ∈ wsX11_reads := by decide +kernel
theorem kMD_reads_X11_reads_7 : Cond.fieldLink RX11 189 "RepeatNestsModel" "repeats" "I" ∈ wsX11_reads := by decide +kernel
theorem kMD_reads_X11_reads_8 : Cond.fieldLink RX11 192 "RepeatNestsModel" "corrections" "I" ∈ wsX11_reads := by decide +kernel
theorem kMD_reads_X11_reads_9 : Cond.fieldLink RX11 199 "RepeatNestsModel" "mostCorrections" "I" ∈ wsX11_reads := by decide +kernel
theorem kMD_reads_X11_reads_10 : Cond.fieldLink RX11 48 "RepeatNestsModel" "levelAt" "[I" ∈ wsX11_reads := by decide +kernel
set_option maxHeartbeats 4000000 in
set_option maxRecDepth 100000 in
theorem cMD_reads (l : Launch) (dC : Nat → ClassId) (dI : Nat → Nat → Nat) (cI cJ cC cS : ClassId) (h_t h_t_s h_t_was h_t_begun h_t_text h_t_wrong h_t_cost h_t_first h_t_block h_t_many h_t_stack h_t_written h_t_own h_t_levelAt h_t_itemAt h_t_times : Nat) (sz : Nat) (t_states : Int32) (t_typed : Int32) (t_height : Int32) (t_length : Int32) (t_at : Int32) (t_ownLength : Int32) (t_depth : Int32) (t_deepest : Int32) (t_letters : Int32) (t_repeats : Int32) (t_corrections : Int32) (t_mostCorrections : Int32) (t_place : Int32) (t_reason : Int32) (t_itemAt : Nat → Int32) (t_levelAt : Nat → Int32) (t_own : Nat → Int32) (t_text : Nat → Int32) (t_times : Nat → Int32) (r : Int32) (y_t_at : Int32) (y_t_ownLength : Int32) (y_t_depth : Int32) (y_t_deepest : Int32) (y_t_letters : Int32) (y_t_repeats : Int32) (y_t_corrections : Int32) (y_t_mostCorrections : Int32) (y_t_place : Int32) (y_t_reason : Int32) (y_t_itemAt : Nat → Int32) (y_t_levelAt : Nat → Int32) (y_t_own : Nat → Int32) (y_t_times : Nat → Int32) (hres : fMD_reads t_typed t_text t_place t_reason t_itemAt t_levelAt t_own t_times = some (r, y_t_at, y_t_ownLength, y_t_depth, y_t_deepest, y_t_letters, y_t_repeats, y_t_corrections, y_t_mostCorrections, y_t_place, y_t_reason, y_t_itemAt, y_t_levelAt, y_t_own, y_t_times)) :
    Met l yX11_reads wsX11_reads ({ frames := 4, cells := 0, slots := 0, locals := 98 } : Room) (va_Pc [.ref h_t] (fun (U : State) => U.heap.size = sz ∧ va_P (dC, dI) vwCl [(h_t, .inr (10, [.ref h_t_s, .ref h_t_was, .ref h_t_begun, .int t_states, .ref h_t_text, .int t_typed, .ref h_t_wrong, .ref h_t_cost, .ref h_t_first, .ref h_t_block, .ref h_t_many, .ref h_t_stack, .int t_height, .ref h_t_written, .int t_length, .ref h_t_own, .ref h_t_levelAt, .ref h_t_itemAt, .ref h_t_times, .int t_at, .int t_ownLength, .int t_depth, .int t_deepest, .int t_letters, .int t_repeats, .int t_corrections, .int t_mostCorrections, .int t_place, .int t_reason])), (h_t_itemAt, .inl (cI, 62, .inl t_itemAt)), (h_t_levelAt, .inl (cI, 62, .inl t_levelAt)), (h_t_own, .inl (cI, 1500, .inl t_own)), (h_t_text, .inl (cC, 60, .inl t_text)), (h_t_times, .inl (cI, 62, .inl t_times))] U.heap ∧ va_K (dC, dI) vwCl (tyA cI cJ cC cS) U ∧ nwN U ∧ va_D (fun _ => True) [(h_t, .inr (10, [.ref h_t_s, .ref h_t_was, .ref h_t_begun, .int t_states, .ref h_t_text, .int t_typed, .ref h_t_wrong, .ref h_t_cost, .ref h_t_first, .ref h_t_block, .ref h_t_many, .ref h_t_stack, .int t_height, .ref h_t_written, .int t_length, .ref h_t_own, .ref h_t_levelAt, .ref h_t_itemAt, .ref h_t_times, .int t_at, .int t_ownLength, .int t_depth, .int t_deepest, .int t_letters, .int t_repeats, .int t_corrections, .int t_mostCorrections, .int t_place, .int t_reason])), (h_t_itemAt, .inl (cI, 62, .inl t_itemAt)), (h_t_levelAt, .inl (cI, 62, .inl t_levelAt)), (h_t_own, .inl (cI, 1500, .inl t_own)), (h_t_text, .inl (cC, 60, .inl t_text)), (h_t_times, .inl (cI, 62, .inl t_times))])) (va_Qi (fun (r9 : Int32) (_ : Unit) => r9 = r) (fun (_ : Unit) (t : State) => va_P (dC, dI) vwCl [(h_t, .inr (10, [.ref h_t_s, .ref h_t_was, .ref h_t_begun, .int t_states, .ref h_t_text, .int t_typed, .ref h_t_wrong, .ref h_t_cost, .ref h_t_first, .ref h_t_block, .ref h_t_many, .ref h_t_stack, .int t_height, .ref h_t_written, .int t_length, .ref h_t_own, .ref h_t_levelAt, .ref h_t_itemAt, .ref h_t_times, .int y_t_at, .int y_t_ownLength, .int y_t_depth, .int y_t_deepest, .int y_t_letters, .int y_t_repeats, .int y_t_corrections, .int y_t_mostCorrections, .int y_t_place, .int y_t_reason])), (h_t_itemAt, .inl (cI, 62, .inl y_t_itemAt)), (h_t_levelAt, .inl (cI, 62, .inl y_t_levelAt)), (h_t_own, .inl (cI, 1500, .inl y_t_own)), (h_t_text, .inl (cC, 60, .inl t_text)), (h_t_times, .inl (cI, 62, .inl y_t_times))] t.heap ∧ va_K (dC, dI) vwCl (tyA cI cJ cC cS) t ∧ va_D (va_A [(h_t, .inr (10, [.ref h_t_s, .ref h_t_was, .ref h_t_begun, .int t_states, .ref h_t_text, .int t_typed, .ref h_t_wrong, .ref h_t_cost, .ref h_t_first, .ref h_t_block, .ref h_t_many, .ref h_t_stack, .int t_height, .ref h_t_written, .int t_length, .ref h_t_own, .ref h_t_levelAt, .ref h_t_itemAt, .ref h_t_times, .int t_at, .int t_ownLength, .int t_depth, .int t_deepest, .int t_letters, .int t_repeats, .int t_corrections, .int t_mostCorrections, .int t_place, .int t_reason])), (h_t_itemAt, .inl (cI, 62, .inl t_itemAt)), (h_t_levelAt, .inl (cI, 62, .inl t_levelAt)), (h_t_own, .inl (cI, 1500, .inl t_own)), (h_t_text, .inl (cC, 60, .inl t_text)), (h_t_times, .inl (cI, 62, .inl t_times))] sz) [(h_t, .inr (10, [.ref h_t_s, .ref h_t_was, .ref h_t_begun, .int t_states, .ref h_t_text, .int t_typed, .ref h_t_wrong, .ref h_t_cost, .ref h_t_first, .ref h_t_block, .ref h_t_many, .ref h_t_stack, .int t_height, .ref h_t_written, .int t_length, .ref h_t_own, .ref h_t_levelAt, .ref h_t_itemAt, .ref h_t_times, .int y_t_at, .int y_t_ownLength, .int y_t_depth, .int y_t_deepest, .int y_t_letters, .int y_t_repeats, .int y_t_corrections, .int y_t_mostCorrections, .int y_t_place, .int y_t_reason])), (h_t_itemAt, .inl (cI, 62, .inl y_t_itemAt)), (h_t_levelAt, .inl (cI, 62, .inl y_t_levelAt)), (h_t_own, .inl (cI, 1500, .inl y_t_own)), (h_t_text, .inl (cC, 60, .inl t_text)), (h_t_times, .inl (cI, 62, .inl y_t_times))]) (va_A [(h_t, .inr (10, [.ref h_t_s, .ref h_t_was, .ref h_t_begun, .int t_states, .ref h_t_text, .int t_typed, .ref h_t_wrong, .ref h_t_cost, .ref h_t_first, .ref h_t_block, .ref h_t_many, .ref h_t_stack, .int t_height, .ref h_t_written, .int t_length, .ref h_t_own, .ref h_t_levelAt, .ref h_t_itemAt, .ref h_t_times, .int t_at, .int t_ownLength, .int t_depth, .int t_deepest, .int t_letters, .int t_repeats, .int t_corrections, .int t_mostCorrections, .int t_place, .int t_reason])), (h_t_itemAt, .inl (cI, 62, .inl t_itemAt)), (h_t_levelAt, .inl (cI, 62, .inl t_levelAt)), (h_t_own, .inl (cI, 1500, .inl t_own)), (h_t_text, .inl (cC, 60, .inl t_text)), (h_t_times, .inl (cI, 62, .inl t_times))] sz)) 0 0 (va_A [(h_t, .inr (10, [.ref h_t_s, .ref h_t_was, .ref h_t_begun, .int t_states, .ref h_t_text, .int t_typed, .ref h_t_wrong, .ref h_t_cost, .ref h_t_first, .ref h_t_block, .ref h_t_many, .ref h_t_stack, .int t_height, .ref h_t_written, .int t_length, .ref h_t_own, .ref h_t_levelAt, .ref h_t_itemAt, .ref h_t_times, .int t_at, .int t_ownLength, .int t_depth, .int t_deepest, .int t_letters, .int t_repeats, .int t_corrections, .int t_mostCorrections, .int t_place, .int t_reason])), (h_t_itemAt, .inl (cI, 62, .inl t_itemAt)), (h_t_levelAt, .inl (cI, 62, .inl t_levelAt)), (h_t_own, .inl (cI, 1500, .inl t_own)), (h_t_text, .inl (cC, 60, .inl t_text)), (h_t_times, .inl (cI, 62, .inl t_times))] sz) := by
  refine Met.ofW (cc := cX11_reads) (maxL := 3) (ret := (some .boolean)) (by decide) rfl ?_
  intro p e s m args below meth c s₁ B hml hv
  obtain ⟨hargs, hsz, hP, hK, hN, hD0⟩ := hv
  have hx := B.exec
  have hb := B.bytes
  have hr := B.returns
  have hts := atoms_spec (ws := wsX11_reads) B.pre
  have hown : s.vm.findClass RX11 = some m.cls := findClass_of_methodNamed B.named
  have hlocks := B.notSynchronized
  subst hsz
  have hD := hD0.self (sz := s.heap.size)
  generalize hAe : va_A [(h_t, .inr (10, [.ref h_t_s, .ref h_t_was, .ref h_t_begun, .int t_states, .ref h_t_text, .int t_typed, .ref h_t_wrong, .ref h_t_cost, .ref h_t_first, .ref h_t_block, .ref h_t_many, .ref h_t_stack, .int t_height, .ref h_t_written, .int t_length, .ref h_t_own, .ref h_t_levelAt, .ref h_t_itemAt, .ref h_t_times, .int t_at, .int t_ownLength, .int t_depth, .int t_deepest, .int t_letters, .int t_repeats, .int t_corrections, .int t_mostCorrections, .int t_place, .int t_reason])), (h_t_itemAt, .inl (cI, 62, .inl t_itemAt)), (h_t_levelAt, .inl (cI, 62, .inl t_levelAt)), (h_t_own, .inl (cI, 1500, .inl t_own)), (h_t_text, .inl (cC, 60, .inl t_text)), (h_t_times, .inl (cI, 62, .inl t_times))] s.heap.size = A at hD ⊢
  have hA : ∀ q : Nat, s.heap.size ≤ q → A q := fun q h => by rw [← hAe]; exact Or.inr h
  have hS : va_S A s.heap s.heap [] := va_S.rf
  have hP : va_P (dC, dI) vwCl [(h_t, .inr (10, [.ref h_t_s, .ref h_t_was, .ref h_t_begun, .int t_states, .ref h_t_text, .int t_typed, .ref h_t_wrong, .ref h_t_cost, .ref h_t_first, .ref h_t_block, .ref h_t_many, .ref h_t_stack, .int t_height, .ref h_t_written, .int t_length, .ref h_t_own, .ref h_t_levelAt, .ref h_t_itemAt, .ref h_t_times, .int t_at, .int t_ownLength, .int t_depth, .int t_deepest, .int t_letters, .int t_repeats, .int t_corrections, .int t_mostCorrections, .int t_place, .int t_reason])), (h_t_itemAt, .inl (cI, 62, .inl t_itemAt)), (h_t_levelAt, .inl (cI, 62, .inl t_levelAt)), (h_t_own, .inl (cI, 1500, .inl t_own)), (h_t_text, .inl (cC, 60, .inl t_text)), (h_t_times, .inl (cI, 62, .inl t_times))] s.heap := hP
  have hl := lv_entry [.ref h_t] (n := 3) (Nat.le_of_ble_eq_true rfl)
  rw [show entryFrame m args 3 = entryFrame m ([.ref h_t] : List Value).toArray 3 from by rw [hargs], lg_entry_eq]
  generalize (lg_sl [.ref h_t] ++ List.replicate (3 - (lg_sl [.ref h_t]).length) Slot.unset).toArray = ls at hl ⊢
  have hl : lv_has ls 3 [(0, .ref h_t)] := hl
  generalize hQQ : MQ below (va_Qi (fun (r9 : Int32) (_ : Unit) => r9 = r) (fun (_ : Unit) (t : State) => va_P (dC, dI) vwCl [(h_t, .inr (10, [.ref h_t_s, .ref h_t_was, .ref h_t_begun, .int t_states, .ref h_t_text, .int t_typed, .ref h_t_wrong, .ref h_t_cost, .ref h_t_first, .ref h_t_block, .ref h_t_many, .ref h_t_stack, .int t_height, .ref h_t_written, .int t_length, .ref h_t_own, .ref h_t_levelAt, .ref h_t_itemAt, .ref h_t_times, .int y_t_at, .int y_t_ownLength, .int y_t_depth, .int y_t_deepest, .int y_t_letters, .int y_t_repeats, .int y_t_corrections, .int y_t_mostCorrections, .int y_t_place, .int y_t_reason])), (h_t_itemAt, .inl (cI, 62, .inl y_t_itemAt)), (h_t_levelAt, .inl (cI, 62, .inl y_t_levelAt)), (h_t_own, .inl (cI, 1500, .inl y_t_own)), (h_t_text, .inl (cC, 60, .inl t_text)), (h_t_times, .inl (cI, 62, .inl y_t_times))] t.heap ∧ va_K (dC, dI) vwCl (tyA cI cJ cC cS) t ∧ va_D A [(h_t, .inr (10, [.ref h_t_s, .ref h_t_was, .ref h_t_begun, .int t_states, .ref h_t_text, .int t_typed, .ref h_t_wrong, .ref h_t_cost, .ref h_t_first, .ref h_t_block, .ref h_t_many, .ref h_t_stack, .int t_height, .ref h_t_written, .int t_length, .ref h_t_own, .ref h_t_levelAt, .ref h_t_itemAt, .ref h_t_times, .int y_t_at, .int y_t_ownLength, .int y_t_depth, .int y_t_deepest, .int y_t_letters, .int y_t_repeats, .int y_t_corrections, .int y_t_mostCorrections, .int y_t_place, .int y_t_reason])), (h_t_itemAt, .inl (cI, 62, .inl y_t_itemAt)), (h_t_levelAt, .inl (cI, 62, .inl y_t_levelAt)), (h_t_own, .inl (cI, 1500, .inl y_t_own)), (h_t_text, .inl (cC, 60, .inl t_text)), (h_t_times, .inl (cI, 62, .inl y_t_times))]) A) args s 0 0 A = QQ
  obtain ⟨H, hH⟩ : ∃ H : Heap, H = s.heap := ⟨_, rfl⟩
  obtain ⟨locs, hlocs⟩ : ∃ locs : List Loc, locs = [] := ⟨_, rfl⟩
  rw [← hH] at hP
  have hS : va_S A s.heap H locs := by rw [hH, hlocs]; exact hS
  suffices hZ : W p l e (headSpec wsX11_reads ({ frames := 4, cells := 0, slots := 0, locals := 98 } : Room)).room s m args below meth c H locs 0 0 QQ (F0 m 0 ls []) by rw [hH, hlocs] at hZ; exact hZ
  clear hH hlocs
  have hK156 : ∀ (t_at : Int32) (t_ownLength : Int32) (t_depth : Int32) (t_deepest : Int32) (t_letters : Int32) (t_repeats : Int32) (t_corrections : Int32) (t_mostCorrections : Int32) (t_place : Int32) (t_reason : Int32) (t_itemAt : Nat → Int32) (t_levelAt : Nat → Int32) (t_own : Nat → Int32) (t_times : Nat → Int32) (H : Heap) (locs : List Loc) (ls : Array Slot), fMD_reads_156 t_typed t_at t_ownLength t_depth t_deepest t_letters t_repeats t_corrections t_mostCorrections t_place t_reason t_itemAt t_levelAt t_own t_times = some (r, y_t_at, y_t_ownLength, y_t_depth, y_t_deepest, y_t_letters, y_t_repeats, y_t_corrections, y_t_mostCorrections, y_t_place, y_t_reason, y_t_itemAt, y_t_levelAt, y_t_own, y_t_times) → va_P (dC, dI) vwCl [(h_t, .inr (10, [.ref h_t_s, .ref h_t_was, .ref h_t_begun, .int t_states, .ref h_t_text, .int t_typed, .ref h_t_wrong, .ref h_t_cost, .ref h_t_first, .ref h_t_block, .ref h_t_many, .ref h_t_stack, .int t_height, .ref h_t_written, .int t_length, .ref h_t_own, .ref h_t_levelAt, .ref h_t_itemAt, .ref h_t_times, .int t_at, .int t_ownLength, .int t_depth, .int t_deepest, .int t_letters, .int t_repeats, .int t_corrections, .int t_mostCorrections, .int t_place, .int t_reason])), (h_t_itemAt, .inl (cI, 62, .inl t_itemAt)), (h_t_levelAt, .inl (cI, 62, .inl t_levelAt)), (h_t_own, .inl (cI, 1500, .inl t_own)), (h_t_text, .inl (cC, 60, .inl t_text)), (h_t_times, .inl (cI, 62, .inl t_times))] H → va_D A [(h_t, .inr (10, [.ref h_t_s, .ref h_t_was, .ref h_t_begun, .int t_states, .ref h_t_text, .int t_typed, .ref h_t_wrong, .ref h_t_cost, .ref h_t_first, .ref h_t_block, .ref h_t_many, .ref h_t_stack, .int t_height, .ref h_t_written, .int t_length, .ref h_t_own, .ref h_t_levelAt, .ref h_t_itemAt, .ref h_t_times, .int t_at, .int t_ownLength, .int t_depth, .int t_deepest, .int t_letters, .int t_repeats, .int t_corrections, .int t_mostCorrections, .int t_place, .int t_reason])), (h_t_itemAt, .inl (cI, 62, .inl t_itemAt)), (h_t_levelAt, .inl (cI, 62, .inl t_levelAt)), (h_t_own, .inl (cI, 1500, .inl t_own)), (h_t_text, .inl (cC, 60, .inl t_text)), (h_t_times, .inl (cI, 62, .inl t_times))] → va_S A s.heap H locs → lv_has ls 3 [(0, .ref h_t)] → W p l e (headSpec wsX11_reads ({ frames := 4, cells := 0, slots := 0, locals := 98 } : Room)).room s m args below meth c H locs 0 0 QQ (F0 m 156 ls []) := by
    intro t_at t_ownLength t_depth t_deepest t_letters t_repeats t_corrections t_mostCorrections t_place t_reason t_itemAt t_levelAt t_own t_times H locs ls hres hP hD hS hl
    rw [fMD_reads_156] at hres
    refine lv_aload_n hx hb dX11_reads_156 rfl (lv_at hl 0 rfl) ?_
    refine lv_aload_n hx hb dX11_reads_157 rfl (lv_at hl 0 rfl) ?_
    refine va_get (D := (dC, dI)) (ci := 10) (v := .int t_typed) (C := RX11) (T := TX11) (N := 29) hx hb hts iMD_reads_X11_reads_1 hown hK hP 0 rfl rfl 5 (by decide) (hts _ kMD_reads_X11_reads_2) (fun _ h9 => h9) rfl dX11_reads_158 ?_
    refine lv_iconst (v := (1 : Int32)) hx hb dX11_reads_161 (by decide) ?_
    obtain ⟨o16, ho16, hres⟩ := bd_of hres
    have hPc := hP.sub (ws' := [(h_t, .inr (10, [.ref h_t_s, .ref h_t_was, .ref h_t_begun, .int t_states, .ref h_t_text, .int t_typed, .ref h_t_wrong, .ref h_t_cost, .ref h_t_first, .ref h_t_block, .ref h_t_many, .ref h_t_stack, .int t_height, .ref h_t_written, .int t_length, .ref h_t_own, .ref h_t_levelAt, .ref h_t_itemAt, .ref h_t_times, .int t_at, .int t_ownLength, .int t_depth, .int t_deepest, .int t_letters, .int t_repeats, .int t_corrections, .int t_mostCorrections, .int t_place, .int t_reason]))]) [0] rfl
    have hDc := hD.sub (ws' := [(h_t, .inr (10, [.ref h_t_s, .ref h_t_was, .ref h_t_begun, .int t_states, .ref h_t_text, .int t_typed, .ref h_t_wrong, .ref h_t_cost, .ref h_t_first, .ref h_t_block, .ref h_t_many, .ref h_t_stack, .int t_height, .ref h_t_written, .int t_length, .ref h_t_own, .ref h_t_levelAt, .ref h_t_itemAt, .ref h_t_times, .int t_at, .int t_ownLength, .int t_depth, .int t_deepest, .int t_letters, .int t_repeats, .int t_corrections, .int t_mostCorrections, .int t_place, .int t_reason]))]) [0] (by decide) rfl
    have hFc := va_free (wc := [(h_t, .inr (10, [.ref h_t_s, .ref h_t_was, .ref h_t_begun, .int t_states, .ref h_t_text, .int t_typed, .ref h_t_wrong, .ref h_t_cost, .ref h_t_first, .ref h_t_block, .ref h_t_many, .ref h_t_stack, .int t_height, .ref h_t_written, .int t_length, .ref h_t_own, .ref h_t_levelAt, .ref h_t_itemAt, .ref h_t_times, .int t_at, .int t_ownLength, .int t_depth, .int t_deepest, .int t_letters, .int t_repeats, .int t_corrections, .int t_mostCorrections, .int t_place, .int t_reason]))]) hD hS hA [0] rfl
    refine va_calli (va_runV (As := [.int t_typed, .int (1 : Int32)]) (rest := []) ⟨hx, hb, hml, hown, hts⟩ (cMD_faulty l dC dI cI cJ cC cS h_t h_t_s h_t_was h_t_begun h_t_text h_t_wrong h_t_cost h_t_first h_t_block h_t_many h_t_stack h_t_written h_t_own h_t_levelAt h_t_itemAt h_t_times H.size t_states t_typed t_height t_length t_at t_ownLength t_depth t_deepest t_letters t_repeats t_corrections t_mostCorrections t_place t_reason t_typed (1 : Int32) o16.1 o16.2.1 o16.2.2 ho16) (cwV 2 hts gX11_reads_X11_faulty rfl rfl rfl (by decide +kernel) ⟨Nat.le_of_ble_eq_true rfl, Nat.le_of_ble_eq_true rfl⟩) ⟨fun a U g mk q => by obtain ⟨q0, q1, qP, qK, qN, qD⟩ := q; exact ⟨q0, q1, qP, va_K.moved (u := U) (U := U.calling g mk a) (Vm.Alike.refl U.vm) qK, nwS (u := U) (U := U.calling g mk a) rfl qN, qD⟩, va_recv hK hPc (ci := 10) (q0 := 0) rfl rfl, fun U hU hW => ⟨rfl, by rw [hU], by rw [hU]; exact hPc, va_K.moved hW.alike hK, nwW hW hN, hDc.weaken (fun _ _ _ _ => trivial)⟩⟩ rfl rfl hl.1 rfl (lv_room (Nat.le_of_ble_eq_true rfl)) dX11_reads_162 ⟨Nat.zero_le _, Nat.zero_le _⟩) hS (fun q _ h => hFc q h) hFc (fun r9 u9 t H1 locs ht hvm hw hB hz1 hk1 hS => ?_)
    have hw := hw.symm
    subst hw
    obtain ⟨hP1, hK1, hD1⟩ := hB
    rw [ht] at hP1
    obtain ⟨hP, hD⟩ := va_join (wr := [(h_t_itemAt, .inl (cI, 62, .inl t_itemAt)), (h_t_levelAt, .inl (cI, 62, .inl t_levelAt)), (h_t_own, .inl (cI, 1500, .inl t_own)), (h_t_text, .inl (cC, 60, .inl t_text)), (h_t_times, .inl (cI, 62, .inl t_times))]) (w1 := [(h_t, .inr (10, [.ref h_t_s, .ref h_t_was, .ref h_t_begun, .int t_states, .ref h_t_text, .int t_typed, .ref h_t_wrong, .ref h_t_cost, .ref h_t_first, .ref h_t_block, .ref h_t_many, .ref h_t_stack, .int t_height, .ref h_t_written, .int t_length, .ref h_t_own, .ref h_t_levelAt, .ref h_t_itemAt, .ref h_t_times, .int t_at, .int t_ownLength, .int t_depth, .int t_deepest, .int t_letters, .int t_repeats, .int t_corrections, .int t_mostCorrections, .int o16.2.1, .int o16.2.2]))]) hP hD [0] [1, 2, 3, 4, 5] rfl rfl (by decide) (by decide) hk1 hFc hP1 hD1
    generalize H1 = H at hP hS ⊢
    have hP : va_P (dC, dI) vwCl [(h_t_itemAt, .inl (cI, 62, .inl t_itemAt)), (h_t_levelAt, .inl (cI, 62, .inl t_levelAt)), (h_t_own, .inl (cI, 1500, .inl t_own)), (h_t_text, .inl (cC, 60, .inl t_text)), (h_t_times, .inl (cI, 62, .inl t_times)), (h_t, .inr (10, [.ref h_t_s, .ref h_t_was, .ref h_t_begun, .int t_states, .ref h_t_text, .int t_typed, .ref h_t_wrong, .ref h_t_cost, .ref h_t_first, .ref h_t_block, .ref h_t_many, .ref h_t_stack, .int t_height, .ref h_t_written, .int t_length, .ref h_t_own, .ref h_t_levelAt, .ref h_t_itemAt, .ref h_t_times, .int t_at, .int t_ownLength, .int t_depth, .int t_deepest, .int t_letters, .int t_repeats, .int t_corrections, .int t_mostCorrections, .int o16.2.1, .int o16.2.2]))] H := hP
    have hD : va_D A [(h_t_itemAt, .inl (cI, 62, .inl t_itemAt)), (h_t_levelAt, .inl (cI, 62, .inl t_levelAt)), (h_t_own, .inl (cI, 1500, .inl t_own)), (h_t_text, .inl (cC, 60, .inl t_text)), (h_t_times, .inl (cI, 62, .inl t_times)), (h_t, .inr (10, [.ref h_t_s, .ref h_t_was, .ref h_t_begun, .int t_states, .ref h_t_text, .int t_typed, .ref h_t_wrong, .ref h_t_cost, .ref h_t_first, .ref h_t_block, .ref h_t_many, .ref h_t_stack, .int t_height, .ref h_t_written, .int t_length, .ref h_t_own, .ref h_t_levelAt, .ref h_t_itemAt, .ref h_t_times, .int t_at, .int t_ownLength, .int t_depth, .int t_deepest, .int t_letters, .int t_repeats, .int t_corrections, .int t_mostCorrections, .int o16.2.1, .int o16.2.2]))] := hD
    refine lv_if_eq (tgt := 172) hx hb dX11_reads_165 (by decide) (fun c_17 => ?_) (fun c_17 => ?_)
    · have hres := it_of hres c_17
      refine lv_iconst (v := (0 : Int32)) hx hb dX11_reads_172 (by decide) ?_
      obtain ⟨e9_0, e9_1, e9_2, e9_3, e9_4, e9_5, e9_6, e9_7, e9_8, e9_9, e9_10, e9_11, e9_12, e9_13, e9_14⟩ := tup15 hres
      subst e9_0
      subst e9_1
      subst e9_2
      subst e9_3
      subst e9_4
      subst e9_5
      subst e9_6
      subst e9_7
      subst e9_8
      subst e9_9
      subst e9_10
      subst e9_11
      subst e9_12
      subst e9_13
      subst e9_14
      rw [← hQQ]
      exact W.zret (v := (0 : Int32)) hx hb hr rfl (fun t ht hW => ⟨⟨(0 : Int32), (), rfl, rfl, by rw [ht]; exact hP.sub [5, 0, 1, 2, 3, 4] rfl, va_K.moved hW.alike hK, hD.sub [5, 0, 1, 2, 3, 4] (by decide) rfl⟩, hS.F ht⟩) hS.2.2 dX11_reads_173
    · have hres := ie_of hres c_17
      refine lv_iconst (v := (1 : Int32)) hx hb dX11_reads_168 (by decide) ?_
      refine lv_goto (tgt := 173) hx hb dX11_reads_169 (by decide) ?_
      obtain ⟨e9_0, e9_1, e9_2, e9_3, e9_4, e9_5, e9_6, e9_7, e9_8, e9_9, e9_10, e9_11, e9_12, e9_13, e9_14⟩ := tup15 hres
      subst e9_0
      subst e9_1
      subst e9_2
      subst e9_3
      subst e9_4
      subst e9_5
      subst e9_6
      subst e9_7
      subst e9_8
      subst e9_9
      subst e9_10
      subst e9_11
      subst e9_12
      subst e9_13
      subst e9_14
      rw [← hQQ]
      exact W.zret (v := (1 : Int32)) hx hb hr rfl (fun t ht hW => ⟨⟨(1 : Int32), (), rfl, rfl, by rw [ht]; exact hP.sub [5, 0, 1, 2, 3, 4] rfl, va_K.moved hW.alike hK, hD.sub [5, 0, 1, 2, 3, 4] (by decide) rfl⟩, hS.F ht⟩) hS.2.2 dX11_reads_173
  have hK138 : ∀ (x1 : Int32) (t_at : Int32) (t_ownLength : Int32) (t_depth : Int32) (t_deepest : Int32) (t_letters : Int32) (t_repeats : Int32) (t_corrections : Int32) (t_mostCorrections : Int32) (t_place : Int32) (t_reason : Int32) (t_itemAt : Nat → Int32) (t_levelAt : Nat → Int32) (t_own : Nat → Int32) (t_times : Nat → Int32) (H : Heap) (locs : List Loc) (ls : Array Slot), fMD_reads_138 t_typed x1 t_at t_ownLength t_depth t_deepest t_letters t_repeats t_corrections t_mostCorrections t_place t_reason t_itemAt t_levelAt t_own t_times = some (r, y_t_at, y_t_ownLength, y_t_depth, y_t_deepest, y_t_letters, y_t_repeats, y_t_corrections, y_t_mostCorrections, y_t_place, y_t_reason, y_t_itemAt, y_t_levelAt, y_t_own, y_t_times) → va_P (dC, dI) vwCl [(h_t, .inr (10, [.ref h_t_s, .ref h_t_was, .ref h_t_begun, .int t_states, .ref h_t_text, .int t_typed, .ref h_t_wrong, .ref h_t_cost, .ref h_t_first, .ref h_t_block, .ref h_t_many, .ref h_t_stack, .int t_height, .ref h_t_written, .int t_length, .ref h_t_own, .ref h_t_levelAt, .ref h_t_itemAt, .ref h_t_times, .int t_at, .int t_ownLength, .int t_depth, .int t_deepest, .int t_letters, .int t_repeats, .int t_corrections, .int t_mostCorrections, .int t_place, .int t_reason])), (h_t_itemAt, .inl (cI, 62, .inl t_itemAt)), (h_t_levelAt, .inl (cI, 62, .inl t_levelAt)), (h_t_own, .inl (cI, 1500, .inl t_own)), (h_t_text, .inl (cC, 60, .inl t_text)), (h_t_times, .inl (cI, 62, .inl t_times))] H → va_D A [(h_t, .inr (10, [.ref h_t_s, .ref h_t_was, .ref h_t_begun, .int t_states, .ref h_t_text, .int t_typed, .ref h_t_wrong, .ref h_t_cost, .ref h_t_first, .ref h_t_block, .ref h_t_many, .ref h_t_stack, .int t_height, .ref h_t_written, .int t_length, .ref h_t_own, .ref h_t_levelAt, .ref h_t_itemAt, .ref h_t_times, .int t_at, .int t_ownLength, .int t_depth, .int t_deepest, .int t_letters, .int t_repeats, .int t_corrections, .int t_mostCorrections, .int t_place, .int t_reason])), (h_t_itemAt, .inl (cI, 62, .inl t_itemAt)), (h_t_levelAt, .inl (cI, 62, .inl t_levelAt)), (h_t_own, .inl (cI, 1500, .inl t_own)), (h_t_text, .inl (cC, 60, .inl t_text)), (h_t_times, .inl (cI, 62, .inl t_times))] → va_S A s.heap H locs → lv_has ls 3 [(0, .ref h_t), (1, .int x1)] → W p l e (headSpec wsX11_reads ({ frames := 4, cells := 0, slots := 0, locals := 98 } : Room)).room s m args below meth c H locs 0 0 QQ (F0 m 138 ls []) := by
    intro x1 t_at t_ownLength t_depth t_deepest t_letters t_repeats t_corrections t_mostCorrections t_place t_reason t_itemAt t_levelAt t_own t_times H locs ls hres hP hD hS hl
    rw [fMD_reads_138] at hres
    refine lv_iload_n hx hb dX11_reads_138 rfl (lv_at hl 1 rfl) ?_
    refine lv_if_eq (tgt := 172) hx hb dX11_reads_139 (by decide) (fun c_13 => ?_) (fun c_13 => ?_)
    · have hres := it_of hres c_13
      refine lv_iconst (v := (0 : Int32)) hx hb dX11_reads_172 (by decide) ?_
      obtain ⟨e9_0, e9_1, e9_2, e9_3, e9_4, e9_5, e9_6, e9_7, e9_8, e9_9, e9_10, e9_11, e9_12, e9_13, e9_14⟩ := tup15 hres
      subst e9_0
      subst e9_1
      subst e9_2
      subst e9_3
      subst e9_4
      subst e9_5
      subst e9_6
      subst e9_7
      subst e9_8
      subst e9_9
      subst e9_10
      subst e9_11
      subst e9_12
      subst e9_13
      subst e9_14
      rw [← hQQ]
      exact W.zret (v := (0 : Int32)) hx hb hr rfl (fun t ht hW => ⟨⟨(0 : Int32), (), rfl, rfl, by rw [ht]; exact hP, va_K.moved hW.alike hK, hD⟩, hS.F ht⟩) hS.2.2 dX11_reads_173
    · have hres := ie_of hres c_13
      refine lv_aload_n hx hb dX11_reads_142 rfl (lv_at hl 0 rfl) ?_
      refine va_get (D := (dC, dI)) (ci := 10) (v := .int t_depth) (C := RX11) (T := TX11) (N := 29) hx hb hts iMD_reads_X11_reads_1 hown hK hP 0 rfl rfl 21 (by decide) (hts _ kMD_reads_X11_reads_3) (fun _ h9 => h9) rfl dX11_reads_143 ?_
      refine lv_if_gt (tgt := 156) hx hb dX11_reads_146 (by decide) (fun c_14 => ?_) (fun c_14 => ?_)
      · have hres := it_of hres c_14
        exact hK156 t_at t_ownLength t_depth t_deepest t_letters t_repeats t_corrections t_mostCorrections t_place t_reason t_itemAt t_levelAt t_own t_times H locs ls hres hP hD hS (lv_sub hl [0] rfl)
      · have hres := ie_of hres c_14
        refine lv_aload_n hx hb dX11_reads_149 rfl (lv_at hl 0 rfl) ?_
        refine va_get (D := (dC, dI)) (ci := 10) (v := .int t_typed) (C := RX11) (T := TX11) (N := 29) hx hb hts iMD_reads_X11_reads_1 hown hK hP 0 rfl rfl 5 (by decide) (hts _ kMD_reads_X11_reads_2) (fun _ h9 => h9) rfl dX11_reads_150 ?_
        refine lv_if_ne (tgt := 168) hx hb dX11_reads_153 (by decide) (fun c_15 => ?_) (fun c_15 => ?_)
        · have hres := ie_of hres c_15
          refine lv_iconst (v := (1 : Int32)) hx hb dX11_reads_168 (by decide) ?_
          refine lv_goto (tgt := 173) hx hb dX11_reads_169 (by decide) ?_
          obtain ⟨e9_0, e9_1, e9_2, e9_3, e9_4, e9_5, e9_6, e9_7, e9_8, e9_9, e9_10, e9_11, e9_12, e9_13, e9_14⟩ := tup15 hres
          subst e9_0
          subst e9_1
          subst e9_2
          subst e9_3
          subst e9_4
          subst e9_5
          subst e9_6
          subst e9_7
          subst e9_8
          subst e9_9
          subst e9_10
          subst e9_11
          subst e9_12
          subst e9_13
          subst e9_14
          rw [← hQQ]
          exact W.zret (v := (1 : Int32)) hx hb hr rfl (fun t ht hW => ⟨⟨(1 : Int32), (), rfl, rfl, by rw [ht]; exact hP, va_K.moved hW.alike hK, hD⟩, hS.F ht⟩) hS.2.2 dX11_reads_173
        · have hres := it_of hres c_15
          exact hK156 t_at t_ownLength t_depth t_deepest t_letters t_repeats t_corrections t_mostCorrections t_place t_reason t_itemAt t_levelAt t_own t_times H locs ls hres hP hD hS (lv_sub hl [0] rfl)
  have hL49 : ∀ (n49 : Nat) , ∀ (x1 : Int32) (t_at : Int32) (t_ownLength : Int32) (t_depth : Int32) (t_deepest : Int32) (t_letters : Int32) (t_repeats : Int32) (t_corrections : Int32) (t_mostCorrections : Int32) (t_place : Int32) (t_reason : Int32) (t_itemAt : Nat → Int32) (t_levelAt : Nat → Int32) (t_own : Nat → Int32) (t_times : Nat → Int32) (H : Heap) (locs : List Loc) (ls : Array Slot), fMD_reads_49 t_typed t_text n49 x1 t_at t_ownLength t_depth t_deepest t_letters t_repeats t_corrections t_mostCorrections t_place t_reason t_itemAt t_levelAt t_own t_times = some (r, y_t_at, y_t_ownLength, y_t_depth, y_t_deepest, y_t_letters, y_t_repeats, y_t_corrections, y_t_mostCorrections, y_t_place, y_t_reason, y_t_itemAt, y_t_levelAt, y_t_own, y_t_times) → va_P (dC, dI) vwCl [(h_t, .inr (10, [.ref h_t_s, .ref h_t_was, .ref h_t_begun, .int t_states, .ref h_t_text, .int t_typed, .ref h_t_wrong, .ref h_t_cost, .ref h_t_first, .ref h_t_block, .ref h_t_many, .ref h_t_stack, .int t_height, .ref h_t_written, .int t_length, .ref h_t_own, .ref h_t_levelAt, .ref h_t_itemAt, .ref h_t_times, .int t_at, .int t_ownLength, .int t_depth, .int t_deepest, .int t_letters, .int t_repeats, .int t_corrections, .int t_mostCorrections, .int t_place, .int t_reason])), (h_t_itemAt, .inl (cI, 62, .inl t_itemAt)), (h_t_levelAt, .inl (cI, 62, .inl t_levelAt)), (h_t_own, .inl (cI, 1500, .inl t_own)), (h_t_text, .inl (cC, 60, .inl t_text)), (h_t_times, .inl (cI, 62, .inl t_times))] H → va_D A [(h_t, .inr (10, [.ref h_t_s, .ref h_t_was, .ref h_t_begun, .int t_states, .ref h_t_text, .int t_typed, .ref h_t_wrong, .ref h_t_cost, .ref h_t_first, .ref h_t_block, .ref h_t_many, .ref h_t_stack, .int t_height, .ref h_t_written, .int t_length, .ref h_t_own, .ref h_t_levelAt, .ref h_t_itemAt, .ref h_t_times, .int t_at, .int t_ownLength, .int t_depth, .int t_deepest, .int t_letters, .int t_repeats, .int t_corrections, .int t_mostCorrections, .int t_place, .int t_reason])), (h_t_itemAt, .inl (cI, 62, .inl t_itemAt)), (h_t_levelAt, .inl (cI, 62, .inl t_levelAt)), (h_t_own, .inl (cI, 1500, .inl t_own)), (h_t_text, .inl (cC, 60, .inl t_text)), (h_t_times, .inl (cI, 62, .inl t_times))] → va_S A s.heap H locs → lv_has ls 3 [(0, .ref h_t), (1, .int x1)] → W p l e (headSpec wsX11_reads ({ frames := 4, cells := 0, slots := 0, locals := 98 } : Room)).room s m args below meth c H locs 0 0 QQ (F0 m 49 ls []) := by
    intro n49
    induction n49 with
    | zero =>
      intro x1 t_at t_ownLength t_depth t_deepest t_letters t_repeats t_corrections t_mostCorrections t_place t_reason t_itemAt t_levelAt t_own t_times H locs ls hres
      rw [fMD_reads_49] at hres
      cases hres
    | succ n49 ih49 =>
      have hK125 : ∀ (t_at : Int32) (t_ownLength : Int32) (t_depth : Int32) (t_deepest : Int32) (t_letters : Int32) (t_repeats : Int32) (t_corrections : Int32) (t_mostCorrections : Int32) (t_place : Int32) (t_reason : Int32) (t_itemAt : Nat → Int32) (t_levelAt : Nat → Int32) (t_own : Nat → Int32) (t_times : Nat → Int32) (H : Heap) (locs : List Loc) (ls : Array Slot), fMD_reads_125 (fMD_reads_49 t_typed t_text n49) t_at t_ownLength t_depth t_deepest t_letters t_repeats t_corrections t_mostCorrections t_place t_reason t_itemAt t_levelAt t_own t_times = some (r, y_t_at, y_t_ownLength, y_t_depth, y_t_deepest, y_t_letters, y_t_repeats, y_t_corrections, y_t_mostCorrections, y_t_place, y_t_reason, y_t_itemAt, y_t_levelAt, y_t_own, y_t_times) → va_P (dC, dI) vwCl [(h_t, .inr (10, [.ref h_t_s, .ref h_t_was, .ref h_t_begun, .int t_states, .ref h_t_text, .int t_typed, .ref h_t_wrong, .ref h_t_cost, .ref h_t_first, .ref h_t_block, .ref h_t_many, .ref h_t_stack, .int t_height, .ref h_t_written, .int t_length, .ref h_t_own, .ref h_t_levelAt, .ref h_t_itemAt, .ref h_t_times, .int t_at, .int t_ownLength, .int t_depth, .int t_deepest, .int t_letters, .int t_repeats, .int t_corrections, .int t_mostCorrections, .int t_place, .int t_reason])), (h_t_itemAt, .inl (cI, 62, .inl t_itemAt)), (h_t_levelAt, .inl (cI, 62, .inl t_levelAt)), (h_t_own, .inl (cI, 1500, .inl t_own)), (h_t_text, .inl (cC, 60, .inl t_text)), (h_t_times, .inl (cI, 62, .inl t_times))] H → va_D A [(h_t, .inr (10, [.ref h_t_s, .ref h_t_was, .ref h_t_begun, .int t_states, .ref h_t_text, .int t_typed, .ref h_t_wrong, .ref h_t_cost, .ref h_t_first, .ref h_t_block, .ref h_t_many, .ref h_t_stack, .int t_height, .ref h_t_written, .int t_length, .ref h_t_own, .ref h_t_levelAt, .ref h_t_itemAt, .ref h_t_times, .int t_at, .int t_ownLength, .int t_depth, .int t_deepest, .int t_letters, .int t_repeats, .int t_corrections, .int t_mostCorrections, .int t_place, .int t_reason])), (h_t_itemAt, .inl (cI, 62, .inl t_itemAt)), (h_t_levelAt, .inl (cI, 62, .inl t_levelAt)), (h_t_own, .inl (cI, 1500, .inl t_own)), (h_t_text, .inl (cC, 60, .inl t_text)), (h_t_times, .inl (cI, 62, .inl t_times))] → va_S A s.heap H locs → lv_has ls 3 [(0, .ref h_t)] → W p l e (headSpec wsX11_reads ({ frames := 4, cells := 0, slots := 0, locals := 98 } : Room)).room s m args below meth c H locs 0 0 QQ (F0 m 125 ls []) := by
        intro t_at t_ownLength t_depth t_deepest t_letters t_repeats t_corrections t_mostCorrections t_place t_reason t_itemAt t_levelAt t_own t_times H locs ls hres hP hD hS hl
        rw [fMD_reads_125] at hres
        refine lv_aload_n hx hb dX11_reads_125 rfl (lv_at hl 0 rfl) ?_
        refine lv_aload_n hx hb dX11_reads_126 rfl (lv_at hl 0 rfl) ?_
        refine va_get (D := (dC, dI)) (ci := 10) (v := .int t_at) (C := RX11) (T := TX11) (N := 29) hx hb hts iMD_reads_X11_reads_1 hown hK hP 0 rfl rfl 19 (by decide) (hts _ kMD_reads_X11_reads_0) (fun _ h9 => h9) rfl dX11_reads_127 ?_
        refine lv_iconst (v := (1 : Int32)) hx hb dX11_reads_130 (by decide) ?_
        obtain ⟨o18, ho18, hres⟩ := bd_of hres
        have hPc := hP.sub (ws' := [(h_t, .inr (10, [.ref h_t_s, .ref h_t_was, .ref h_t_begun, .int t_states, .ref h_t_text, .int t_typed, .ref h_t_wrong, .ref h_t_cost, .ref h_t_first, .ref h_t_block, .ref h_t_many, .ref h_t_stack, .int t_height, .ref h_t_written, .int t_length, .ref h_t_own, .ref h_t_levelAt, .ref h_t_itemAt, .ref h_t_times, .int t_at, .int t_ownLength, .int t_depth, .int t_deepest, .int t_letters, .int t_repeats, .int t_corrections, .int t_mostCorrections, .int t_place, .int t_reason]))]) [0] rfl
        have hDc := hD.sub (ws' := [(h_t, .inr (10, [.ref h_t_s, .ref h_t_was, .ref h_t_begun, .int t_states, .ref h_t_text, .int t_typed, .ref h_t_wrong, .ref h_t_cost, .ref h_t_first, .ref h_t_block, .ref h_t_many, .ref h_t_stack, .int t_height, .ref h_t_written, .int t_length, .ref h_t_own, .ref h_t_levelAt, .ref h_t_itemAt, .ref h_t_times, .int t_at, .int t_ownLength, .int t_depth, .int t_deepest, .int t_letters, .int t_repeats, .int t_corrections, .int t_mostCorrections, .int t_place, .int t_reason]))]) [0] (by decide) rfl
        have hFc := va_free (wc := [(h_t, .inr (10, [.ref h_t_s, .ref h_t_was, .ref h_t_begun, .int t_states, .ref h_t_text, .int t_typed, .ref h_t_wrong, .ref h_t_cost, .ref h_t_first, .ref h_t_block, .ref h_t_many, .ref h_t_stack, .int t_height, .ref h_t_written, .int t_length, .ref h_t_own, .ref h_t_levelAt, .ref h_t_itemAt, .ref h_t_times, .int t_at, .int t_ownLength, .int t_depth, .int t_deepest, .int t_letters, .int t_repeats, .int t_corrections, .int t_mostCorrections, .int t_place, .int t_reason]))]) hD hS hA [0] rfl
        refine va_calli (va_runV (As := [.int t_at, .int (1 : Int32)]) (rest := []) ⟨hx, hb, hml, hown, hts⟩ (cMD_faulty l dC dI cI cJ cC cS h_t h_t_s h_t_was h_t_begun h_t_text h_t_wrong h_t_cost h_t_first h_t_block h_t_many h_t_stack h_t_written h_t_own h_t_levelAt h_t_itemAt h_t_times H.size t_states t_typed t_height t_length t_at t_ownLength t_depth t_deepest t_letters t_repeats t_corrections t_mostCorrections t_place t_reason t_at (1 : Int32) o18.1 o18.2.1 o18.2.2 ho18) (cwV 2 hts gX11_reads_X11_faulty rfl rfl rfl (by decide +kernel) ⟨Nat.le_of_ble_eq_true rfl, Nat.le_of_ble_eq_true rfl⟩) ⟨fun a U g mk q => by obtain ⟨q0, q1, qP, qK, qN, qD⟩ := q; exact ⟨q0, q1, qP, va_K.moved (u := U) (U := U.calling g mk a) (Vm.Alike.refl U.vm) qK, nwS (u := U) (U := U.calling g mk a) rfl qN, qD⟩, va_recv hK hPc (ci := 10) (q0 := 0) rfl rfl, fun U hU hW => ⟨rfl, by rw [hU], by rw [hU]; exact hPc, va_K.moved hW.alike hK, nwW hW hN, hDc.weaken (fun _ _ _ _ => trivial)⟩⟩ rfl rfl hl.1 rfl (lv_room (Nat.le_of_ble_eq_true rfl)) dX11_reads_131 ⟨Nat.zero_le _, Nat.zero_le _⟩) hS (fun q _ h => hFc q h) hFc (fun r9 u9 t H1 locs ht hvm hw hB hz1 hk1 hS => ?_)
        have hw := hw.symm
        subst hw
        obtain ⟨hP1, hK1, hD1⟩ := hB
        rw [ht] at hP1
        obtain ⟨hP, hD⟩ := va_join (wr := [(h_t_itemAt, .inl (cI, 62, .inl t_itemAt)), (h_t_levelAt, .inl (cI, 62, .inl t_levelAt)), (h_t_own, .inl (cI, 1500, .inl t_own)), (h_t_text, .inl (cC, 60, .inl t_text)), (h_t_times, .inl (cI, 62, .inl t_times))]) (w1 := [(h_t, .inr (10, [.ref h_t_s, .ref h_t_was, .ref h_t_begun, .int t_states, .ref h_t_text, .int t_typed, .ref h_t_wrong, .ref h_t_cost, .ref h_t_first, .ref h_t_block, .ref h_t_many, .ref h_t_stack, .int t_height, .ref h_t_written, .int t_length, .ref h_t_own, .ref h_t_levelAt, .ref h_t_itemAt, .ref h_t_times, .int t_at, .int t_ownLength, .int t_depth, .int t_deepest, .int t_letters, .int t_repeats, .int t_corrections, .int t_mostCorrections, .int o18.2.1, .int o18.2.2]))]) hP hD [0] [1, 2, 3, 4, 5] rfl rfl (by decide) (by decide) hk1 hFc hP1 hD1
        generalize H1 = H at hP hS ⊢
        have hP : va_P (dC, dI) vwCl [(h_t_itemAt, .inl (cI, 62, .inl t_itemAt)), (h_t_levelAt, .inl (cI, 62, .inl t_levelAt)), (h_t_own, .inl (cI, 1500, .inl t_own)), (h_t_text, .inl (cC, 60, .inl t_text)), (h_t_times, .inl (cI, 62, .inl t_times)), (h_t, .inr (10, [.ref h_t_s, .ref h_t_was, .ref h_t_begun, .int t_states, .ref h_t_text, .int t_typed, .ref h_t_wrong, .ref h_t_cost, .ref h_t_first, .ref h_t_block, .ref h_t_many, .ref h_t_stack, .int t_height, .ref h_t_written, .int t_length, .ref h_t_own, .ref h_t_levelAt, .ref h_t_itemAt, .ref h_t_times, .int t_at, .int t_ownLength, .int t_depth, .int t_deepest, .int t_letters, .int t_repeats, .int t_corrections, .int t_mostCorrections, .int o18.2.1, .int o18.2.2]))] H := hP
        have hD : va_D A [(h_t_itemAt, .inl (cI, 62, .inl t_itemAt)), (h_t_levelAt, .inl (cI, 62, .inl t_levelAt)), (h_t_own, .inl (cI, 1500, .inl t_own)), (h_t_text, .inl (cC, 60, .inl t_text)), (h_t_times, .inl (cI, 62, .inl t_times)), (h_t, .inr (10, [.ref h_t_s, .ref h_t_was, .ref h_t_begun, .int t_states, .ref h_t_text, .int t_typed, .ref h_t_wrong, .ref h_t_cost, .ref h_t_first, .ref h_t_block, .ref h_t_many, .ref h_t_stack, .int t_height, .ref h_t_written, .int t_length, .ref h_t_own, .ref h_t_levelAt, .ref h_t_itemAt, .ref h_t_times, .int t_at, .int t_ownLength, .int t_depth, .int t_deepest, .int t_letters, .int t_repeats, .int t_corrections, .int t_mostCorrections, .int o18.2.1, .int o18.2.2]))] := hD
        refine lv_istore_n (lv' := [(1, .int o18.1), (0, .ref h_t)]) hx hb dX11_reads_134 rfl hl (by decide) rfl (fun ls hl => ?_)
        refine lv_goto (tgt := 49) hx hb dX11_reads_135 (by decide) ?_
        exact ih49 o18.1 t_at t_ownLength t_depth t_deepest t_letters t_repeats t_corrections t_mostCorrections o18.2.1 o18.2.2 t_itemAt t_levelAt t_own t_times H locs ls hres (hP.sub [5, 0, 1, 2, 3, 4] rfl) (hD.sub [5, 0, 1, 2, 3, 4] (by decide) rfl) hS (lv_sub hl [1, 0] rfl)
      intro x1 t_at t_ownLength t_depth t_deepest t_letters t_repeats t_corrections t_mostCorrections t_place t_reason t_itemAt t_levelAt t_own t_times H locs ls hres hP hD hS hl
      rw [fMD_reads_49] at hres
      refine lv_iload_n hx hb dX11_reads_49 rfl (lv_at hl 1 rfl) ?_
      refine lv_if_eq (tgt := 138) hx hb dX11_reads_50 (by decide) (fun c_1 => ?_) (fun c_1 => ?_)
      · have hres := it_of hres c_1
        exact hK138 x1 t_at t_ownLength t_depth t_deepest t_letters t_repeats t_corrections t_mostCorrections t_place t_reason t_itemAt t_levelAt t_own t_times H locs ls hres hP hD hS (lv_sub hl [0, 1] rfl)
      · have hres := ie_of hres c_1
        refine lv_aload_n hx hb dX11_reads_53 rfl (lv_at hl 0 rfl) ?_
        refine va_get (D := (dC, dI)) (ci := 10) (v := .int t_at) (C := RX11) (T := TX11) (N := 29) hx hb hts iMD_reads_X11_reads_1 hown hK hP 0 rfl rfl 19 (by decide) (hts _ kMD_reads_X11_reads_0) (fun _ h9 => h9) rfl dX11_reads_54 ?_
        refine lv_aload_n hx hb dX11_reads_57 rfl (lv_at hl 0 rfl) ?_
        refine va_get (D := (dC, dI)) (ci := 10) (v := .int t_typed) (C := RX11) (T := TX11) (N := 29) hx hb hts iMD_reads_X11_reads_1 hown hK hP 0 rfl rfl 5 (by decide) (hts _ kMD_reads_X11_reads_2) (fun _ h9 => h9) rfl dX11_reads_58 ?_
        refine lv_icmp_ge (tgt := 138) hx hb dX11_reads_61 (by decide) (fun c_2 => ?_) (fun c_2 => ?_)
        · have hres := it_of hres c_2
          exact hK138 x1 t_at t_ownLength t_depth t_deepest t_letters t_repeats t_corrections t_mostCorrections t_place t_reason t_itemAt t_levelAt t_own t_times H locs ls hres hP hD hS (lv_sub hl [0, 1] rfl)
        · have hres := ie_of hres c_2
          refine lv_aload_n hx hb dX11_reads_64 rfl (lv_at hl 0 rfl) ?_
          obtain ⟨o3, ho3, hres⟩ := bd_of hres
          have hPc := hP.sub (ws' := [(h_t, .inr (10, [.ref h_t_s, .ref h_t_was, .ref h_t_begun, .int t_states, .ref h_t_text, .int t_typed, .ref h_t_wrong, .ref h_t_cost, .ref h_t_first, .ref h_t_block, .ref h_t_many, .ref h_t_stack, .int t_height, .ref h_t_written, .int t_length, .ref h_t_own, .ref h_t_levelAt, .ref h_t_itemAt, .ref h_t_times, .int t_at, .int t_ownLength, .int t_depth, .int t_deepest, .int t_letters, .int t_repeats, .int t_corrections, .int t_mostCorrections, .int t_place, .int t_reason])), (h_t_text, .inl (cC, 60, .inl t_text))]) [0, 4] rfl
          have hDc := hD.sub (ws' := [(h_t, .inr (10, [.ref h_t_s, .ref h_t_was, .ref h_t_begun, .int t_states, .ref h_t_text, .int t_typed, .ref h_t_wrong, .ref h_t_cost, .ref h_t_first, .ref h_t_block, .ref h_t_many, .ref h_t_stack, .int t_height, .ref h_t_written, .int t_length, .ref h_t_own, .ref h_t_levelAt, .ref h_t_itemAt, .ref h_t_times, .int t_at, .int t_ownLength, .int t_depth, .int t_deepest, .int t_letters, .int t_repeats, .int t_corrections, .int t_mostCorrections, .int t_place, .int t_reason])), (h_t_text, .inl (cC, 60, .inl t_text))]) [0, 4] (by decide) rfl
          have hFc := va_free (wc := [(h_t, .inr (10, [.ref h_t_s, .ref h_t_was, .ref h_t_begun, .int t_states, .ref h_t_text, .int t_typed, .ref h_t_wrong, .ref h_t_cost, .ref h_t_first, .ref h_t_block, .ref h_t_many, .ref h_t_stack, .int t_height, .ref h_t_written, .int t_length, .ref h_t_own, .ref h_t_levelAt, .ref h_t_itemAt, .ref h_t_times, .int t_at, .int t_ownLength, .int t_depth, .int t_deepest, .int t_letters, .int t_repeats, .int t_corrections, .int t_mostCorrections, .int t_place, .int t_reason])), (h_t_text, .inl (cC, 60, .inl t_text))]) hD hS hA [0, 4] rfl
          refine va_calli (va_runV (As := []) (rest := []) ⟨hx, hb, hml, hown, hts⟩ (cMD_sign l dC dI cI cJ cC cS h_t h_t_s h_t_was h_t_begun h_t_text h_t_wrong h_t_cost h_t_first h_t_block h_t_many h_t_stack h_t_written h_t_own h_t_levelAt h_t_itemAt h_t_times H.size t_states t_typed t_height t_length t_at t_ownLength t_depth t_deepest t_letters t_repeats t_corrections t_mostCorrections t_place t_reason t_text o3 ho3) (cwV 0 hts gX11_reads_X11_sign rfl rfl rfl (by decide +kernel) ⟨Nat.le_of_ble_eq_true rfl, Nat.le_of_ble_eq_true rfl⟩) ⟨fun a U g mk q => by obtain ⟨q0, q1, qP, qK, qN, qD⟩ := q; exact ⟨q0, q1, qP, va_K.moved (u := U) (U := U.calling g mk a) (Vm.Alike.refl U.vm) qK, nwS (u := U) (U := U.calling g mk a) rfl qN, qD⟩, va_recv hK hPc (ci := 10) (q0 := 0) rfl rfl, fun U hU hW => ⟨rfl, by rw [hU], by rw [hU]; exact hPc, va_K.moved hW.alike hK, nwW hW hN, hDc.weaken (fun _ _ _ _ => trivial)⟩⟩ rfl rfl hl.1 rfl (lv_room (Nat.le_of_ble_eq_true rfl)) dX11_reads_65 ⟨Nat.zero_le _, Nat.zero_le _⟩) hS (fun q _ h => hFc q h) hFc (fun r9 u9 t H1 locs ht hvm hw hB hz1 hk1 hS => ?_)
          have hw := hw.symm
          subst hw
          obtain ⟨hP1, hK1, hD1⟩ := hB
          rw [ht] at hP1
          obtain ⟨hP, hD⟩ := va_join (wr := [(h_t_itemAt, .inl (cI, 62, .inl t_itemAt)), (h_t_levelAt, .inl (cI, 62, .inl t_levelAt)), (h_t_own, .inl (cI, 1500, .inl t_own)), (h_t_times, .inl (cI, 62, .inl t_times))]) (w1 := [(h_t, .inr (10, [.ref h_t_s, .ref h_t_was, .ref h_t_begun, .int t_states, .ref h_t_text, .int t_typed, .ref h_t_wrong, .ref h_t_cost, .ref h_t_first, .ref h_t_block, .ref h_t_many, .ref h_t_stack, .int t_height, .ref h_t_written, .int t_length, .ref h_t_own, .ref h_t_levelAt, .ref h_t_itemAt, .ref h_t_times, .int t_at, .int t_ownLength, .int t_depth, .int t_deepest, .int t_letters, .int t_repeats, .int t_corrections, .int t_mostCorrections, .int t_place, .int t_reason])), (h_t_text, .inl (cC, 60, .inl t_text))]) hP hD [0, 4] [1, 2, 3, 5] rfl rfl (by decide) (by decide) hk1 hFc hP1 hD1
          generalize H1 = H at hP hS ⊢
          have hP : va_P (dC, dI) vwCl [(h_t_itemAt, .inl (cI, 62, .inl t_itemAt)), (h_t_levelAt, .inl (cI, 62, .inl t_levelAt)), (h_t_own, .inl (cI, 1500, .inl t_own)), (h_t_times, .inl (cI, 62, .inl t_times)), (h_t, .inr (10, [.ref h_t_s, .ref h_t_was, .ref h_t_begun, .int t_states, .ref h_t_text, .int t_typed, .ref h_t_wrong, .ref h_t_cost, .ref h_t_first, .ref h_t_block, .ref h_t_many, .ref h_t_stack, .int t_height, .ref h_t_written, .int t_length, .ref h_t_own, .ref h_t_levelAt, .ref h_t_itemAt, .ref h_t_times, .int t_at, .int t_ownLength, .int t_depth, .int t_deepest, .int t_letters, .int t_repeats, .int t_corrections, .int t_mostCorrections, .int t_place, .int t_reason])), (h_t_text, .inl (cC, 60, .inl t_text))] H := hP
          have hD : va_D A [(h_t_itemAt, .inl (cI, 62, .inl t_itemAt)), (h_t_levelAt, .inl (cI, 62, .inl t_levelAt)), (h_t_own, .inl (cI, 1500, .inl t_own)), (h_t_times, .inl (cI, 62, .inl t_times)), (h_t, .inr (10, [.ref h_t_s, .ref h_t_was, .ref h_t_begun, .int t_states, .ref h_t_text, .int t_typed, .ref h_t_wrong, .ref h_t_cost, .ref h_t_first, .ref h_t_block, .ref h_t_many, .ref h_t_stack, .int t_height, .ref h_t_written, .int t_length, .ref h_t_own, .ref h_t_levelAt, .ref h_t_itemAt, .ref h_t_times, .int t_at, .int t_ownLength, .int t_depth, .int t_deepest, .int t_letters, .int t_repeats, .int t_corrections, .int t_mostCorrections, .int t_place, .int t_reason])), (h_t_text, .inl (cC, 60, .inl t_text))] := hD
          refine lv_istore_n (lv' := [(2, .int o3), (0, .ref h_t), (1, .int x1)]) hx hb dX11_reads_68 rfl hl (by decide) rfl (fun ls hl => ?_)
          refine lv_iload_n hx hb dX11_reads_69 rfl (lv_at hl 0 rfl) ?_
          refine lv_bipush (v := (97 : Int32)) hx hb dX11_reads_70 (by decide) ?_
          refine lv_bipush (v := (100 : Int32)) hx hb dX11_reads_72 (by decide) ?_
          obtain ⟨o4, ho4, hres⟩ := bd_of hres
          have hPc := hP.sub (ws' := []) [] rfl
          have hDc := hD.sub (ws' := []) [] (by decide) rfl
          have hFc := va_free (wc := []) hD hS hA [] rfl
          refine va_calli (va_runS (As := [.int o3, .int (97 : Int32), .int (100 : Int32)]) (rest := []) ⟨hx, hb, hml, hown, hts⟩ (cMD_in l dC dI cI cJ cC cS H.size o3 (97 : Int32) (100 : Int32) o4 ho4) (va_cwS 3 hts gX11_reads_X11_in rfl rfl rfl (by decide +kernel) ⟨Nat.le_of_ble_eq_true rfl, Nat.le_of_ble_eq_true rfl⟩) ⟨fun a U g mk q => by obtain ⟨q0, q1, qP, qK, qN, qD⟩ := q; exact ⟨q0, q1, qP, va_K.moved (u := U) (U := U.calling g mk a) (Vm.Alike.refl U.vm) qK, nwS (u := U) (U := U.calling g mk a) rfl qN, qD⟩, fun U hU hW => ⟨rfl, by rw [hU], by rw [hU]; exact hPc, va_K.moved hW.alike hK, nwW hW hN, hDc.weaken (fun _ _ _ _ => trivial)⟩⟩ rfl rfl hl.1 rfl (lv_room (Nat.le_of_ble_eq_true rfl)) dX11_reads_74 ⟨Nat.zero_le _, Nat.zero_le _⟩) hS (fun q _ h => hFc q h) hFc (fun r9 u9 t H1 locs ht hvm hw hB hz1 hk1 hS => ?_)
          have hw := hw.symm
          subst hw
          obtain ⟨hP1, hK1, hD1⟩ := hB
          rw [ht] at hP1
          obtain ⟨hP, hD⟩ := va_join (wr := [(h_t_itemAt, .inl (cI, 62, .inl t_itemAt)), (h_t_levelAt, .inl (cI, 62, .inl t_levelAt)), (h_t_own, .inl (cI, 1500, .inl t_own)), (h_t_times, .inl (cI, 62, .inl t_times)), (h_t, .inr (10, [.ref h_t_s, .ref h_t_was, .ref h_t_begun, .int t_states, .ref h_t_text, .int t_typed, .ref h_t_wrong, .ref h_t_cost, .ref h_t_first, .ref h_t_block, .ref h_t_many, .ref h_t_stack, .int t_height, .ref h_t_written, .int t_length, .ref h_t_own, .ref h_t_levelAt, .ref h_t_itemAt, .ref h_t_times, .int t_at, .int t_ownLength, .int t_depth, .int t_deepest, .int t_letters, .int t_repeats, .int t_corrections, .int t_mostCorrections, .int t_place, .int t_reason])), (h_t_text, .inl (cC, 60, .inl t_text))]) (w1 := []) hP hD [] [0, 1, 2, 3, 4, 5] rfl rfl (by decide) (by decide) hk1 hFc hP1 hD1
          generalize H1 = H at hP hS ⊢
          have hP : va_P (dC, dI) vwCl [(h_t_itemAt, .inl (cI, 62, .inl t_itemAt)), (h_t_levelAt, .inl (cI, 62, .inl t_levelAt)), (h_t_own, .inl (cI, 1500, .inl t_own)), (h_t_times, .inl (cI, 62, .inl t_times)), (h_t, .inr (10, [.ref h_t_s, .ref h_t_was, .ref h_t_begun, .int t_states, .ref h_t_text, .int t_typed, .ref h_t_wrong, .ref h_t_cost, .ref h_t_first, .ref h_t_block, .ref h_t_many, .ref h_t_stack, .int t_height, .ref h_t_written, .int t_length, .ref h_t_own, .ref h_t_levelAt, .ref h_t_itemAt, .ref h_t_times, .int t_at, .int t_ownLength, .int t_depth, .int t_deepest, .int t_letters, .int t_repeats, .int t_corrections, .int t_mostCorrections, .int t_place, .int t_reason])), (h_t_text, .inl (cC, 60, .inl t_text))] H := hP
          have hD : va_D A [(h_t_itemAt, .inl (cI, 62, .inl t_itemAt)), (h_t_levelAt, .inl (cI, 62, .inl t_levelAt)), (h_t_own, .inl (cI, 1500, .inl t_own)), (h_t_times, .inl (cI, 62, .inl t_times)), (h_t, .inr (10, [.ref h_t_s, .ref h_t_was, .ref h_t_begun, .int t_states, .ref h_t_text, .int t_typed, .ref h_t_wrong, .ref h_t_cost, .ref h_t_first, .ref h_t_block, .ref h_t_many, .ref h_t_stack, .int t_height, .ref h_t_written, .int t_length, .ref h_t_own, .ref h_t_levelAt, .ref h_t_itemAt, .ref h_t_times, .int t_at, .int t_ownLength, .int t_depth, .int t_deepest, .int t_letters, .int t_repeats, .int t_corrections, .int t_mostCorrections, .int t_place, .int t_reason])), (h_t_text, .inl (cC, 60, .inl t_text))] := hD
          refine lv_if_eq (tgt := 87) hx hb dX11_reads_77 (by decide) (fun c_5 => ?_) (fun c_5 => ?_)
          · have hres := it_of hres c_5
            refine lv_iload_n hx hb dX11_reads_87 rfl (lv_at hl 0 rfl) ?_
            refine lv_bipush (v := (49 : Int32)) hx hb dX11_reads_88 (by decide) ?_
            refine lv_bipush (v := (57 : Int32)) hx hb dX11_reads_90 (by decide) ?_
            obtain ⟨o6, ho6, hres⟩ := bd_of hres
            have hPc := hP.sub (ws' := []) [] rfl
            have hDc := hD.sub (ws' := []) [] (by decide) rfl
            have hFc := va_free (wc := []) hD hS hA [] rfl
            refine va_calli (va_runS (As := [.int o3, .int (49 : Int32), .int (57 : Int32)]) (rest := []) ⟨hx, hb, hml, hown, hts⟩ (cMD_in l dC dI cI cJ cC cS H.size o3 (49 : Int32) (57 : Int32) o6 ho6) (va_cwS 3 hts gX11_reads_X11_in rfl rfl rfl (by decide +kernel) ⟨Nat.le_of_ble_eq_true rfl, Nat.le_of_ble_eq_true rfl⟩) ⟨fun a U g mk q => by obtain ⟨q0, q1, qP, qK, qN, qD⟩ := q; exact ⟨q0, q1, qP, va_K.moved (u := U) (U := U.calling g mk a) (Vm.Alike.refl U.vm) qK, nwS (u := U) (U := U.calling g mk a) rfl qN, qD⟩, fun U hU hW => ⟨rfl, by rw [hU], by rw [hU]; exact hPc, va_K.moved hW.alike hK, nwW hW hN, hDc.weaken (fun _ _ _ _ => trivial)⟩⟩ rfl rfl hl.1 rfl (lv_room (Nat.le_of_ble_eq_true rfl)) dX11_reads_92 ⟨Nat.zero_le _, Nat.zero_le _⟩) hS (fun q _ h => hFc q h) hFc (fun r9 u9 t H1 locs ht hvm hw hB hz1 hk1 hS => ?_)
            have hw := hw.symm
            subst hw
            obtain ⟨hP1, hK1, hD1⟩ := hB
            rw [ht] at hP1
            obtain ⟨hP, hD⟩ := va_join (wr := [(h_t_itemAt, .inl (cI, 62, .inl t_itemAt)), (h_t_levelAt, .inl (cI, 62, .inl t_levelAt)), (h_t_own, .inl (cI, 1500, .inl t_own)), (h_t_times, .inl (cI, 62, .inl t_times)), (h_t, .inr (10, [.ref h_t_s, .ref h_t_was, .ref h_t_begun, .int t_states, .ref h_t_text, .int t_typed, .ref h_t_wrong, .ref h_t_cost, .ref h_t_first, .ref h_t_block, .ref h_t_many, .ref h_t_stack, .int t_height, .ref h_t_written, .int t_length, .ref h_t_own, .ref h_t_levelAt, .ref h_t_itemAt, .ref h_t_times, .int t_at, .int t_ownLength, .int t_depth, .int t_deepest, .int t_letters, .int t_repeats, .int t_corrections, .int t_mostCorrections, .int t_place, .int t_reason])), (h_t_text, .inl (cC, 60, .inl t_text))]) (w1 := []) hP hD [] [0, 1, 2, 3, 4, 5] rfl rfl (by decide) (by decide) hk1 hFc hP1 hD1
            generalize H1 = H at hP hS ⊢
            have hP : va_P (dC, dI) vwCl [(h_t_itemAt, .inl (cI, 62, .inl t_itemAt)), (h_t_levelAt, .inl (cI, 62, .inl t_levelAt)), (h_t_own, .inl (cI, 1500, .inl t_own)), (h_t_times, .inl (cI, 62, .inl t_times)), (h_t, .inr (10, [.ref h_t_s, .ref h_t_was, .ref h_t_begun, .int t_states, .ref h_t_text, .int t_typed, .ref h_t_wrong, .ref h_t_cost, .ref h_t_first, .ref h_t_block, .ref h_t_many, .ref h_t_stack, .int t_height, .ref h_t_written, .int t_length, .ref h_t_own, .ref h_t_levelAt, .ref h_t_itemAt, .ref h_t_times, .int t_at, .int t_ownLength, .int t_depth, .int t_deepest, .int t_letters, .int t_repeats, .int t_corrections, .int t_mostCorrections, .int t_place, .int t_reason])), (h_t_text, .inl (cC, 60, .inl t_text))] H := hP
            have hD : va_D A [(h_t_itemAt, .inl (cI, 62, .inl t_itemAt)), (h_t_levelAt, .inl (cI, 62, .inl t_levelAt)), (h_t_own, .inl (cI, 1500, .inl t_own)), (h_t_times, .inl (cI, 62, .inl t_times)), (h_t, .inr (10, [.ref h_t_s, .ref h_t_was, .ref h_t_begun, .int t_states, .ref h_t_text, .int t_typed, .ref h_t_wrong, .ref h_t_cost, .ref h_t_first, .ref h_t_block, .ref h_t_many, .ref h_t_stack, .int t_height, .ref h_t_written, .int t_length, .ref h_t_own, .ref h_t_levelAt, .ref h_t_itemAt, .ref h_t_times, .int t_at, .int t_ownLength, .int t_depth, .int t_deepest, .int t_letters, .int t_repeats, .int t_corrections, .int t_mostCorrections, .int t_place, .int t_reason])), (h_t_text, .inl (cC, 60, .inl t_text))] := hD
            refine lv_if_eq (tgt := 105) hx hb dX11_reads_95 (by decide) (fun c_7 => ?_) (fun c_7 => ?_)
            · have hres := it_of hres c_7
              refine lv_iload_n hx hb dX11_reads_105 rfl (lv_at hl 0 rfl) ?_
              refine lv_bipush (v := (41 : Int32)) hx hb dX11_reads_106 (by decide) ?_
              refine lv_icmp_ne (tgt := 125) hx hb dX11_reads_108 (by decide) (fun c_8 => ?_) (fun c_8 => ?_)
              · have hres := ie_of hres c_8
                exact hK125 t_at t_ownLength t_depth t_deepest t_letters t_repeats t_corrections t_mostCorrections t_place t_reason t_itemAt t_levelAt t_own t_times H locs ls hres (hP.sub [4, 0, 1, 2, 5, 3] rfl) (hD.sub [4, 0, 1, 2, 5, 3] (by decide) rfl) hS (lv_sub hl [1] rfl)
              · have hres := it_of hres c_8
                refine lv_aload_n hx hb dX11_reads_111 rfl (lv_at hl 1 rfl) ?_
                refine va_get (D := (dC, dI)) (ci := 10) (v := .int t_depth) (C := RX11) (T := TX11) (N := 29) hx hb hts iMD_reads_X11_reads_1 hown hK hP 4 rfl rfl 21 (by decide) (hts _ kMD_reads_X11_reads_3) (fun _ h9 => h9) rfl dX11_reads_112 ?_
                refine lv_if_le (tgt := 125) hx hb dX11_reads_115 (by decide) (fun c_9 => ?_) (fun c_9 => ?_)
                · have hres := it_of hres c_9
                  exact hK125 t_at t_ownLength t_depth t_deepest t_letters t_repeats t_corrections t_mostCorrections t_place t_reason t_itemAt t_levelAt t_own t_times H locs ls hres (hP.sub [4, 0, 1, 2, 5, 3] rfl) (hD.sub [4, 0, 1, 2, 5, 3] (by decide) rfl) hS (lv_sub hl [1] rfl)
                · have hres := ie_of hres c_9
                  refine lv_aload_n hx hb dX11_reads_118 rfl (lv_at hl 1 rfl) ?_
                  obtain ⟨o10, ho10, hres⟩ := bd_of hres
                  have hPc := hP.sub (ws' := [(h_t, .inr (10, [.ref h_t_s, .ref h_t_was, .ref h_t_begun, .int t_states, .ref h_t_text, .int t_typed, .ref h_t_wrong, .ref h_t_cost, .ref h_t_first, .ref h_t_block, .ref h_t_many, .ref h_t_stack, .int t_height, .ref h_t_written, .int t_length, .ref h_t_own, .ref h_t_levelAt, .ref h_t_itemAt, .ref h_t_times, .int t_at, .int t_ownLength, .int t_depth, .int t_deepest, .int t_letters, .int t_repeats, .int t_corrections, .int t_mostCorrections, .int t_place, .int t_reason])), (h_t_itemAt, .inl (cI, 62, .inl t_itemAt)), (h_t_levelAt, .inl (cI, 62, .inl t_levelAt)), (h_t_own, .inl (cI, 1500, .inl t_own)), (h_t_text, .inl (cC, 60, .inl t_text)), (h_t_times, .inl (cI, 62, .inl t_times))]) [4, 0, 1, 2, 5, 3] rfl
                  have hDc := hD.sub (ws' := [(h_t, .inr (10, [.ref h_t_s, .ref h_t_was, .ref h_t_begun, .int t_states, .ref h_t_text, .int t_typed, .ref h_t_wrong, .ref h_t_cost, .ref h_t_first, .ref h_t_block, .ref h_t_many, .ref h_t_stack, .int t_height, .ref h_t_written, .int t_length, .ref h_t_own, .ref h_t_levelAt, .ref h_t_itemAt, .ref h_t_times, .int t_at, .int t_ownLength, .int t_depth, .int t_deepest, .int t_letters, .int t_repeats, .int t_corrections, .int t_mostCorrections, .int t_place, .int t_reason])), (h_t_itemAt, .inl (cI, 62, .inl t_itemAt)), (h_t_levelAt, .inl (cI, 62, .inl t_levelAt)), (h_t_own, .inl (cI, 1500, .inl t_own)), (h_t_text, .inl (cC, 60, .inl t_text)), (h_t_times, .inl (cI, 62, .inl t_times))]) [4, 0, 1, 2, 5, 3] (by decide) rfl
                  have hFc := va_free (wc := [(h_t, .inr (10, [.ref h_t_s, .ref h_t_was, .ref h_t_begun, .int t_states, .ref h_t_text, .int t_typed, .ref h_t_wrong, .ref h_t_cost, .ref h_t_first, .ref h_t_block, .ref h_t_many, .ref h_t_stack, .int t_height, .ref h_t_written, .int t_length, .ref h_t_own, .ref h_t_levelAt, .ref h_t_itemAt, .ref h_t_times, .int t_at, .int t_ownLength, .int t_depth, .int t_deepest, .int t_letters, .int t_repeats, .int t_corrections, .int t_mostCorrections, .int t_place, .int t_reason])), (h_t_itemAt, .inl (cI, 62, .inl t_itemAt)), (h_t_levelAt, .inl (cI, 62, .inl t_levelAt)), (h_t_own, .inl (cI, 1500, .inl t_own)), (h_t_text, .inl (cC, 60, .inl t_text)), (h_t_times, .inl (cI, 62, .inl t_times))]) hD hS hA [4, 0, 1, 2, 5, 3] rfl
                  refine va_calli (va_runV (As := []) (rest := []) ⟨hx, hb, hml, hown, hts⟩ (cMD_endsBlock l dC dI cI cJ cC cS h_t h_t_s h_t_was h_t_begun h_t_text h_t_wrong h_t_cost h_t_first h_t_block h_t_many h_t_stack h_t_written h_t_own h_t_levelAt h_t_itemAt h_t_times H.size t_states t_typed t_height t_length t_at t_ownLength t_depth t_deepest t_letters t_repeats t_corrections t_mostCorrections t_place t_reason t_itemAt t_levelAt t_own t_text t_times o10.1 o10.2.1 o10.2.2.1 o10.2.2.2.1 o10.2.2.2.2.1 o10.2.2.2.2.2.1 o10.2.2.2.2.2.2.1 o10.2.2.2.2.2.2.2.1 o10.2.2.2.2.2.2.2.2 ho10) (cwV 0 hts gX11_reads_X11_endsBlock rfl rfl rfl (by decide +kernel) ⟨Nat.le_of_ble_eq_true rfl, Nat.le_of_ble_eq_true rfl⟩) ⟨fun a U g mk q => by obtain ⟨q0, q1, qP, qK, qN, qD⟩ := q; exact ⟨q0, q1, qP, va_K.moved (u := U) (U := U.calling g mk a) (Vm.Alike.refl U.vm) qK, nwS (u := U) (U := U.calling g mk a) rfl qN, qD⟩, va_recv hK hPc (ci := 10) (q0 := 0) rfl rfl, fun U hU hW => ⟨rfl, by rw [hU], by rw [hU]; exact hPc, va_K.moved hW.alike hK, nwW hW hN, hDc.weaken (fun _ _ _ _ => trivial)⟩⟩ rfl rfl hl.1 rfl (lv_room (Nat.le_of_ble_eq_true rfl)) dX11_reads_119 ⟨Nat.zero_le _, Nat.zero_le _⟩) hS (fun q _ h => hFc q h) hFc (fun r9 u9 t H1 locs ht hvm hw hB hz1 hk1 hS => ?_)
                  have hw := hw.symm
                  subst hw
                  obtain ⟨hP1, hK1, hD1⟩ := hB
                  rw [ht] at hP1
                  obtain ⟨hP, hD⟩ := va_join (wr := []) (w1 := [(h_t, .inr (10, [.ref h_t_s, .ref h_t_was, .ref h_t_begun, .int t_states, .ref h_t_text, .int t_typed, .ref h_t_wrong, .ref h_t_cost, .ref h_t_first, .ref h_t_block, .ref h_t_many, .ref h_t_stack, .int t_height, .ref h_t_written, .int t_length, .ref h_t_own, .ref h_t_levelAt, .ref h_t_itemAt, .ref h_t_times, .int o10.2.1, .int o10.2.2.1, .int o10.2.2.2.1, .int t_deepest, .int t_letters, .int t_repeats, .int o10.2.2.2.2.1, .int o10.2.2.2.2.2.1, .int o10.2.2.2.2.2.2.1, .int o10.2.2.2.2.2.2.2.1])), (h_t_itemAt, .inl (cI, 62, .inl t_itemAt)), (h_t_levelAt, .inl (cI, 62, .inl t_levelAt)), (h_t_own, .inl (cI, 1500, .inl o10.2.2.2.2.2.2.2.2)), (h_t_text, .inl (cC, 60, .inl t_text)), (h_t_times, .inl (cI, 62, .inl t_times))]) hP hD [4, 0, 1, 2, 5, 3] [] rfl rfl (by decide) (by decide) hk1 hFc hP1 hD1
                  generalize H1 = H at hP hS ⊢
                  have hP : va_P (dC, dI) vwCl [(h_t, .inr (10, [.ref h_t_s, .ref h_t_was, .ref h_t_begun, .int t_states, .ref h_t_text, .int t_typed, .ref h_t_wrong, .ref h_t_cost, .ref h_t_first, .ref h_t_block, .ref h_t_many, .ref h_t_stack, .int t_height, .ref h_t_written, .int t_length, .ref h_t_own, .ref h_t_levelAt, .ref h_t_itemAt, .ref h_t_times, .int o10.2.1, .int o10.2.2.1, .int o10.2.2.2.1, .int t_deepest, .int t_letters, .int t_repeats, .int o10.2.2.2.2.1, .int o10.2.2.2.2.2.1, .int o10.2.2.2.2.2.2.1, .int o10.2.2.2.2.2.2.2.1])), (h_t_itemAt, .inl (cI, 62, .inl t_itemAt)), (h_t_levelAt, .inl (cI, 62, .inl t_levelAt)), (h_t_own, .inl (cI, 1500, .inl o10.2.2.2.2.2.2.2.2)), (h_t_text, .inl (cC, 60, .inl t_text)), (h_t_times, .inl (cI, 62, .inl t_times))] H := hP
                  have hD : va_D A [(h_t, .inr (10, [.ref h_t_s, .ref h_t_was, .ref h_t_begun, .int t_states, .ref h_t_text, .int t_typed, .ref h_t_wrong, .ref h_t_cost, .ref h_t_first, .ref h_t_block, .ref h_t_many, .ref h_t_stack, .int t_height, .ref h_t_written, .int t_length, .ref h_t_own, .ref h_t_levelAt, .ref h_t_itemAt, .ref h_t_times, .int o10.2.1, .int o10.2.2.1, .int o10.2.2.2.1, .int t_deepest, .int t_letters, .int t_repeats, .int o10.2.2.2.2.1, .int o10.2.2.2.2.2.1, .int o10.2.2.2.2.2.2.1, .int o10.2.2.2.2.2.2.2.1])), (h_t_itemAt, .inl (cI, 62, .inl t_itemAt)), (h_t_levelAt, .inl (cI, 62, .inl t_levelAt)), (h_t_own, .inl (cI, 1500, .inl o10.2.2.2.2.2.2.2.2)), (h_t_text, .inl (cC, 60, .inl t_text)), (h_t_times, .inl (cI, 62, .inl t_times))] := hD
                  refine lv_goto (tgt := 134) hx hb dX11_reads_122 (by decide) ?_
                  refine lv_istore_n (lv' := [(1, .int o10.1), (2, .int o3), (0, .ref h_t)]) hx hb dX11_reads_134 rfl hl (by decide) rfl (fun ls hl => ?_)
                  refine lv_goto (tgt := 49) hx hb dX11_reads_135 (by decide) ?_
                  exact ih49 o10.1 o10.2.1 o10.2.2.1 o10.2.2.2.1 t_deepest t_letters t_repeats o10.2.2.2.2.1 o10.2.2.2.2.2.1 o10.2.2.2.2.2.2.1 o10.2.2.2.2.2.2.2.1 t_itemAt t_levelAt o10.2.2.2.2.2.2.2.2 t_times H locs ls hres hP hD hS (lv_sub hl [2, 0] rfl)
            · have hres := ie_of hres c_7
              refine lv_aload_n hx hb dX11_reads_98 rfl (lv_at hl 1 rfl) ?_
              obtain ⟨o11, ho11, hres⟩ := bd_of hres
              have hPc := hP.sub (ws' := [(h_t, .inr (10, [.ref h_t_s, .ref h_t_was, .ref h_t_begun, .int t_states, .ref h_t_text, .int t_typed, .ref h_t_wrong, .ref h_t_cost, .ref h_t_first, .ref h_t_block, .ref h_t_many, .ref h_t_stack, .int t_height, .ref h_t_written, .int t_length, .ref h_t_own, .ref h_t_levelAt, .ref h_t_itemAt, .ref h_t_times, .int t_at, .int t_ownLength, .int t_depth, .int t_deepest, .int t_letters, .int t_repeats, .int t_corrections, .int t_mostCorrections, .int t_place, .int t_reason])), (h_t_itemAt, .inl (cI, 62, .inl t_itemAt)), (h_t_levelAt, .inl (cI, 62, .inl t_levelAt)), (h_t_text, .inl (cC, 60, .inl t_text)), (h_t_times, .inl (cI, 62, .inl t_times))]) [4, 0, 1, 5, 3] rfl
              have hDc := hD.sub (ws' := [(h_t, .inr (10, [.ref h_t_s, .ref h_t_was, .ref h_t_begun, .int t_states, .ref h_t_text, .int t_typed, .ref h_t_wrong, .ref h_t_cost, .ref h_t_first, .ref h_t_block, .ref h_t_many, .ref h_t_stack, .int t_height, .ref h_t_written, .int t_length, .ref h_t_own, .ref h_t_levelAt, .ref h_t_itemAt, .ref h_t_times, .int t_at, .int t_ownLength, .int t_depth, .int t_deepest, .int t_letters, .int t_repeats, .int t_corrections, .int t_mostCorrections, .int t_place, .int t_reason])), (h_t_itemAt, .inl (cI, 62, .inl t_itemAt)), (h_t_levelAt, .inl (cI, 62, .inl t_levelAt)), (h_t_text, .inl (cC, 60, .inl t_text)), (h_t_times, .inl (cI, 62, .inl t_times))]) [4, 0, 1, 5, 3] (by decide) rfl
              have hFc := va_free (wc := [(h_t, .inr (10, [.ref h_t_s, .ref h_t_was, .ref h_t_begun, .int t_states, .ref h_t_text, .int t_typed, .ref h_t_wrong, .ref h_t_cost, .ref h_t_first, .ref h_t_block, .ref h_t_many, .ref h_t_stack, .int t_height, .ref h_t_written, .int t_length, .ref h_t_own, .ref h_t_levelAt, .ref h_t_itemAt, .ref h_t_times, .int t_at, .int t_ownLength, .int t_depth, .int t_deepest, .int t_letters, .int t_repeats, .int t_corrections, .int t_mostCorrections, .int t_place, .int t_reason])), (h_t_itemAt, .inl (cI, 62, .inl t_itemAt)), (h_t_levelAt, .inl (cI, 62, .inl t_levelAt)), (h_t_text, .inl (cC, 60, .inl t_text)), (h_t_times, .inl (cI, 62, .inl t_times))]) hD hS hA [4, 0, 1, 5, 3] rfl
              refine va_calli (va_runV (As := []) (rest := []) ⟨hx, hb, hml, hown, hts⟩ (cMD_opensBlock l dC dI cI cJ cC cS h_t h_t_s h_t_was h_t_begun h_t_text h_t_wrong h_t_cost h_t_first h_t_block h_t_many h_t_stack h_t_written h_t_own h_t_levelAt h_t_itemAt h_t_times H.size t_states t_typed t_height t_length t_at t_ownLength t_depth t_deepest t_letters t_repeats t_corrections t_mostCorrections t_place t_reason t_itemAt t_levelAt t_text t_times o11.1 o11.2.1 o11.2.2.1 o11.2.2.2.1 o11.2.2.2.2.1 o11.2.2.2.2.2.1 o11.2.2.2.2.2.2.1 o11.2.2.2.2.2.2.2.1 o11.2.2.2.2.2.2.2.2.1 o11.2.2.2.2.2.2.2.2.2 ho11) (cwV 0 hts gX11_reads_X11_opensBlock rfl rfl rfl (by decide +kernel) ⟨Nat.le_of_ble_eq_true rfl, Nat.le_of_ble_eq_true rfl⟩) ⟨fun a U g mk q => by obtain ⟨q0, q1, qP, qK, qN, qD⟩ := q; exact ⟨q0, q1, qP, va_K.moved (u := U) (U := U.calling g mk a) (Vm.Alike.refl U.vm) qK, nwS (u := U) (U := U.calling g mk a) rfl qN, qD⟩, va_recv hK hPc (ci := 10) (q0 := 0) rfl rfl, fun U hU hW => ⟨rfl, by rw [hU], by rw [hU]; exact hPc, va_K.moved hW.alike hK, nwW hW hN, hDc.weaken (fun _ _ _ _ => trivial)⟩⟩ rfl rfl hl.1 rfl (lv_room (Nat.le_of_ble_eq_true rfl)) dX11_reads_99 ⟨Nat.zero_le _, Nat.zero_le _⟩) hS (fun q _ h => hFc q h) hFc (fun r9 u9 t H1 locs ht hvm hw hB hz1 hk1 hS => ?_)
              have hw := hw.symm
              subst hw
              obtain ⟨hP1, hK1, hD1⟩ := hB
              rw [ht] at hP1
              obtain ⟨hP, hD⟩ := va_join (wr := [(h_t_own, .inl (cI, 1500, .inl t_own))]) (w1 := [(h_t, .inr (10, [.ref h_t_s, .ref h_t_was, .ref h_t_begun, .int t_states, .ref h_t_text, .int t_typed, .ref h_t_wrong, .ref h_t_cost, .ref h_t_first, .ref h_t_block, .ref h_t_many, .ref h_t_stack, .int t_height, .ref h_t_written, .int t_length, .ref h_t_own, .ref h_t_levelAt, .ref h_t_itemAt, .ref h_t_times, .int o11.2.1, .int t_ownLength, .int o11.2.2.1, .int o11.2.2.2.1, .int t_letters, .int o11.2.2.2.2.1, .int t_corrections, .int t_mostCorrections, .int o11.2.2.2.2.2.1, .int o11.2.2.2.2.2.2.1])), (h_t_itemAt, .inl (cI, 62, .inl o11.2.2.2.2.2.2.2.1)), (h_t_levelAt, .inl (cI, 62, .inl o11.2.2.2.2.2.2.2.2.1)), (h_t_text, .inl (cC, 60, .inl t_text)), (h_t_times, .inl (cI, 62, .inl o11.2.2.2.2.2.2.2.2.2))]) hP hD [4, 0, 1, 5, 3] [2] rfl rfl (by decide) (by decide) hk1 hFc hP1 hD1
              generalize H1 = H at hP hS ⊢
              have hP : va_P (dC, dI) vwCl [(h_t_own, .inl (cI, 1500, .inl t_own)), (h_t, .inr (10, [.ref h_t_s, .ref h_t_was, .ref h_t_begun, .int t_states, .ref h_t_text, .int t_typed, .ref h_t_wrong, .ref h_t_cost, .ref h_t_first, .ref h_t_block, .ref h_t_many, .ref h_t_stack, .int t_height, .ref h_t_written, .int t_length, .ref h_t_own, .ref h_t_levelAt, .ref h_t_itemAt, .ref h_t_times, .int o11.2.1, .int t_ownLength, .int o11.2.2.1, .int o11.2.2.2.1, .int t_letters, .int o11.2.2.2.2.1, .int t_corrections, .int t_mostCorrections, .int o11.2.2.2.2.2.1, .int o11.2.2.2.2.2.2.1])), (h_t_itemAt, .inl (cI, 62, .inl o11.2.2.2.2.2.2.2.1)), (h_t_levelAt, .inl (cI, 62, .inl o11.2.2.2.2.2.2.2.2.1)), (h_t_text, .inl (cC, 60, .inl t_text)), (h_t_times, .inl (cI, 62, .inl o11.2.2.2.2.2.2.2.2.2))] H := hP
              have hD : va_D A [(h_t_own, .inl (cI, 1500, .inl t_own)), (h_t, .inr (10, [.ref h_t_s, .ref h_t_was, .ref h_t_begun, .int t_states, .ref h_t_text, .int t_typed, .ref h_t_wrong, .ref h_t_cost, .ref h_t_first, .ref h_t_block, .ref h_t_many, .ref h_t_stack, .int t_height, .ref h_t_written, .int t_length, .ref h_t_own, .ref h_t_levelAt, .ref h_t_itemAt, .ref h_t_times, .int o11.2.1, .int t_ownLength, .int o11.2.2.1, .int o11.2.2.2.1, .int t_letters, .int o11.2.2.2.2.1, .int t_corrections, .int t_mostCorrections, .int o11.2.2.2.2.2.1, .int o11.2.2.2.2.2.2.1])), (h_t_itemAt, .inl (cI, 62, .inl o11.2.2.2.2.2.2.2.1)), (h_t_levelAt, .inl (cI, 62, .inl o11.2.2.2.2.2.2.2.2.1)), (h_t_text, .inl (cC, 60, .inl t_text)), (h_t_times, .inl (cI, 62, .inl o11.2.2.2.2.2.2.2.2.2))] := hD
              refine lv_goto (tgt := 134) hx hb dX11_reads_102 (by decide) ?_
              refine lv_istore_n (lv' := [(1, .int o11.1), (2, .int o3), (0, .ref h_t)]) hx hb dX11_reads_134 rfl hl (by decide) rfl (fun ls hl => ?_)
              refine lv_goto (tgt := 49) hx hb dX11_reads_135 (by decide) ?_
              exact ih49 o11.1 o11.2.1 t_ownLength o11.2.2.1 o11.2.2.2.1 t_letters o11.2.2.2.2.1 t_corrections t_mostCorrections o11.2.2.2.2.2.1 o11.2.2.2.2.2.2.1 o11.2.2.2.2.2.2.2.1 o11.2.2.2.2.2.2.2.2.1 t_own o11.2.2.2.2.2.2.2.2.2 H locs ls hres (hP.sub [1, 2, 3, 0, 4, 5] rfl) (hD.sub [1, 2, 3, 0, 4, 5] (by decide) rfl) hS (lv_sub hl [2, 0] rfl)
          · have hres := ie_of hres c_5
            refine lv_aload_n hx hb dX11_reads_80 rfl (lv_at hl 1 rfl) ?_
            obtain ⟨o12, ho12, hres⟩ := bd_of hres
            have hPc := hP.sub (ws' := [(h_t, .inr (10, [.ref h_t_s, .ref h_t_was, .ref h_t_begun, .int t_states, .ref h_t_text, .int t_typed, .ref h_t_wrong, .ref h_t_cost, .ref h_t_first, .ref h_t_block, .ref h_t_many, .ref h_t_stack, .int t_height, .ref h_t_written, .int t_length, .ref h_t_own, .ref h_t_levelAt, .ref h_t_itemAt, .ref h_t_times, .int t_at, .int t_ownLength, .int t_depth, .int t_deepest, .int t_letters, .int t_repeats, .int t_corrections, .int t_mostCorrections, .int t_place, .int t_reason])), (h_t_levelAt, .inl (cI, 62, .inl t_levelAt)), (h_t_own, .inl (cI, 1500, .inl t_own)), (h_t_text, .inl (cC, 60, .inl t_text))]) [4, 1, 2, 5] rfl
            have hDc := hD.sub (ws' := [(h_t, .inr (10, [.ref h_t_s, .ref h_t_was, .ref h_t_begun, .int t_states, .ref h_t_text, .int t_typed, .ref h_t_wrong, .ref h_t_cost, .ref h_t_first, .ref h_t_block, .ref h_t_many, .ref h_t_stack, .int t_height, .ref h_t_written, .int t_length, .ref h_t_own, .ref h_t_levelAt, .ref h_t_itemAt, .ref h_t_times, .int t_at, .int t_ownLength, .int t_depth, .int t_deepest, .int t_letters, .int t_repeats, .int t_corrections, .int t_mostCorrections, .int t_place, .int t_reason])), (h_t_levelAt, .inl (cI, 62, .inl t_levelAt)), (h_t_own, .inl (cI, 1500, .inl t_own)), (h_t_text, .inl (cC, 60, .inl t_text))]) [4, 1, 2, 5] (by decide) rfl
            have hFc := va_free (wc := [(h_t, .inr (10, [.ref h_t_s, .ref h_t_was, .ref h_t_begun, .int t_states, .ref h_t_text, .int t_typed, .ref h_t_wrong, .ref h_t_cost, .ref h_t_first, .ref h_t_block, .ref h_t_many, .ref h_t_stack, .int t_height, .ref h_t_written, .int t_length, .ref h_t_own, .ref h_t_levelAt, .ref h_t_itemAt, .ref h_t_times, .int t_at, .int t_ownLength, .int t_depth, .int t_deepest, .int t_letters, .int t_repeats, .int t_corrections, .int t_mostCorrections, .int t_place, .int t_reason])), (h_t_levelAt, .inl (cI, 62, .inl t_levelAt)), (h_t_own, .inl (cI, 1500, .inl t_own)), (h_t_text, .inl (cC, 60, .inl t_text))]) hD hS hA [4, 1, 2, 5] rfl
            refine va_calli (va_runV (As := []) (rest := []) ⟨hx, hb, hml, hown, hts⟩ (cMD_readsLetter l dC dI cI cJ cC cS h_t h_t_s h_t_was h_t_begun h_t_text h_t_wrong h_t_cost h_t_first h_t_block h_t_many h_t_stack h_t_written h_t_own h_t_levelAt h_t_itemAt h_t_times H.size t_states t_typed t_height t_length t_at t_ownLength t_depth t_deepest t_letters t_repeats t_corrections t_mostCorrections t_place t_reason t_levelAt t_own t_text o12.1 o12.2.1 o12.2.2.1 o12.2.2.2.1 o12.2.2.2.2.1 o12.2.2.2.2.2.1 o12.2.2.2.2.2.2 ho12) (cwV 0 hts gX11_reads_X11_readsLetter rfl rfl rfl (by decide +kernel) ⟨Nat.le_of_ble_eq_true rfl, Nat.le_of_ble_eq_true rfl⟩) ⟨fun a U g mk q => by obtain ⟨q0, q1, qP, qK, qN, qD⟩ := q; exact ⟨q0, q1, qP, va_K.moved (u := U) (U := U.calling g mk a) (Vm.Alike.refl U.vm) qK, nwS (u := U) (U := U.calling g mk a) rfl qN, qD⟩, va_recv hK hPc (ci := 10) (q0 := 0) rfl rfl, fun U hU hW => ⟨rfl, by rw [hU], by rw [hU]; exact hPc, va_K.moved hW.alike hK, nwW hW hN, hDc.weaken (fun _ _ _ _ => trivial)⟩⟩ rfl rfl hl.1 rfl (lv_room (Nat.le_of_ble_eq_true rfl)) dX11_reads_81 ⟨Nat.zero_le _, Nat.zero_le _⟩) hS (fun q _ h => hFc q h) hFc (fun r9 u9 t H1 locs ht hvm hw hB hz1 hk1 hS => ?_)
            have hw := hw.symm
            subst hw
            obtain ⟨hP1, hK1, hD1⟩ := hB
            rw [ht] at hP1
            obtain ⟨hP, hD⟩ := va_join (wr := [(h_t_itemAt, .inl (cI, 62, .inl t_itemAt)), (h_t_times, .inl (cI, 62, .inl t_times))]) (w1 := [(h_t, .inr (10, [.ref h_t_s, .ref h_t_was, .ref h_t_begun, .int t_states, .ref h_t_text, .int t_typed, .ref h_t_wrong, .ref h_t_cost, .ref h_t_first, .ref h_t_block, .ref h_t_many, .ref h_t_stack, .int t_height, .ref h_t_written, .int t_length, .ref h_t_own, .ref h_t_levelAt, .ref h_t_itemAt, .ref h_t_times, .int o12.2.1, .int o12.2.2.1, .int t_depth, .int t_deepest, .int o12.2.2.2.1, .int t_repeats, .int t_corrections, .int t_mostCorrections, .int o12.2.2.2.2.1, .int o12.2.2.2.2.2.1])), (h_t_levelAt, .inl (cI, 62, .inl t_levelAt)), (h_t_own, .inl (cI, 1500, .inl o12.2.2.2.2.2.2)), (h_t_text, .inl (cC, 60, .inl t_text))]) hP hD [4, 1, 2, 5] [0, 3] rfl rfl (by decide) (by decide) hk1 hFc hP1 hD1
            generalize H1 = H at hP hS ⊢
            have hP : va_P (dC, dI) vwCl [(h_t_itemAt, .inl (cI, 62, .inl t_itemAt)), (h_t_times, .inl (cI, 62, .inl t_times)), (h_t, .inr (10, [.ref h_t_s, .ref h_t_was, .ref h_t_begun, .int t_states, .ref h_t_text, .int t_typed, .ref h_t_wrong, .ref h_t_cost, .ref h_t_first, .ref h_t_block, .ref h_t_many, .ref h_t_stack, .int t_height, .ref h_t_written, .int t_length, .ref h_t_own, .ref h_t_levelAt, .ref h_t_itemAt, .ref h_t_times, .int o12.2.1, .int o12.2.2.1, .int t_depth, .int t_deepest, .int o12.2.2.2.1, .int t_repeats, .int t_corrections, .int t_mostCorrections, .int o12.2.2.2.2.1, .int o12.2.2.2.2.2.1])), (h_t_levelAt, .inl (cI, 62, .inl t_levelAt)), (h_t_own, .inl (cI, 1500, .inl o12.2.2.2.2.2.2)), (h_t_text, .inl (cC, 60, .inl t_text))] H := hP
            have hD : va_D A [(h_t_itemAt, .inl (cI, 62, .inl t_itemAt)), (h_t_times, .inl (cI, 62, .inl t_times)), (h_t, .inr (10, [.ref h_t_s, .ref h_t_was, .ref h_t_begun, .int t_states, .ref h_t_text, .int t_typed, .ref h_t_wrong, .ref h_t_cost, .ref h_t_first, .ref h_t_block, .ref h_t_many, .ref h_t_stack, .int t_height, .ref h_t_written, .int t_length, .ref h_t_own, .ref h_t_levelAt, .ref h_t_itemAt, .ref h_t_times, .int o12.2.1, .int o12.2.2.1, .int t_depth, .int t_deepest, .int o12.2.2.2.1, .int t_repeats, .int t_corrections, .int t_mostCorrections, .int o12.2.2.2.2.1, .int o12.2.2.2.2.2.1])), (h_t_levelAt, .inl (cI, 62, .inl t_levelAt)), (h_t_own, .inl (cI, 1500, .inl o12.2.2.2.2.2.2)), (h_t_text, .inl (cC, 60, .inl t_text))] := hD
            refine lv_goto (tgt := 134) hx hb dX11_reads_84 (by decide) ?_
            refine lv_istore_n (lv' := [(1, .int o12.1), (2, .int o3), (0, .ref h_t)]) hx hb dX11_reads_134 rfl hl (by decide) rfl (fun ls hl => ?_)
            refine lv_goto (tgt := 49) hx hb dX11_reads_135 (by decide) ?_
            exact ih49 o12.1 o12.2.1 o12.2.2.1 t_depth t_deepest o12.2.2.2.1 t_repeats t_corrections t_mostCorrections o12.2.2.2.2.1 o12.2.2.2.2.2.1 t_itemAt t_levelAt o12.2.2.2.2.2.2 t_times H locs ls hres (hP.sub [2, 0, 3, 4, 5, 1] rfl) (hD.sub [2, 0, 3, 4, 5, 1] (by decide) rfl) hS (lv_sub hl [2, 0] rfl)
  rw [fMD_reads] at hres
  refine lv_aload_n hx hb dX11_reads_0 rfl (lv_at hl 0 rfl) ?_
  refine lv_iconst (v := (0 : Int32)) hx hb dX11_reads_1 (by decide) ?_
  refine va_put (D := (dC, dI)) (ci := 10) (v := .int (0 : Int32)) (ty := .int) (C := RX11) (T := TX11) (N := 29) hx hb hts iMD_reads_X11_reads_1 tyX11 tyX11_ok nmX11 hown hK hP hD hS 0 rfl rfl 19 (by decide) (hts _ kMD_reads_X11_reads_0) (fun _ h9 => h9) rfl (by decide +kernel) rfl rfl (Nat.le_of_ble_eq_true rfl) dX11_reads_2 (fun H locs hP hD hS => ?_)
  have hP : va_P (dC, dI) vwCl [(h_t, .inr (10, [.ref h_t_s, .ref h_t_was, .ref h_t_begun, .int t_states, .ref h_t_text, .int t_typed, .ref h_t_wrong, .ref h_t_cost, .ref h_t_first, .ref h_t_block, .ref h_t_many, .ref h_t_stack, .int t_height, .ref h_t_written, .int t_length, .ref h_t_own, .ref h_t_levelAt, .ref h_t_itemAt, .ref h_t_times, .int (0 : Int32), .int t_ownLength, .int t_depth, .int t_deepest, .int t_letters, .int t_repeats, .int t_corrections, .int t_mostCorrections, .int t_place, .int t_reason])), (h_t_itemAt, .inl (cI, 62, .inl t_itemAt)), (h_t_levelAt, .inl (cI, 62, .inl t_levelAt)), (h_t_own, .inl (cI, 1500, .inl t_own)), (h_t_text, .inl (cC, 60, .inl t_text)), (h_t_times, .inl (cI, 62, .inl t_times))] H := hP
  have hD : va_D A [(h_t, .inr (10, [.ref h_t_s, .ref h_t_was, .ref h_t_begun, .int t_states, .ref h_t_text, .int t_typed, .ref h_t_wrong, .ref h_t_cost, .ref h_t_first, .ref h_t_block, .ref h_t_many, .ref h_t_stack, .int t_height, .ref h_t_written, .int t_length, .ref h_t_own, .ref h_t_levelAt, .ref h_t_itemAt, .ref h_t_times, .int (0 : Int32), .int t_ownLength, .int t_depth, .int t_deepest, .int t_letters, .int t_repeats, .int t_corrections, .int t_mostCorrections, .int t_place, .int t_reason])), (h_t_itemAt, .inl (cI, 62, .inl t_itemAt)), (h_t_levelAt, .inl (cI, 62, .inl t_levelAt)), (h_t_own, .inl (cI, 1500, .inl t_own)), (h_t_text, .inl (cC, 60, .inl t_text)), (h_t_times, .inl (cI, 62, .inl t_times))] := hD
  refine lv_aload_n hx hb dX11_reads_5 rfl (lv_at hl 0 rfl) ?_
  refine lv_iconst (v := (0 : Int32)) hx hb dX11_reads_6 (by decide) ?_
  refine va_put (D := (dC, dI)) (ci := 10) (v := .int (0 : Int32)) (ty := .int) (C := RX11) (T := TX11) (N := 29) hx hb hts iMD_reads_X11_reads_1 tyX11 tyX11_ok nmX11 hown hK hP hD hS 0 rfl rfl 20 (by decide) (hts _ kMD_reads_X11_reads_4) (fun _ h9 => h9) rfl (by decide +kernel) rfl rfl (Nat.le_of_ble_eq_true rfl) dX11_reads_7 (fun H locs hP hD hS => ?_)
  have hP : va_P (dC, dI) vwCl [(h_t, .inr (10, [.ref h_t_s, .ref h_t_was, .ref h_t_begun, .int t_states, .ref h_t_text, .int t_typed, .ref h_t_wrong, .ref h_t_cost, .ref h_t_first, .ref h_t_block, .ref h_t_many, .ref h_t_stack, .int t_height, .ref h_t_written, .int t_length, .ref h_t_own, .ref h_t_levelAt, .ref h_t_itemAt, .ref h_t_times, .int (0 : Int32), .int (0 : Int32), .int t_depth, .int t_deepest, .int t_letters, .int t_repeats, .int t_corrections, .int t_mostCorrections, .int t_place, .int t_reason])), (h_t_itemAt, .inl (cI, 62, .inl t_itemAt)), (h_t_levelAt, .inl (cI, 62, .inl t_levelAt)), (h_t_own, .inl (cI, 1500, .inl t_own)), (h_t_text, .inl (cC, 60, .inl t_text)), (h_t_times, .inl (cI, 62, .inl t_times))] H := hP
  have hD : va_D A [(h_t, .inr (10, [.ref h_t_s, .ref h_t_was, .ref h_t_begun, .int t_states, .ref h_t_text, .int t_typed, .ref h_t_wrong, .ref h_t_cost, .ref h_t_first, .ref h_t_block, .ref h_t_many, .ref h_t_stack, .int t_height, .ref h_t_written, .int t_length, .ref h_t_own, .ref h_t_levelAt, .ref h_t_itemAt, .ref h_t_times, .int (0 : Int32), .int (0 : Int32), .int t_depth, .int t_deepest, .int t_letters, .int t_repeats, .int t_corrections, .int t_mostCorrections, .int t_place, .int t_reason])), (h_t_itemAt, .inl (cI, 62, .inl t_itemAt)), (h_t_levelAt, .inl (cI, 62, .inl t_levelAt)), (h_t_own, .inl (cI, 1500, .inl t_own)), (h_t_text, .inl (cC, 60, .inl t_text)), (h_t_times, .inl (cI, 62, .inl t_times))] := hD
  refine lv_aload_n hx hb dX11_reads_10 rfl (lv_at hl 0 rfl) ?_
  refine lv_iconst (v := (0 : Int32)) hx hb dX11_reads_11 (by decide) ?_
  refine va_put (D := (dC, dI)) (ci := 10) (v := .int (0 : Int32)) (ty := .int) (C := RX11) (T := TX11) (N := 29) hx hb hts iMD_reads_X11_reads_1 tyX11 tyX11_ok nmX11 hown hK hP hD hS 0 rfl rfl 21 (by decide) (hts _ kMD_reads_X11_reads_3) (fun _ h9 => h9) rfl (by decide +kernel) rfl rfl (Nat.le_of_ble_eq_true rfl) dX11_reads_12 (fun H locs hP hD hS => ?_)
  have hP : va_P (dC, dI) vwCl [(h_t, .inr (10, [.ref h_t_s, .ref h_t_was, .ref h_t_begun, .int t_states, .ref h_t_text, .int t_typed, .ref h_t_wrong, .ref h_t_cost, .ref h_t_first, .ref h_t_block, .ref h_t_many, .ref h_t_stack, .int t_height, .ref h_t_written, .int t_length, .ref h_t_own, .ref h_t_levelAt, .ref h_t_itemAt, .ref h_t_times, .int (0 : Int32), .int (0 : Int32), .int (0 : Int32), .int t_deepest, .int t_letters, .int t_repeats, .int t_corrections, .int t_mostCorrections, .int t_place, .int t_reason])), (h_t_itemAt, .inl (cI, 62, .inl t_itemAt)), (h_t_levelAt, .inl (cI, 62, .inl t_levelAt)), (h_t_own, .inl (cI, 1500, .inl t_own)), (h_t_text, .inl (cC, 60, .inl t_text)), (h_t_times, .inl (cI, 62, .inl t_times))] H := hP
  have hD : va_D A [(h_t, .inr (10, [.ref h_t_s, .ref h_t_was, .ref h_t_begun, .int t_states, .ref h_t_text, .int t_typed, .ref h_t_wrong, .ref h_t_cost, .ref h_t_first, .ref h_t_block, .ref h_t_many, .ref h_t_stack, .int t_height, .ref h_t_written, .int t_length, .ref h_t_own, .ref h_t_levelAt, .ref h_t_itemAt, .ref h_t_times, .int (0 : Int32), .int (0 : Int32), .int (0 : Int32), .int t_deepest, .int t_letters, .int t_repeats, .int t_corrections, .int t_mostCorrections, .int t_place, .int t_reason])), (h_t_itemAt, .inl (cI, 62, .inl t_itemAt)), (h_t_levelAt, .inl (cI, 62, .inl t_levelAt)), (h_t_own, .inl (cI, 1500, .inl t_own)), (h_t_text, .inl (cC, 60, .inl t_text)), (h_t_times, .inl (cI, 62, .inl t_times))] := hD
  refine lv_aload_n hx hb dX11_reads_15 rfl (lv_at hl 0 rfl) ?_
  refine lv_iconst (v := (0 : Int32)) hx hb dX11_reads_16 (by decide) ?_
  refine va_put (D := (dC, dI)) (ci := 10) (v := .int (0 : Int32)) (ty := .int) (C := RX11) (T := TX11) (N := 29) hx hb hts iMD_reads_X11_reads_1 tyX11 tyX11_ok nmX11 hown hK hP hD hS 0 rfl rfl 22 (by decide) (hts _ kMD_reads_X11_reads_5) (fun _ h9 => h9) rfl (by decide +kernel) rfl rfl (Nat.le_of_ble_eq_true rfl) dX11_reads_17 (fun H locs hP hD hS => ?_)
  have hP : va_P (dC, dI) vwCl [(h_t, .inr (10, [.ref h_t_s, .ref h_t_was, .ref h_t_begun, .int t_states, .ref h_t_text, .int t_typed, .ref h_t_wrong, .ref h_t_cost, .ref h_t_first, .ref h_t_block, .ref h_t_many, .ref h_t_stack, .int t_height, .ref h_t_written, .int t_length, .ref h_t_own, .ref h_t_levelAt, .ref h_t_itemAt, .ref h_t_times, .int (0 : Int32), .int (0 : Int32), .int (0 : Int32), .int (0 : Int32), .int t_letters, .int t_repeats, .int t_corrections, .int t_mostCorrections, .int t_place, .int t_reason])), (h_t_itemAt, .inl (cI, 62, .inl t_itemAt)), (h_t_levelAt, .inl (cI, 62, .inl t_levelAt)), (h_t_own, .inl (cI, 1500, .inl t_own)), (h_t_text, .inl (cC, 60, .inl t_text)), (h_t_times, .inl (cI, 62, .inl t_times))] H := hP
  have hD : va_D A [(h_t, .inr (10, [.ref h_t_s, .ref h_t_was, .ref h_t_begun, .int t_states, .ref h_t_text, .int t_typed, .ref h_t_wrong, .ref h_t_cost, .ref h_t_first, .ref h_t_block, .ref h_t_many, .ref h_t_stack, .int t_height, .ref h_t_written, .int t_length, .ref h_t_own, .ref h_t_levelAt, .ref h_t_itemAt, .ref h_t_times, .int (0 : Int32), .int (0 : Int32), .int (0 : Int32), .int (0 : Int32), .int t_letters, .int t_repeats, .int t_corrections, .int t_mostCorrections, .int t_place, .int t_reason])), (h_t_itemAt, .inl (cI, 62, .inl t_itemAt)), (h_t_levelAt, .inl (cI, 62, .inl t_levelAt)), (h_t_own, .inl (cI, 1500, .inl t_own)), (h_t_text, .inl (cC, 60, .inl t_text)), (h_t_times, .inl (cI, 62, .inl t_times))] := hD
  refine lv_aload_n hx hb dX11_reads_20 rfl (lv_at hl 0 rfl) ?_
  refine lv_iconst (v := (0 : Int32)) hx hb dX11_reads_21 (by decide) ?_
  refine va_put (D := (dC, dI)) (ci := 10) (v := .int (0 : Int32)) (ty := .int) (C := RX11) (T := TX11) (N := 29) hx hb hts iMD_reads_X11_reads_1 tyX11 tyX11_ok nmX11 hown hK hP hD hS 0 rfl rfl 23 (by decide) (hts _ kMD_reads_X11_reads_6) (fun _ h9 => h9) rfl (by decide +kernel) rfl rfl (Nat.le_of_ble_eq_true rfl) dX11_reads_22 (fun H locs hP hD hS => ?_)
  have hP : va_P (dC, dI) vwCl [(h_t, .inr (10, [.ref h_t_s, .ref h_t_was, .ref h_t_begun, .int t_states, .ref h_t_text, .int t_typed, .ref h_t_wrong, .ref h_t_cost, .ref h_t_first, .ref h_t_block, .ref h_t_many, .ref h_t_stack, .int t_height, .ref h_t_written, .int t_length, .ref h_t_own, .ref h_t_levelAt, .ref h_t_itemAt, .ref h_t_times, .int (0 : Int32), .int (0 : Int32), .int (0 : Int32), .int (0 : Int32), .int (0 : Int32), .int t_repeats, .int t_corrections, .int t_mostCorrections, .int t_place, .int t_reason])), (h_t_itemAt, .inl (cI, 62, .inl t_itemAt)), (h_t_levelAt, .inl (cI, 62, .inl t_levelAt)), (h_t_own, .inl (cI, 1500, .inl t_own)), (h_t_text, .inl (cC, 60, .inl t_text)), (h_t_times, .inl (cI, 62, .inl t_times))] H := hP
  have hD : va_D A [(h_t, .inr (10, [.ref h_t_s, .ref h_t_was, .ref h_t_begun, .int t_states, .ref h_t_text, .int t_typed, .ref h_t_wrong, .ref h_t_cost, .ref h_t_first, .ref h_t_block, .ref h_t_many, .ref h_t_stack, .int t_height, .ref h_t_written, .int t_length, .ref h_t_own, .ref h_t_levelAt, .ref h_t_itemAt, .ref h_t_times, .int (0 : Int32), .int (0 : Int32), .int (0 : Int32), .int (0 : Int32), .int (0 : Int32), .int t_repeats, .int t_corrections, .int t_mostCorrections, .int t_place, .int t_reason])), (h_t_itemAt, .inl (cI, 62, .inl t_itemAt)), (h_t_levelAt, .inl (cI, 62, .inl t_levelAt)), (h_t_own, .inl (cI, 1500, .inl t_own)), (h_t_text, .inl (cC, 60, .inl t_text)), (h_t_times, .inl (cI, 62, .inl t_times))] := hD
  refine lv_aload_n hx hb dX11_reads_25 rfl (lv_at hl 0 rfl) ?_
  refine lv_iconst (v := (0 : Int32)) hx hb dX11_reads_26 (by decide) ?_
  refine va_put (D := (dC, dI)) (ci := 10) (v := .int (0 : Int32)) (ty := .int) (C := RX11) (T := TX11) (N := 29) hx hb hts iMD_reads_X11_reads_1 tyX11 tyX11_ok nmX11 hown hK hP hD hS 0 rfl rfl 24 (by decide) (hts _ kMD_reads_X11_reads_7) (fun _ h9 => h9) rfl (by decide +kernel) rfl rfl (Nat.le_of_ble_eq_true rfl) dX11_reads_27 (fun H locs hP hD hS => ?_)
  have hP : va_P (dC, dI) vwCl [(h_t, .inr (10, [.ref h_t_s, .ref h_t_was, .ref h_t_begun, .int t_states, .ref h_t_text, .int t_typed, .ref h_t_wrong, .ref h_t_cost, .ref h_t_first, .ref h_t_block, .ref h_t_many, .ref h_t_stack, .int t_height, .ref h_t_written, .int t_length, .ref h_t_own, .ref h_t_levelAt, .ref h_t_itemAt, .ref h_t_times, .int (0 : Int32), .int (0 : Int32), .int (0 : Int32), .int (0 : Int32), .int (0 : Int32), .int (0 : Int32), .int t_corrections, .int t_mostCorrections, .int t_place, .int t_reason])), (h_t_itemAt, .inl (cI, 62, .inl t_itemAt)), (h_t_levelAt, .inl (cI, 62, .inl t_levelAt)), (h_t_own, .inl (cI, 1500, .inl t_own)), (h_t_text, .inl (cC, 60, .inl t_text)), (h_t_times, .inl (cI, 62, .inl t_times))] H := hP
  have hD : va_D A [(h_t, .inr (10, [.ref h_t_s, .ref h_t_was, .ref h_t_begun, .int t_states, .ref h_t_text, .int t_typed, .ref h_t_wrong, .ref h_t_cost, .ref h_t_first, .ref h_t_block, .ref h_t_many, .ref h_t_stack, .int t_height, .ref h_t_written, .int t_length, .ref h_t_own, .ref h_t_levelAt, .ref h_t_itemAt, .ref h_t_times, .int (0 : Int32), .int (0 : Int32), .int (0 : Int32), .int (0 : Int32), .int (0 : Int32), .int (0 : Int32), .int t_corrections, .int t_mostCorrections, .int t_place, .int t_reason])), (h_t_itemAt, .inl (cI, 62, .inl t_itemAt)), (h_t_levelAt, .inl (cI, 62, .inl t_levelAt)), (h_t_own, .inl (cI, 1500, .inl t_own)), (h_t_text, .inl (cC, 60, .inl t_text)), (h_t_times, .inl (cI, 62, .inl t_times))] := hD
  refine lv_aload_n hx hb dX11_reads_30 rfl (lv_at hl 0 rfl) ?_
  refine lv_iconst (v := (0 : Int32)) hx hb dX11_reads_31 (by decide) ?_
  refine va_put (D := (dC, dI)) (ci := 10) (v := .int (0 : Int32)) (ty := .int) (C := RX11) (T := TX11) (N := 29) hx hb hts iMD_reads_X11_reads_1 tyX11 tyX11_ok nmX11 hown hK hP hD hS 0 rfl rfl 25 (by decide) (hts _ kMD_reads_X11_reads_8) (fun _ h9 => h9) rfl (by decide +kernel) rfl rfl (Nat.le_of_ble_eq_true rfl) dX11_reads_32 (fun H locs hP hD hS => ?_)
  have hP : va_P (dC, dI) vwCl [(h_t, .inr (10, [.ref h_t_s, .ref h_t_was, .ref h_t_begun, .int t_states, .ref h_t_text, .int t_typed, .ref h_t_wrong, .ref h_t_cost, .ref h_t_first, .ref h_t_block, .ref h_t_many, .ref h_t_stack, .int t_height, .ref h_t_written, .int t_length, .ref h_t_own, .ref h_t_levelAt, .ref h_t_itemAt, .ref h_t_times, .int (0 : Int32), .int (0 : Int32), .int (0 : Int32), .int (0 : Int32), .int (0 : Int32), .int (0 : Int32), .int (0 : Int32), .int t_mostCorrections, .int t_place, .int t_reason])), (h_t_itemAt, .inl (cI, 62, .inl t_itemAt)), (h_t_levelAt, .inl (cI, 62, .inl t_levelAt)), (h_t_own, .inl (cI, 1500, .inl t_own)), (h_t_text, .inl (cC, 60, .inl t_text)), (h_t_times, .inl (cI, 62, .inl t_times))] H := hP
  have hD : va_D A [(h_t, .inr (10, [.ref h_t_s, .ref h_t_was, .ref h_t_begun, .int t_states, .ref h_t_text, .int t_typed, .ref h_t_wrong, .ref h_t_cost, .ref h_t_first, .ref h_t_block, .ref h_t_many, .ref h_t_stack, .int t_height, .ref h_t_written, .int t_length, .ref h_t_own, .ref h_t_levelAt, .ref h_t_itemAt, .ref h_t_times, .int (0 : Int32), .int (0 : Int32), .int (0 : Int32), .int (0 : Int32), .int (0 : Int32), .int (0 : Int32), .int (0 : Int32), .int t_mostCorrections, .int t_place, .int t_reason])), (h_t_itemAt, .inl (cI, 62, .inl t_itemAt)), (h_t_levelAt, .inl (cI, 62, .inl t_levelAt)), (h_t_own, .inl (cI, 1500, .inl t_own)), (h_t_text, .inl (cC, 60, .inl t_text)), (h_t_times, .inl (cI, 62, .inl t_times))] := hD
  refine lv_aload_n hx hb dX11_reads_35 rfl (lv_at hl 0 rfl) ?_
  refine lv_iconst (v := (0 : Int32)) hx hb dX11_reads_36 (by decide) ?_
  refine va_put (D := (dC, dI)) (ci := 10) (v := .int (0 : Int32)) (ty := .int) (C := RX11) (T := TX11) (N := 29) hx hb hts iMD_reads_X11_reads_1 tyX11 tyX11_ok nmX11 hown hK hP hD hS 0 rfl rfl 26 (by decide) (hts _ kMD_reads_X11_reads_9) (fun _ h9 => h9) rfl (by decide +kernel) rfl rfl (Nat.le_of_ble_eq_true rfl) dX11_reads_37 (fun H locs hP hD hS => ?_)
  have hP : va_P (dC, dI) vwCl [(h_t, .inr (10, [.ref h_t_s, .ref h_t_was, .ref h_t_begun, .int t_states, .ref h_t_text, .int t_typed, .ref h_t_wrong, .ref h_t_cost, .ref h_t_first, .ref h_t_block, .ref h_t_many, .ref h_t_stack, .int t_height, .ref h_t_written, .int t_length, .ref h_t_own, .ref h_t_levelAt, .ref h_t_itemAt, .ref h_t_times, .int (0 : Int32), .int (0 : Int32), .int (0 : Int32), .int (0 : Int32), .int (0 : Int32), .int (0 : Int32), .int (0 : Int32), .int (0 : Int32), .int t_place, .int t_reason])), (h_t_itemAt, .inl (cI, 62, .inl t_itemAt)), (h_t_levelAt, .inl (cI, 62, .inl t_levelAt)), (h_t_own, .inl (cI, 1500, .inl t_own)), (h_t_text, .inl (cC, 60, .inl t_text)), (h_t_times, .inl (cI, 62, .inl t_times))] H := hP
  have hD : va_D A [(h_t, .inr (10, [.ref h_t_s, .ref h_t_was, .ref h_t_begun, .int t_states, .ref h_t_text, .int t_typed, .ref h_t_wrong, .ref h_t_cost, .ref h_t_first, .ref h_t_block, .ref h_t_many, .ref h_t_stack, .int t_height, .ref h_t_written, .int t_length, .ref h_t_own, .ref h_t_levelAt, .ref h_t_itemAt, .ref h_t_times, .int (0 : Int32), .int (0 : Int32), .int (0 : Int32), .int (0 : Int32), .int (0 : Int32), .int (0 : Int32), .int (0 : Int32), .int (0 : Int32), .int t_place, .int t_reason])), (h_t_itemAt, .inl (cI, 62, .inl t_itemAt)), (h_t_levelAt, .inl (cI, 62, .inl t_levelAt)), (h_t_own, .inl (cI, 1500, .inl t_own)), (h_t_text, .inl (cC, 60, .inl t_text)), (h_t_times, .inl (cI, 62, .inl t_times))] := hD
  refine lv_aload_n hx hb dX11_reads_40 rfl (lv_at hl 0 rfl) ?_
  refine va_get (D := (dC, dI)) (ci := 10) (v := .ref h_t_levelAt) (C := RX11) (T := TX11) (N := 29) hx hb hts iMD_reads_X11_reads_1 hown hK hP 0 rfl rfl 16 (by decide) (hts _ kMD_reads_X11_reads_10) (fun _ h9 => h9) rfl dX11_reads_41 ?_
  refine lv_iconst (v := (0 : Int32)) hx hb dX11_reads_44 (by decide) ?_
  refine lv_iconst (v := (0 : Int32)) hx hb dX11_reads_45 (by decide) ?_
  refine va_iast hx hb hK hP hD hS 2 0 rfl rfl (vin (by decide)) dX11_reads_46 (fun H locs hP hD hS => ?_)
  have hP : va_P (dC, dI) vwCl [(h_t, .inr (10, [.ref h_t_s, .ref h_t_was, .ref h_t_begun, .int t_states, .ref h_t_text, .int t_typed, .ref h_t_wrong, .ref h_t_cost, .ref h_t_first, .ref h_t_block, .ref h_t_many, .ref h_t_stack, .int t_height, .ref h_t_written, .int t_length, .ref h_t_own, .ref h_t_levelAt, .ref h_t_itemAt, .ref h_t_times, .int (0 : Int32), .int (0 : Int32), .int (0 : Int32), .int (0 : Int32), .int (0 : Int32), .int (0 : Int32), .int (0 : Int32), .int (0 : Int32), .int t_place, .int t_reason])), (h_t_itemAt, .inl (cI, 62, .inl t_itemAt)), (h_t_levelAt, .inl (cI, 62, .inl (wr t_levelAt (0 : Int32) (0 : Int32)))), (h_t_own, .inl (cI, 1500, .inl t_own)), (h_t_text, .inl (cC, 60, .inl t_text)), (h_t_times, .inl (cI, 62, .inl t_times))] H := hP
  have hD : va_D A [(h_t, .inr (10, [.ref h_t_s, .ref h_t_was, .ref h_t_begun, .int t_states, .ref h_t_text, .int t_typed, .ref h_t_wrong, .ref h_t_cost, .ref h_t_first, .ref h_t_block, .ref h_t_many, .ref h_t_stack, .int t_height, .ref h_t_written, .int t_length, .ref h_t_own, .ref h_t_levelAt, .ref h_t_itemAt, .ref h_t_times, .int (0 : Int32), .int (0 : Int32), .int (0 : Int32), .int (0 : Int32), .int (0 : Int32), .int (0 : Int32), .int (0 : Int32), .int (0 : Int32), .int t_place, .int t_reason])), (h_t_itemAt, .inl (cI, 62, .inl t_itemAt)), (h_t_levelAt, .inl (cI, 62, .inl (wr t_levelAt (0 : Int32) (0 : Int32)))), (h_t_own, .inl (cI, 1500, .inl t_own)), (h_t_text, .inl (cC, 60, .inl t_text)), (h_t_times, .inl (cI, 62, .inl t_times))] := hD
  refine lv_iconst (v := (1 : Int32)) hx hb dX11_reads_47 (by decide) ?_
  refine lv_istore_n (lv' := [(1, .int (1 : Int32)), (0, .ref h_t)]) hx hb dX11_reads_48 rfl hl (by decide) rfl (fun ls hl => ?_)
  exact hL49 FU (1 : Int32) (0 : Int32) (0 : Int32) (0 : Int32) (0 : Int32) (0 : Int32) (0 : Int32) (0 : Int32) (0 : Int32) t_place t_reason t_itemAt (wr t_levelAt (0 : Int32) (0 : Int32)) t_own t_times H locs ls hres hP hD hS (lv_sub hl [1, 0] rfl)

-- MD_adopt
def fMD_adopt_16  : Nat → Int32 → Int32 → Int32 → Int32 → Int32 → Int32 → Int32 → Int32 → Int32 → Int32 → Int32 → Int32 → (Nat → Int32) → (Nat → Int32) → (Nat → Int32) → (Nat → Int32) → (Nat → Int32) → (Nat → Int32) → (Nat → Int32) → Option (Int32 × Int32 × Int32 × Int32 × Int32 × Int32 × Int32 × Int32 × Int32 × Int32 × Int32 × Int32 × (Nat → Int32) × (Nat → Int32) × (Nat → Int32) × (Nat → Int32) × (Nat → Int32) × (Nat → Int32) × (Nat → Int32))
  | 0, _, _, _, _, _, _, _, _, _, _, _, _, _, _, _, _, _, _, _ => none
  | n + 1, x1, t_states, t_at, t_ownLength, t_depth, t_deepest, t_letters, t_repeats, t_corrections, t_mostCorrections, t_place, t_reason, t_begun, t_itemAt, t_levelAt, t_own, t_s, t_times, t_was =>
    if t_ownLength ≤ x1 then
      (fMD_acted t_begun t_states t_was t_ownLength).bind fun o2 =>
        some (o2.1, o2.2.1, t_at, t_ownLength, t_depth, t_deepest, t_letters, t_repeats, t_corrections, t_mostCorrections, t_place, t_reason, t_begun, t_itemAt, t_levelAt, t_own, (wr t_s (0 : Int32) t_ownLength), t_times, o2.2.2)
    else
      if bIn x1 1500 = true then
        if bIn ((6 : Int32) + x1) 30 = true then
          fMD_adopt_16 n (x1 + 1) t_states t_at t_ownLength t_depth t_deepest t_letters t_repeats t_corrections t_mostCorrections t_place t_reason t_begun t_itemAt t_levelAt t_own (wr t_s ((6 : Int32) + x1) (rd t_own x1)) t_times t_was
        else none
      else none
def fMD_adopt (t_typed : Int32) (t_text : Nat → Int32) (t_states : Int32) (t_place : Int32) (t_reason : Int32) (t_begun : Nat → Int32) (t_itemAt : Nat → Int32) (t_levelAt : Nat → Int32) (t_own : Nat → Int32) (t_s : Nat → Int32) (t_times : Nat → Int32) (t_was : Nat → Int32) : Option (Int32 × Int32 × Int32 × Int32 × Int32 × Int32 × Int32 × Int32 × Int32 × Int32 × Int32 × Int32 × (Nat → Int32) × (Nat → Int32) × (Nat → Int32) × (Nat → Int32) × (Nat → Int32) × (Nat → Int32) × (Nat → Int32)) :=
  (fMD_reads t_typed t_text t_place t_reason t_itemAt t_levelAt t_own t_times).bind fun o5 =>
    if o5.1 = 0 then
      some ((-1000002 : Int32), t_states, o5.2.1, o5.2.2.1, o5.2.2.2.1, o5.2.2.2.2.1, o5.2.2.2.2.2.1, o5.2.2.2.2.2.2.1, o5.2.2.2.2.2.2.2.1, o5.2.2.2.2.2.2.2.2.1, o5.2.2.2.2.2.2.2.2.2.1, o5.2.2.2.2.2.2.2.2.2.2.1, t_begun, o5.2.2.2.2.2.2.2.2.2.2.2.1, o5.2.2.2.2.2.2.2.2.2.2.2.2.1, o5.2.2.2.2.2.2.2.2.2.2.2.2.2.1, t_s, o5.2.2.2.2.2.2.2.2.2.2.2.2.2.2, t_was)
    else
      (fMD_keeps t_s t_begun).bind fun o7 =>
        fMD_adopt_16 FU (0 : Int32) t_states o5.2.1 o5.2.2.1 o5.2.2.2.1 o5.2.2.2.2.1 o5.2.2.2.2.2.1 o5.2.2.2.2.2.2.1 o5.2.2.2.2.2.2.2.1 o5.2.2.2.2.2.2.2.2.1 o5.2.2.2.2.2.2.2.2.2.1 o5.2.2.2.2.2.2.2.2.2.2.1 o7 o5.2.2.2.2.2.2.2.2.2.2.2.1 o5.2.2.2.2.2.2.2.2.2.2.2.2.1 o5.2.2.2.2.2.2.2.2.2.2.2.2.2.1 t_s o5.2.2.2.2.2.2.2.2.2.2.2.2.2.2 t_was
theorem kMD_adopt_X11_adopt_0 : Cond.fieldLink RX11 173 "RepeatNestsModel" "ownLength" "I" ∈ wsX11_adopt := by decide +kernel
theorem iMD_adopt_X11_adopt_1 : ∀ w ∈ wsX110, w ∈ wsX11_adopt := by decide +kernel
theorem kMD_adopt_X11_adopt_2 : Cond.fieldLink RX11 7 "RepeatNestsModel" "s" "[I" ∈ wsX11_adopt := by decide +kernel
theorem kMD_adopt_X11_adopt_3 : Cond.fieldLink RX11 45 "RepeatNestsModel" "own" "[I" ∈ wsX11_adopt := by decide +kernel
theorem kMD_adopt_X11_adopt_4 : Cond.constant RX11 74 (-1000002) ∈ wsX11_adopt := by decide +kernel
set_option maxHeartbeats 4000000 in
set_option maxRecDepth 100000 in
theorem cMD_adopt (l : Launch) (dC : Nat → ClassId) (dI : Nat → Nat → Nat) (cI cJ cC cS : ClassId) (h_t h_t_s h_t_was h_t_begun h_t_text h_t_wrong h_t_cost h_t_first h_t_block h_t_many h_t_stack h_t_written h_t_own h_t_levelAt h_t_itemAt h_t_times : Nat) (sz : Nat) (t_states : Int32) (t_typed : Int32) (t_height : Int32) (t_length : Int32) (t_at : Int32) (t_ownLength : Int32) (t_depth : Int32) (t_deepest : Int32) (t_letters : Int32) (t_repeats : Int32) (t_corrections : Int32) (t_mostCorrections : Int32) (t_place : Int32) (t_reason : Int32) (t_begun : Nat → Int32) (t_itemAt : Nat → Int32) (t_levelAt : Nat → Int32) (t_own : Nat → Int32) (t_s : Nat → Int32) (t_text : Nat → Int32) (t_times : Nat → Int32) (t_was : Nat → Int32) (r : Int32) (y_t_states : Int32) (y_t_at : Int32) (y_t_ownLength : Int32) (y_t_depth : Int32) (y_t_deepest : Int32) (y_t_letters : Int32) (y_t_repeats : Int32) (y_t_corrections : Int32) (y_t_mostCorrections : Int32) (y_t_place : Int32) (y_t_reason : Int32) (y_t_begun : Nat → Int32) (y_t_itemAt : Nat → Int32) (y_t_levelAt : Nat → Int32) (y_t_own : Nat → Int32) (y_t_s : Nat → Int32) (y_t_times : Nat → Int32) (y_t_was : Nat → Int32) (hres : fMD_adopt t_typed t_text t_states t_place t_reason t_begun t_itemAt t_levelAt t_own t_s t_times t_was = some (r, y_t_states, y_t_at, y_t_ownLength, y_t_depth, y_t_deepest, y_t_letters, y_t_repeats, y_t_corrections, y_t_mostCorrections, y_t_place, y_t_reason, y_t_begun, y_t_itemAt, y_t_levelAt, y_t_own, y_t_s, y_t_times, y_t_was)) :
    Met l yX11_adopt wsX11_adopt ({ frames := 5, cells := 0, slots := 0, locals := 120 } : Room) (va_Pc [.ref h_t] (fun (U : State) => U.heap.size = sz ∧ va_P (dC, dI) vwCl [(h_t, .inr (10, [.ref h_t_s, .ref h_t_was, .ref h_t_begun, .int t_states, .ref h_t_text, .int t_typed, .ref h_t_wrong, .ref h_t_cost, .ref h_t_first, .ref h_t_block, .ref h_t_many, .ref h_t_stack, .int t_height, .ref h_t_written, .int t_length, .ref h_t_own, .ref h_t_levelAt, .ref h_t_itemAt, .ref h_t_times, .int t_at, .int t_ownLength, .int t_depth, .int t_deepest, .int t_letters, .int t_repeats, .int t_corrections, .int t_mostCorrections, .int t_place, .int t_reason])), (h_t_begun, .inl (cI, 30, .inl t_begun)), (h_t_itemAt, .inl (cI, 62, .inl t_itemAt)), (h_t_levelAt, .inl (cI, 62, .inl t_levelAt)), (h_t_own, .inl (cI, 1500, .inl t_own)), (h_t_s, .inl (cI, 30, .inl t_s)), (h_t_text, .inl (cC, 60, .inl t_text)), (h_t_times, .inl (cI, 62, .inl t_times)), (h_t_was, .inl (cI, 120, .inl t_was))] U.heap ∧ va_K (dC, dI) vwCl (tyA cI cJ cC cS) U ∧ nwN U ∧ va_D (fun _ => True) [(h_t, .inr (10, [.ref h_t_s, .ref h_t_was, .ref h_t_begun, .int t_states, .ref h_t_text, .int t_typed, .ref h_t_wrong, .ref h_t_cost, .ref h_t_first, .ref h_t_block, .ref h_t_many, .ref h_t_stack, .int t_height, .ref h_t_written, .int t_length, .ref h_t_own, .ref h_t_levelAt, .ref h_t_itemAt, .ref h_t_times, .int t_at, .int t_ownLength, .int t_depth, .int t_deepest, .int t_letters, .int t_repeats, .int t_corrections, .int t_mostCorrections, .int t_place, .int t_reason])), (h_t_begun, .inl (cI, 30, .inl t_begun)), (h_t_itemAt, .inl (cI, 62, .inl t_itemAt)), (h_t_levelAt, .inl (cI, 62, .inl t_levelAt)), (h_t_own, .inl (cI, 1500, .inl t_own)), (h_t_s, .inl (cI, 30, .inl t_s)), (h_t_text, .inl (cC, 60, .inl t_text)), (h_t_times, .inl (cI, 62, .inl t_times)), (h_t_was, .inl (cI, 120, .inl t_was))])) (va_Qi (fun (r9 : Int32) (_ : Unit) => r9 = r) (fun (_ : Unit) (t : State) => va_P (dC, dI) vwCl [(h_t, .inr (10, [.ref h_t_s, .ref h_t_was, .ref h_t_begun, .int y_t_states, .ref h_t_text, .int t_typed, .ref h_t_wrong, .ref h_t_cost, .ref h_t_first, .ref h_t_block, .ref h_t_many, .ref h_t_stack, .int t_height, .ref h_t_written, .int t_length, .ref h_t_own, .ref h_t_levelAt, .ref h_t_itemAt, .ref h_t_times, .int y_t_at, .int y_t_ownLength, .int y_t_depth, .int y_t_deepest, .int y_t_letters, .int y_t_repeats, .int y_t_corrections, .int y_t_mostCorrections, .int y_t_place, .int y_t_reason])), (h_t_begun, .inl (cI, 30, .inl y_t_begun)), (h_t_itemAt, .inl (cI, 62, .inl y_t_itemAt)), (h_t_levelAt, .inl (cI, 62, .inl y_t_levelAt)), (h_t_own, .inl (cI, 1500, .inl y_t_own)), (h_t_s, .inl (cI, 30, .inl y_t_s)), (h_t_text, .inl (cC, 60, .inl t_text)), (h_t_times, .inl (cI, 62, .inl y_t_times)), (h_t_was, .inl (cI, 120, .inl y_t_was))] t.heap ∧ va_K (dC, dI) vwCl (tyA cI cJ cC cS) t ∧ va_D (va_A [(h_t, .inr (10, [.ref h_t_s, .ref h_t_was, .ref h_t_begun, .int t_states, .ref h_t_text, .int t_typed, .ref h_t_wrong, .ref h_t_cost, .ref h_t_first, .ref h_t_block, .ref h_t_many, .ref h_t_stack, .int t_height, .ref h_t_written, .int t_length, .ref h_t_own, .ref h_t_levelAt, .ref h_t_itemAt, .ref h_t_times, .int t_at, .int t_ownLength, .int t_depth, .int t_deepest, .int t_letters, .int t_repeats, .int t_corrections, .int t_mostCorrections, .int t_place, .int t_reason])), (h_t_begun, .inl (cI, 30, .inl t_begun)), (h_t_itemAt, .inl (cI, 62, .inl t_itemAt)), (h_t_levelAt, .inl (cI, 62, .inl t_levelAt)), (h_t_own, .inl (cI, 1500, .inl t_own)), (h_t_s, .inl (cI, 30, .inl t_s)), (h_t_text, .inl (cC, 60, .inl t_text)), (h_t_times, .inl (cI, 62, .inl t_times)), (h_t_was, .inl (cI, 120, .inl t_was))] sz) [(h_t, .inr (10, [.ref h_t_s, .ref h_t_was, .ref h_t_begun, .int y_t_states, .ref h_t_text, .int t_typed, .ref h_t_wrong, .ref h_t_cost, .ref h_t_first, .ref h_t_block, .ref h_t_many, .ref h_t_stack, .int t_height, .ref h_t_written, .int t_length, .ref h_t_own, .ref h_t_levelAt, .ref h_t_itemAt, .ref h_t_times, .int y_t_at, .int y_t_ownLength, .int y_t_depth, .int y_t_deepest, .int y_t_letters, .int y_t_repeats, .int y_t_corrections, .int y_t_mostCorrections, .int y_t_place, .int y_t_reason])), (h_t_begun, .inl (cI, 30, .inl y_t_begun)), (h_t_itemAt, .inl (cI, 62, .inl y_t_itemAt)), (h_t_levelAt, .inl (cI, 62, .inl y_t_levelAt)), (h_t_own, .inl (cI, 1500, .inl y_t_own)), (h_t_s, .inl (cI, 30, .inl y_t_s)), (h_t_text, .inl (cC, 60, .inl t_text)), (h_t_times, .inl (cI, 62, .inl y_t_times)), (h_t_was, .inl (cI, 120, .inl y_t_was))]) (va_A [(h_t, .inr (10, [.ref h_t_s, .ref h_t_was, .ref h_t_begun, .int t_states, .ref h_t_text, .int t_typed, .ref h_t_wrong, .ref h_t_cost, .ref h_t_first, .ref h_t_block, .ref h_t_many, .ref h_t_stack, .int t_height, .ref h_t_written, .int t_length, .ref h_t_own, .ref h_t_levelAt, .ref h_t_itemAt, .ref h_t_times, .int t_at, .int t_ownLength, .int t_depth, .int t_deepest, .int t_letters, .int t_repeats, .int t_corrections, .int t_mostCorrections, .int t_place, .int t_reason])), (h_t_begun, .inl (cI, 30, .inl t_begun)), (h_t_itemAt, .inl (cI, 62, .inl t_itemAt)), (h_t_levelAt, .inl (cI, 62, .inl t_levelAt)), (h_t_own, .inl (cI, 1500, .inl t_own)), (h_t_s, .inl (cI, 30, .inl t_s)), (h_t_text, .inl (cC, 60, .inl t_text)), (h_t_times, .inl (cI, 62, .inl t_times)), (h_t_was, .inl (cI, 120, .inl t_was))] sz)) 0 0 (va_A [(h_t, .inr (10, [.ref h_t_s, .ref h_t_was, .ref h_t_begun, .int t_states, .ref h_t_text, .int t_typed, .ref h_t_wrong, .ref h_t_cost, .ref h_t_first, .ref h_t_block, .ref h_t_many, .ref h_t_stack, .int t_height, .ref h_t_written, .int t_length, .ref h_t_own, .ref h_t_levelAt, .ref h_t_itemAt, .ref h_t_times, .int t_at, .int t_ownLength, .int t_depth, .int t_deepest, .int t_letters, .int t_repeats, .int t_corrections, .int t_mostCorrections, .int t_place, .int t_reason])), (h_t_begun, .inl (cI, 30, .inl t_begun)), (h_t_itemAt, .inl (cI, 62, .inl t_itemAt)), (h_t_levelAt, .inl (cI, 62, .inl t_levelAt)), (h_t_own, .inl (cI, 1500, .inl t_own)), (h_t_s, .inl (cI, 30, .inl t_s)), (h_t_text, .inl (cC, 60, .inl t_text)), (h_t_times, .inl (cI, 62, .inl t_times)), (h_t_was, .inl (cI, 120, .inl t_was))] sz) := by
  refine Met.ofW (cc := cX11_adopt) (maxL := 2) (ret := (some .int)) (by decide) rfl ?_
  intro p e s m args below meth c s₁ B hml hv
  obtain ⟨hargs, hsz, hP, hK, hN, hD0⟩ := hv
  have hx := B.exec
  have hb := B.bytes
  have hr := B.returns
  have hts := atoms_spec (ws := wsX11_adopt) B.pre
  have hown : s.vm.findClass RX11 = some m.cls := findClass_of_methodNamed B.named
  have hlocks := B.notSynchronized
  subst hsz
  have hD := hD0.self (sz := s.heap.size)
  generalize hAe : va_A [(h_t, .inr (10, [.ref h_t_s, .ref h_t_was, .ref h_t_begun, .int t_states, .ref h_t_text, .int t_typed, .ref h_t_wrong, .ref h_t_cost, .ref h_t_first, .ref h_t_block, .ref h_t_many, .ref h_t_stack, .int t_height, .ref h_t_written, .int t_length, .ref h_t_own, .ref h_t_levelAt, .ref h_t_itemAt, .ref h_t_times, .int t_at, .int t_ownLength, .int t_depth, .int t_deepest, .int t_letters, .int t_repeats, .int t_corrections, .int t_mostCorrections, .int t_place, .int t_reason])), (h_t_begun, .inl (cI, 30, .inl t_begun)), (h_t_itemAt, .inl (cI, 62, .inl t_itemAt)), (h_t_levelAt, .inl (cI, 62, .inl t_levelAt)), (h_t_own, .inl (cI, 1500, .inl t_own)), (h_t_s, .inl (cI, 30, .inl t_s)), (h_t_text, .inl (cC, 60, .inl t_text)), (h_t_times, .inl (cI, 62, .inl t_times)), (h_t_was, .inl (cI, 120, .inl t_was))] s.heap.size = A at hD ⊢
  have hA : ∀ q : Nat, s.heap.size ≤ q → A q := fun q h => by rw [← hAe]; exact Or.inr h
  have hS : va_S A s.heap s.heap [] := va_S.rf
  have hP : va_P (dC, dI) vwCl [(h_t, .inr (10, [.ref h_t_s, .ref h_t_was, .ref h_t_begun, .int t_states, .ref h_t_text, .int t_typed, .ref h_t_wrong, .ref h_t_cost, .ref h_t_first, .ref h_t_block, .ref h_t_many, .ref h_t_stack, .int t_height, .ref h_t_written, .int t_length, .ref h_t_own, .ref h_t_levelAt, .ref h_t_itemAt, .ref h_t_times, .int t_at, .int t_ownLength, .int t_depth, .int t_deepest, .int t_letters, .int t_repeats, .int t_corrections, .int t_mostCorrections, .int t_place, .int t_reason])), (h_t_begun, .inl (cI, 30, .inl t_begun)), (h_t_itemAt, .inl (cI, 62, .inl t_itemAt)), (h_t_levelAt, .inl (cI, 62, .inl t_levelAt)), (h_t_own, .inl (cI, 1500, .inl t_own)), (h_t_s, .inl (cI, 30, .inl t_s)), (h_t_text, .inl (cC, 60, .inl t_text)), (h_t_times, .inl (cI, 62, .inl t_times)), (h_t_was, .inl (cI, 120, .inl t_was))] s.heap := hP
  have hl := lv_entry [.ref h_t] (n := 2) (Nat.le_of_ble_eq_true rfl)
  rw [show entryFrame m args 2 = entryFrame m ([.ref h_t] : List Value).toArray 2 from by rw [hargs], lg_entry_eq]
  generalize (lg_sl [.ref h_t] ++ List.replicate (2 - (lg_sl [.ref h_t]).length) Slot.unset).toArray = ls at hl ⊢
  have hl : lv_has ls 2 [(0, .ref h_t)] := hl
  generalize hQQ : MQ below (va_Qi (fun (r9 : Int32) (_ : Unit) => r9 = r) (fun (_ : Unit) (t : State) => va_P (dC, dI) vwCl [(h_t, .inr (10, [.ref h_t_s, .ref h_t_was, .ref h_t_begun, .int y_t_states, .ref h_t_text, .int t_typed, .ref h_t_wrong, .ref h_t_cost, .ref h_t_first, .ref h_t_block, .ref h_t_many, .ref h_t_stack, .int t_height, .ref h_t_written, .int t_length, .ref h_t_own, .ref h_t_levelAt, .ref h_t_itemAt, .ref h_t_times, .int y_t_at, .int y_t_ownLength, .int y_t_depth, .int y_t_deepest, .int y_t_letters, .int y_t_repeats, .int y_t_corrections, .int y_t_mostCorrections, .int y_t_place, .int y_t_reason])), (h_t_begun, .inl (cI, 30, .inl y_t_begun)), (h_t_itemAt, .inl (cI, 62, .inl y_t_itemAt)), (h_t_levelAt, .inl (cI, 62, .inl y_t_levelAt)), (h_t_own, .inl (cI, 1500, .inl y_t_own)), (h_t_s, .inl (cI, 30, .inl y_t_s)), (h_t_text, .inl (cC, 60, .inl t_text)), (h_t_times, .inl (cI, 62, .inl y_t_times)), (h_t_was, .inl (cI, 120, .inl y_t_was))] t.heap ∧ va_K (dC, dI) vwCl (tyA cI cJ cC cS) t ∧ va_D A [(h_t, .inr (10, [.ref h_t_s, .ref h_t_was, .ref h_t_begun, .int y_t_states, .ref h_t_text, .int t_typed, .ref h_t_wrong, .ref h_t_cost, .ref h_t_first, .ref h_t_block, .ref h_t_many, .ref h_t_stack, .int t_height, .ref h_t_written, .int t_length, .ref h_t_own, .ref h_t_levelAt, .ref h_t_itemAt, .ref h_t_times, .int y_t_at, .int y_t_ownLength, .int y_t_depth, .int y_t_deepest, .int y_t_letters, .int y_t_repeats, .int y_t_corrections, .int y_t_mostCorrections, .int y_t_place, .int y_t_reason])), (h_t_begun, .inl (cI, 30, .inl y_t_begun)), (h_t_itemAt, .inl (cI, 62, .inl y_t_itemAt)), (h_t_levelAt, .inl (cI, 62, .inl y_t_levelAt)), (h_t_own, .inl (cI, 1500, .inl y_t_own)), (h_t_s, .inl (cI, 30, .inl y_t_s)), (h_t_text, .inl (cC, 60, .inl t_text)), (h_t_times, .inl (cI, 62, .inl y_t_times)), (h_t_was, .inl (cI, 120, .inl y_t_was))]) A) args s 0 0 A = QQ
  obtain ⟨H, hH⟩ : ∃ H : Heap, H = s.heap := ⟨_, rfl⟩
  obtain ⟨locs, hlocs⟩ : ∃ locs : List Loc, locs = [] := ⟨_, rfl⟩
  rw [← hH] at hP
  have hS : va_S A s.heap H locs := by rw [hH, hlocs]; exact hS
  suffices hZ : W p l e (headSpec wsX11_adopt ({ frames := 5, cells := 0, slots := 0, locals := 120 } : Room)).room s m args below meth c H locs 0 0 QQ (F0 m 0 ls []) by rw [hH, hlocs] at hZ; exact hZ
  clear hH hlocs
  have hL16 : ∀ (n16 : Nat) , ∀ (x1 : Int32) (t_states : Int32) (t_at : Int32) (t_ownLength : Int32) (t_depth : Int32) (t_deepest : Int32) (t_letters : Int32) (t_repeats : Int32) (t_corrections : Int32) (t_mostCorrections : Int32) (t_place : Int32) (t_reason : Int32) (t_begun : Nat → Int32) (t_itemAt : Nat → Int32) (t_levelAt : Nat → Int32) (t_own : Nat → Int32) (t_s : Nat → Int32) (t_times : Nat → Int32) (t_was : Nat → Int32) (H : Heap) (locs : List Loc) (ls : Array Slot), fMD_adopt_16 n16 x1 t_states t_at t_ownLength t_depth t_deepest t_letters t_repeats t_corrections t_mostCorrections t_place t_reason t_begun t_itemAt t_levelAt t_own t_s t_times t_was = some (r, y_t_states, y_t_at, y_t_ownLength, y_t_depth, y_t_deepest, y_t_letters, y_t_repeats, y_t_corrections, y_t_mostCorrections, y_t_place, y_t_reason, y_t_begun, y_t_itemAt, y_t_levelAt, y_t_own, y_t_s, y_t_times, y_t_was) → va_P (dC, dI) vwCl [(h_t, .inr (10, [.ref h_t_s, .ref h_t_was, .ref h_t_begun, .int t_states, .ref h_t_text, .int t_typed, .ref h_t_wrong, .ref h_t_cost, .ref h_t_first, .ref h_t_block, .ref h_t_many, .ref h_t_stack, .int t_height, .ref h_t_written, .int t_length, .ref h_t_own, .ref h_t_levelAt, .ref h_t_itemAt, .ref h_t_times, .int t_at, .int t_ownLength, .int t_depth, .int t_deepest, .int t_letters, .int t_repeats, .int t_corrections, .int t_mostCorrections, .int t_place, .int t_reason])), (h_t_begun, .inl (cI, 30, .inl t_begun)), (h_t_itemAt, .inl (cI, 62, .inl t_itemAt)), (h_t_levelAt, .inl (cI, 62, .inl t_levelAt)), (h_t_own, .inl (cI, 1500, .inl t_own)), (h_t_s, .inl (cI, 30, .inl t_s)), (h_t_text, .inl (cC, 60, .inl t_text)), (h_t_times, .inl (cI, 62, .inl t_times)), (h_t_was, .inl (cI, 120, .inl t_was))] H → va_D A [(h_t, .inr (10, [.ref h_t_s, .ref h_t_was, .ref h_t_begun, .int t_states, .ref h_t_text, .int t_typed, .ref h_t_wrong, .ref h_t_cost, .ref h_t_first, .ref h_t_block, .ref h_t_many, .ref h_t_stack, .int t_height, .ref h_t_written, .int t_length, .ref h_t_own, .ref h_t_levelAt, .ref h_t_itemAt, .ref h_t_times, .int t_at, .int t_ownLength, .int t_depth, .int t_deepest, .int t_letters, .int t_repeats, .int t_corrections, .int t_mostCorrections, .int t_place, .int t_reason])), (h_t_begun, .inl (cI, 30, .inl t_begun)), (h_t_itemAt, .inl (cI, 62, .inl t_itemAt)), (h_t_levelAt, .inl (cI, 62, .inl t_levelAt)), (h_t_own, .inl (cI, 1500, .inl t_own)), (h_t_s, .inl (cI, 30, .inl t_s)), (h_t_text, .inl (cC, 60, .inl t_text)), (h_t_times, .inl (cI, 62, .inl t_times)), (h_t_was, .inl (cI, 120, .inl t_was))] → va_S A s.heap H locs → lv_has ls 2 [(0, .ref h_t), (1, .int x1)] → W p l e (headSpec wsX11_adopt ({ frames := 5, cells := 0, slots := 0, locals := 120 } : Room)).room s m args below meth c H locs 0 0 QQ (F0 m 16 ls []) := by
    intro n16
    induction n16 with
    | zero =>
      intro x1 t_states t_at t_ownLength t_depth t_deepest t_letters t_repeats t_corrections t_mostCorrections t_place t_reason t_begun t_itemAt t_levelAt t_own t_s t_times t_was H locs ls hres
      rw [fMD_adopt_16] at hres
      cases hres
    | succ n16 ih16 =>
      intro x1 t_states t_at t_ownLength t_depth t_deepest t_letters t_repeats t_corrections t_mostCorrections t_place t_reason t_begun t_itemAt t_levelAt t_own t_s t_times t_was H locs ls hres hP hD hS hl
      rw [fMD_adopt_16] at hres
      refine lv_iload_n hx hb dX11_adopt_16 rfl (lv_at hl 1 rfl) ?_
      refine lv_aload_n hx hb dX11_adopt_17 rfl (lv_at hl 0 rfl) ?_
      refine va_get (D := (dC, dI)) (ci := 10) (v := .int t_ownLength) (C := RX11) (T := TX11) (N := 29) hx hb hts iMD_adopt_X11_adopt_1 hown hK hP 0 rfl rfl 20 (by decide) (hts _ kMD_adopt_X11_adopt_0) (fun _ h9 => h9) rfl dX11_adopt_18 ?_
      refine lv_icmp_ge (tgt := 45) hx hb dX11_adopt_21 (by decide) (fun c_1 => ?_) (fun c_1 => ?_)
      · have hres := it_of hres c_1
        refine lv_aload_n hx hb dX11_adopt_45 rfl (lv_at hl 0 rfl) ?_
        refine va_get (D := (dC, dI)) (ci := 10) (v := .ref h_t_s) (C := RX11) (T := TX11) (N := 29) hx hb hts iMD_adopt_X11_adopt_1 hown hK hP 0 rfl rfl 0 (by decide) (hts _ kMD_adopt_X11_adopt_2) (fun _ h9 => h9) rfl dX11_adopt_46 ?_
        refine lv_iconst (v := (0 : Int32)) hx hb dX11_adopt_49 (by decide) ?_
        refine lv_aload_n hx hb dX11_adopt_50 rfl (lv_at hl 0 rfl) ?_
        refine va_get (D := (dC, dI)) (ci := 10) (v := .int t_ownLength) (C := RX11) (T := TX11) (N := 29) hx hb hts iMD_adopt_X11_adopt_1 hown hK hP 0 rfl rfl 20 (by decide) (hts _ kMD_adopt_X11_adopt_0) (fun _ h9 => h9) rfl dX11_adopt_51 ?_
        refine va_iast hx hb hK hP hD hS 5 0 rfl rfl (vin (by decide)) dX11_adopt_54 (fun H locs hP hD hS => ?_)
        have hP : va_P (dC, dI) vwCl [(h_t, .inr (10, [.ref h_t_s, .ref h_t_was, .ref h_t_begun, .int t_states, .ref h_t_text, .int t_typed, .ref h_t_wrong, .ref h_t_cost, .ref h_t_first, .ref h_t_block, .ref h_t_many, .ref h_t_stack, .int t_height, .ref h_t_written, .int t_length, .ref h_t_own, .ref h_t_levelAt, .ref h_t_itemAt, .ref h_t_times, .int t_at, .int t_ownLength, .int t_depth, .int t_deepest, .int t_letters, .int t_repeats, .int t_corrections, .int t_mostCorrections, .int t_place, .int t_reason])), (h_t_begun, .inl (cI, 30, .inl t_begun)), (h_t_itemAt, .inl (cI, 62, .inl t_itemAt)), (h_t_levelAt, .inl (cI, 62, .inl t_levelAt)), (h_t_own, .inl (cI, 1500, .inl t_own)), (h_t_s, .inl (cI, 30, .inl (wr t_s (0 : Int32) t_ownLength))), (h_t_text, .inl (cC, 60, .inl t_text)), (h_t_times, .inl (cI, 62, .inl t_times)), (h_t_was, .inl (cI, 120, .inl t_was))] H := hP
        have hD : va_D A [(h_t, .inr (10, [.ref h_t_s, .ref h_t_was, .ref h_t_begun, .int t_states, .ref h_t_text, .int t_typed, .ref h_t_wrong, .ref h_t_cost, .ref h_t_first, .ref h_t_block, .ref h_t_many, .ref h_t_stack, .int t_height, .ref h_t_written, .int t_length, .ref h_t_own, .ref h_t_levelAt, .ref h_t_itemAt, .ref h_t_times, .int t_at, .int t_ownLength, .int t_depth, .int t_deepest, .int t_letters, .int t_repeats, .int t_corrections, .int t_mostCorrections, .int t_place, .int t_reason])), (h_t_begun, .inl (cI, 30, .inl t_begun)), (h_t_itemAt, .inl (cI, 62, .inl t_itemAt)), (h_t_levelAt, .inl (cI, 62, .inl t_levelAt)), (h_t_own, .inl (cI, 1500, .inl t_own)), (h_t_s, .inl (cI, 30, .inl (wr t_s (0 : Int32) t_ownLength))), (h_t_text, .inl (cC, 60, .inl t_text)), (h_t_times, .inl (cI, 62, .inl t_times)), (h_t_was, .inl (cI, 120, .inl t_was))] := hD
        refine lv_aload_n hx hb dX11_adopt_55 rfl (lv_at hl 0 rfl) ?_
        refine lv_aload_n hx hb dX11_adopt_56 rfl (lv_at hl 0 rfl) ?_
        refine va_get (D := (dC, dI)) (ci := 10) (v := .int t_ownLength) (C := RX11) (T := TX11) (N := 29) hx hb hts iMD_adopt_X11_adopt_1 hown hK hP 0 rfl rfl 20 (by decide) (hts _ kMD_adopt_X11_adopt_0) (fun _ h9 => h9) rfl dX11_adopt_57 ?_
        obtain ⟨o2, ho2, hres⟩ := bd_of hres
        have hPc := hP.sub (ws' := [(h_t, .inr (10, [.ref h_t_s, .ref h_t_was, .ref h_t_begun, .int t_states, .ref h_t_text, .int t_typed, .ref h_t_wrong, .ref h_t_cost, .ref h_t_first, .ref h_t_block, .ref h_t_many, .ref h_t_stack, .int t_height, .ref h_t_written, .int t_length, .ref h_t_own, .ref h_t_levelAt, .ref h_t_itemAt, .ref h_t_times, .int t_at, .int t_ownLength, .int t_depth, .int t_deepest, .int t_letters, .int t_repeats, .int t_corrections, .int t_mostCorrections, .int t_place, .int t_reason])), (h_t_begun, .inl (cI, 30, .inl t_begun)), (h_t_was, .inl (cI, 120, .inl t_was))]) [0, 1, 8] rfl
        have hDc := hD.sub (ws' := [(h_t, .inr (10, [.ref h_t_s, .ref h_t_was, .ref h_t_begun, .int t_states, .ref h_t_text, .int t_typed, .ref h_t_wrong, .ref h_t_cost, .ref h_t_first, .ref h_t_block, .ref h_t_many, .ref h_t_stack, .int t_height, .ref h_t_written, .int t_length, .ref h_t_own, .ref h_t_levelAt, .ref h_t_itemAt, .ref h_t_times, .int t_at, .int t_ownLength, .int t_depth, .int t_deepest, .int t_letters, .int t_repeats, .int t_corrections, .int t_mostCorrections, .int t_place, .int t_reason])), (h_t_begun, .inl (cI, 30, .inl t_begun)), (h_t_was, .inl (cI, 120, .inl t_was))]) [0, 1, 8] (by decide) rfl
        have hFc := va_free (wc := [(h_t, .inr (10, [.ref h_t_s, .ref h_t_was, .ref h_t_begun, .int t_states, .ref h_t_text, .int t_typed, .ref h_t_wrong, .ref h_t_cost, .ref h_t_first, .ref h_t_block, .ref h_t_many, .ref h_t_stack, .int t_height, .ref h_t_written, .int t_length, .ref h_t_own, .ref h_t_levelAt, .ref h_t_itemAt, .ref h_t_times, .int t_at, .int t_ownLength, .int t_depth, .int t_deepest, .int t_letters, .int t_repeats, .int t_corrections, .int t_mostCorrections, .int t_place, .int t_reason])), (h_t_begun, .inl (cI, 30, .inl t_begun)), (h_t_was, .inl (cI, 120, .inl t_was))]) hD hS hA [0, 1, 8] rfl
        refine va_calli (va_runV (As := [.int t_ownLength]) (rest := []) ⟨hx, hb, hml, hown, hts⟩ (cMD_acted l dC dI cI cJ cC cS h_t h_t_s h_t_was h_t_begun h_t_text h_t_wrong h_t_cost h_t_first h_t_block h_t_many h_t_stack h_t_written h_t_own h_t_levelAt h_t_itemAt h_t_times H.size t_states t_typed t_height t_length t_at t_ownLength t_depth t_deepest t_letters t_repeats t_corrections t_mostCorrections t_place t_reason t_begun t_was t_ownLength o2.1 o2.2.1 o2.2.2 ho2) (cwV 1 hts gX11_adopt_X11_acted rfl rfl rfl (by decide +kernel) ⟨Nat.le_of_ble_eq_true rfl, Nat.le_of_ble_eq_true rfl⟩) ⟨fun a U g mk q => by obtain ⟨q0, q1, qP, qK, qN, qD⟩ := q; exact ⟨q0, q1, qP, va_K.moved (u := U) (U := U.calling g mk a) (Vm.Alike.refl U.vm) qK, nwS (u := U) (U := U.calling g mk a) rfl qN, qD⟩, va_recv hK hPc (ci := 10) (q0 := 0) rfl rfl, fun U hU hW => ⟨rfl, by rw [hU], by rw [hU]; exact hPc, va_K.moved hW.alike hK, nwW hW hN, hDc.weaken (fun _ _ _ _ => trivial)⟩⟩ rfl rfl hl.1 rfl (lv_room (Nat.le_of_ble_eq_true rfl)) dX11_adopt_60 ⟨Nat.zero_le _, Nat.zero_le _⟩) hS (fun q _ h => hFc q h) hFc (fun r9 u9 t H1 locs ht hvm hw hB hz1 hk1 hS => ?_)
        have hw := hw.symm
        subst hw
        obtain ⟨hP1, hK1, hD1⟩ := hB
        rw [ht] at hP1
        obtain ⟨hP, hD⟩ := va_join (wr := [(h_t_itemAt, .inl (cI, 62, .inl t_itemAt)), (h_t_levelAt, .inl (cI, 62, .inl t_levelAt)), (h_t_own, .inl (cI, 1500, .inl t_own)), (h_t_s, .inl (cI, 30, .inl (wr t_s (0 : Int32) t_ownLength))), (h_t_text, .inl (cC, 60, .inl t_text)), (h_t_times, .inl (cI, 62, .inl t_times))]) (w1 := [(h_t, .inr (10, [.ref h_t_s, .ref h_t_was, .ref h_t_begun, .int o2.2.1, .ref h_t_text, .int t_typed, .ref h_t_wrong, .ref h_t_cost, .ref h_t_first, .ref h_t_block, .ref h_t_many, .ref h_t_stack, .int t_height, .ref h_t_written, .int t_length, .ref h_t_own, .ref h_t_levelAt, .ref h_t_itemAt, .ref h_t_times, .int t_at, .int t_ownLength, .int t_depth, .int t_deepest, .int t_letters, .int t_repeats, .int t_corrections, .int t_mostCorrections, .int t_place, .int t_reason])), (h_t_begun, .inl (cI, 30, .inl t_begun)), (h_t_was, .inl (cI, 120, .inl o2.2.2))]) hP hD [0, 1, 8] [2, 3, 4, 5, 6, 7] rfl rfl (by decide) (by decide) hk1 hFc hP1 hD1
        generalize H1 = H at hP hS ⊢
        have hP : va_P (dC, dI) vwCl [(h_t_itemAt, .inl (cI, 62, .inl t_itemAt)), (h_t_levelAt, .inl (cI, 62, .inl t_levelAt)), (h_t_own, .inl (cI, 1500, .inl t_own)), (h_t_s, .inl (cI, 30, .inl (wr t_s (0 : Int32) t_ownLength))), (h_t_text, .inl (cC, 60, .inl t_text)), (h_t_times, .inl (cI, 62, .inl t_times)), (h_t, .inr (10, [.ref h_t_s, .ref h_t_was, .ref h_t_begun, .int o2.2.1, .ref h_t_text, .int t_typed, .ref h_t_wrong, .ref h_t_cost, .ref h_t_first, .ref h_t_block, .ref h_t_many, .ref h_t_stack, .int t_height, .ref h_t_written, .int t_length, .ref h_t_own, .ref h_t_levelAt, .ref h_t_itemAt, .ref h_t_times, .int t_at, .int t_ownLength, .int t_depth, .int t_deepest, .int t_letters, .int t_repeats, .int t_corrections, .int t_mostCorrections, .int t_place, .int t_reason])), (h_t_begun, .inl (cI, 30, .inl t_begun)), (h_t_was, .inl (cI, 120, .inl o2.2.2))] H := hP
        have hD : va_D A [(h_t_itemAt, .inl (cI, 62, .inl t_itemAt)), (h_t_levelAt, .inl (cI, 62, .inl t_levelAt)), (h_t_own, .inl (cI, 1500, .inl t_own)), (h_t_s, .inl (cI, 30, .inl (wr t_s (0 : Int32) t_ownLength))), (h_t_text, .inl (cC, 60, .inl t_text)), (h_t_times, .inl (cI, 62, .inl t_times)), (h_t, .inr (10, [.ref h_t_s, .ref h_t_was, .ref h_t_begun, .int o2.2.1, .ref h_t_text, .int t_typed, .ref h_t_wrong, .ref h_t_cost, .ref h_t_first, .ref h_t_block, .ref h_t_many, .ref h_t_stack, .int t_height, .ref h_t_written, .int t_length, .ref h_t_own, .ref h_t_levelAt, .ref h_t_itemAt, .ref h_t_times, .int t_at, .int t_ownLength, .int t_depth, .int t_deepest, .int t_letters, .int t_repeats, .int t_corrections, .int t_mostCorrections, .int t_place, .int t_reason])), (h_t_begun, .inl (cI, 30, .inl t_begun)), (h_t_was, .inl (cI, 120, .inl o2.2.2))] := hD
        obtain ⟨e9_0, e9_1, e9_2, e9_3, e9_4, e9_5, e9_6, e9_7, e9_8, e9_9, e9_10, e9_11, e9_12, e9_13, e9_14, e9_15, e9_16, e9_17, e9_18⟩ := tup19 hres
        subst e9_0
        subst e9_1
        subst e9_2
        subst e9_3
        subst e9_4
        subst e9_5
        subst e9_6
        subst e9_7
        subst e9_8
        subst e9_9
        subst e9_10
        subst e9_11
        subst e9_12
        subst e9_13
        subst e9_14
        subst e9_15
        subst e9_16
        subst e9_17
        subst e9_18
        rw [← hQQ]
        exact W.iret (v := o2.1) hx hb hr (fun t ht hW => ⟨⟨o2.1, (), rfl, rfl, by rw [ht]; exact hP.sub [6, 7, 0, 1, 2, 3, 4, 5, 8] rfl, va_K.moved hW.alike hK, hD.sub [6, 7, 0, 1, 2, 3, 4, 5, 8] (by decide) rfl⟩, hS.F ht⟩) hS.2.2 dX11_adopt_63
      · have hres := ie_of hres c_1
        refine lv_aload_n hx hb dX11_adopt_24 rfl (lv_at hl 0 rfl) ?_
        refine va_get (D := (dC, dI)) (ci := 10) (v := .ref h_t_s) (C := RX11) (T := TX11) (N := 29) hx hb hts iMD_adopt_X11_adopt_1 hown hK hP 0 rfl rfl 0 (by decide) (hts _ kMD_adopt_X11_adopt_2) (fun _ h9 => h9) rfl dX11_adopt_25 ?_
        refine lv_bipush (v := (6 : Int32)) hx hb dX11_adopt_28 (by decide) ?_
        refine lv_iload_n hx hb dX11_adopt_30 rfl (lv_at hl 1 rfl) ?_
        refine lv_iadd hx hb dX11_adopt_31 ?_
        refine lv_aload_n hx hb dX11_adopt_32 rfl (lv_at hl 0 rfl) ?_
        refine va_get (D := (dC, dI)) (ci := 10) (v := .ref h_t_own) (C := RX11) (T := TX11) (N := 29) hx hb hts iMD_adopt_X11_adopt_1 hown hK hP 0 rfl rfl 15 (by decide) (hts _ kMD_adopt_X11_adopt_3) (fun _ h9 => h9) rfl dX11_adopt_33 ?_
        refine lv_iload_n hx hb dX11_adopt_36 rfl (lv_at hl 1 rfl) ?_
        obtain ⟨c_3, hres⟩ := ck_of hres
        refine va_iald hx hb hK hP 4 0 rfl rfl c_3 dX11_adopt_37 ?_
        obtain ⟨c_4, hres⟩ := ck_of hres
        refine va_iast hx hb hK hP hD hS 5 0 rfl rfl c_4 dX11_adopt_38 (fun H locs hP hD hS => ?_)
        have hP : va_P (dC, dI) vwCl [(h_t, .inr (10, [.ref h_t_s, .ref h_t_was, .ref h_t_begun, .int t_states, .ref h_t_text, .int t_typed, .ref h_t_wrong, .ref h_t_cost, .ref h_t_first, .ref h_t_block, .ref h_t_many, .ref h_t_stack, .int t_height, .ref h_t_written, .int t_length, .ref h_t_own, .ref h_t_levelAt, .ref h_t_itemAt, .ref h_t_times, .int t_at, .int t_ownLength, .int t_depth, .int t_deepest, .int t_letters, .int t_repeats, .int t_corrections, .int t_mostCorrections, .int t_place, .int t_reason])), (h_t_begun, .inl (cI, 30, .inl t_begun)), (h_t_itemAt, .inl (cI, 62, .inl t_itemAt)), (h_t_levelAt, .inl (cI, 62, .inl t_levelAt)), (h_t_own, .inl (cI, 1500, .inl t_own)), (h_t_s, .inl (cI, 30, .inl (wr t_s ((6 : Int32) + x1) (rd t_own x1)))), (h_t_text, .inl (cC, 60, .inl t_text)), (h_t_times, .inl (cI, 62, .inl t_times)), (h_t_was, .inl (cI, 120, .inl t_was))] H := hP
        have hD : va_D A [(h_t, .inr (10, [.ref h_t_s, .ref h_t_was, .ref h_t_begun, .int t_states, .ref h_t_text, .int t_typed, .ref h_t_wrong, .ref h_t_cost, .ref h_t_first, .ref h_t_block, .ref h_t_many, .ref h_t_stack, .int t_height, .ref h_t_written, .int t_length, .ref h_t_own, .ref h_t_levelAt, .ref h_t_itemAt, .ref h_t_times, .int t_at, .int t_ownLength, .int t_depth, .int t_deepest, .int t_letters, .int t_repeats, .int t_corrections, .int t_mostCorrections, .int t_place, .int t_reason])), (h_t_begun, .inl (cI, 30, .inl t_begun)), (h_t_itemAt, .inl (cI, 62, .inl t_itemAt)), (h_t_levelAt, .inl (cI, 62, .inl t_levelAt)), (h_t_own, .inl (cI, 1500, .inl t_own)), (h_t_s, .inl (cI, 30, .inl (wr t_s ((6 : Int32) + x1) (rd t_own x1)))), (h_t_text, .inl (cC, 60, .inl t_text)), (h_t_times, .inl (cI, 62, .inl t_times)), (h_t_was, .inl (cI, 120, .inl t_was))] := hD
        refine lv_iinc (v := (x1 + 1)) (lv' := [(1, .int (x1 + 1)), (0, .ref h_t)]) hx hb dX11_adopt_39 hl (k := 1) rfl rfl (by decide) rfl (fun ls hl => ?_)
        refine lv_goto (tgt := 16) hx hb dX11_adopt_42 (by decide) ?_
        exact ih16 (x1 + 1) t_states t_at t_ownLength t_depth t_deepest t_letters t_repeats t_corrections t_mostCorrections t_place t_reason t_begun t_itemAt t_levelAt t_own (wr t_s ((6 : Int32) + x1) (rd t_own x1)) t_times t_was H locs ls hres hP hD hS (lv_sub hl [1, 0] rfl)
  rw [fMD_adopt] at hres
  refine lv_aload_n hx hb dX11_adopt_0 rfl (lv_at hl 0 rfl) ?_
  obtain ⟨o5, ho5, hres⟩ := bd_of hres
  have hPc := hP.sub (ws' := [(h_t, .inr (10, [.ref h_t_s, .ref h_t_was, .ref h_t_begun, .int t_states, .ref h_t_text, .int t_typed, .ref h_t_wrong, .ref h_t_cost, .ref h_t_first, .ref h_t_block, .ref h_t_many, .ref h_t_stack, .int t_height, .ref h_t_written, .int t_length, .ref h_t_own, .ref h_t_levelAt, .ref h_t_itemAt, .ref h_t_times, .int t_at, .int t_ownLength, .int t_depth, .int t_deepest, .int t_letters, .int t_repeats, .int t_corrections, .int t_mostCorrections, .int t_place, .int t_reason])), (h_t_itemAt, .inl (cI, 62, .inl t_itemAt)), (h_t_levelAt, .inl (cI, 62, .inl t_levelAt)), (h_t_own, .inl (cI, 1500, .inl t_own)), (h_t_text, .inl (cC, 60, .inl t_text)), (h_t_times, .inl (cI, 62, .inl t_times))]) [0, 2, 3, 4, 6, 7] rfl
  have hDc := hD.sub (ws' := [(h_t, .inr (10, [.ref h_t_s, .ref h_t_was, .ref h_t_begun, .int t_states, .ref h_t_text, .int t_typed, .ref h_t_wrong, .ref h_t_cost, .ref h_t_first, .ref h_t_block, .ref h_t_many, .ref h_t_stack, .int t_height, .ref h_t_written, .int t_length, .ref h_t_own, .ref h_t_levelAt, .ref h_t_itemAt, .ref h_t_times, .int t_at, .int t_ownLength, .int t_depth, .int t_deepest, .int t_letters, .int t_repeats, .int t_corrections, .int t_mostCorrections, .int t_place, .int t_reason])), (h_t_itemAt, .inl (cI, 62, .inl t_itemAt)), (h_t_levelAt, .inl (cI, 62, .inl t_levelAt)), (h_t_own, .inl (cI, 1500, .inl t_own)), (h_t_text, .inl (cC, 60, .inl t_text)), (h_t_times, .inl (cI, 62, .inl t_times))]) [0, 2, 3, 4, 6, 7] (by decide) rfl
  have hFc := va_free (wc := [(h_t, .inr (10, [.ref h_t_s, .ref h_t_was, .ref h_t_begun, .int t_states, .ref h_t_text, .int t_typed, .ref h_t_wrong, .ref h_t_cost, .ref h_t_first, .ref h_t_block, .ref h_t_many, .ref h_t_stack, .int t_height, .ref h_t_written, .int t_length, .ref h_t_own, .ref h_t_levelAt, .ref h_t_itemAt, .ref h_t_times, .int t_at, .int t_ownLength, .int t_depth, .int t_deepest, .int t_letters, .int t_repeats, .int t_corrections, .int t_mostCorrections, .int t_place, .int t_reason])), (h_t_itemAt, .inl (cI, 62, .inl t_itemAt)), (h_t_levelAt, .inl (cI, 62, .inl t_levelAt)), (h_t_own, .inl (cI, 1500, .inl t_own)), (h_t_text, .inl (cC, 60, .inl t_text)), (h_t_times, .inl (cI, 62, .inl t_times))]) hD hS hA [0, 2, 3, 4, 6, 7] rfl
  refine va_calli (va_runV (As := []) (rest := []) ⟨hx, hb, hml, hown, hts⟩ (cMD_reads l dC dI cI cJ cC cS h_t h_t_s h_t_was h_t_begun h_t_text h_t_wrong h_t_cost h_t_first h_t_block h_t_many h_t_stack h_t_written h_t_own h_t_levelAt h_t_itemAt h_t_times H.size t_states t_typed t_height t_length t_at t_ownLength t_depth t_deepest t_letters t_repeats t_corrections t_mostCorrections t_place t_reason t_itemAt t_levelAt t_own t_text t_times o5.1 o5.2.1 o5.2.2.1 o5.2.2.2.1 o5.2.2.2.2.1 o5.2.2.2.2.2.1 o5.2.2.2.2.2.2.1 o5.2.2.2.2.2.2.2.1 o5.2.2.2.2.2.2.2.2.1 o5.2.2.2.2.2.2.2.2.2.1 o5.2.2.2.2.2.2.2.2.2.2.1 o5.2.2.2.2.2.2.2.2.2.2.2.1 o5.2.2.2.2.2.2.2.2.2.2.2.2.1 o5.2.2.2.2.2.2.2.2.2.2.2.2.2.1 o5.2.2.2.2.2.2.2.2.2.2.2.2.2.2 ho5) (cwV 0 hts gX11_adopt_X11_reads rfl rfl rfl (by decide +kernel) ⟨Nat.le_of_ble_eq_true rfl, Nat.le_of_ble_eq_true rfl⟩) ⟨fun a U g mk q => by obtain ⟨q0, q1, qP, qK, qN, qD⟩ := q; exact ⟨q0, q1, qP, va_K.moved (u := U) (U := U.calling g mk a) (Vm.Alike.refl U.vm) qK, nwS (u := U) (U := U.calling g mk a) rfl qN, qD⟩, va_recv hK hPc (ci := 10) (q0 := 0) rfl rfl, fun U hU hW => ⟨rfl, by rw [hU], by rw [hU]; exact hPc, va_K.moved hW.alike hK, nwW hW hN, hDc.weaken (fun _ _ _ _ => trivial)⟩⟩ rfl rfl hl.1 rfl (lv_room (Nat.le_of_ble_eq_true rfl)) dX11_adopt_1 ⟨Nat.zero_le _, Nat.zero_le _⟩) hS (fun q _ h => hFc q h) hFc (fun r9 u9 t H1 locs ht hvm hw hB hz1 hk1 hS => ?_)
  have hw := hw.symm
  subst hw
  obtain ⟨hP1, hK1, hD1⟩ := hB
  rw [ht] at hP1
  obtain ⟨hP, hD⟩ := va_join (wr := [(h_t_begun, .inl (cI, 30, .inl t_begun)), (h_t_s, .inl (cI, 30, .inl t_s)), (h_t_was, .inl (cI, 120, .inl t_was))]) (w1 := [(h_t, .inr (10, [.ref h_t_s, .ref h_t_was, .ref h_t_begun, .int t_states, .ref h_t_text, .int t_typed, .ref h_t_wrong, .ref h_t_cost, .ref h_t_first, .ref h_t_block, .ref h_t_many, .ref h_t_stack, .int t_height, .ref h_t_written, .int t_length, .ref h_t_own, .ref h_t_levelAt, .ref h_t_itemAt, .ref h_t_times, .int o5.2.1, .int o5.2.2.1, .int o5.2.2.2.1, .int o5.2.2.2.2.1, .int o5.2.2.2.2.2.1, .int o5.2.2.2.2.2.2.1, .int o5.2.2.2.2.2.2.2.1, .int o5.2.2.2.2.2.2.2.2.1, .int o5.2.2.2.2.2.2.2.2.2.1, .int o5.2.2.2.2.2.2.2.2.2.2.1])), (h_t_itemAt, .inl (cI, 62, .inl o5.2.2.2.2.2.2.2.2.2.2.2.1)), (h_t_levelAt, .inl (cI, 62, .inl o5.2.2.2.2.2.2.2.2.2.2.2.2.1)), (h_t_own, .inl (cI, 1500, .inl o5.2.2.2.2.2.2.2.2.2.2.2.2.2.1)), (h_t_text, .inl (cC, 60, .inl t_text)), (h_t_times, .inl (cI, 62, .inl o5.2.2.2.2.2.2.2.2.2.2.2.2.2.2))]) hP hD [0, 2, 3, 4, 6, 7] [1, 5, 8] rfl rfl (by decide) (by decide) hk1 hFc hP1 hD1
  generalize H1 = H at hP hS ⊢
  have hP : va_P (dC, dI) vwCl [(h_t_begun, .inl (cI, 30, .inl t_begun)), (h_t_s, .inl (cI, 30, .inl t_s)), (h_t_was, .inl (cI, 120, .inl t_was)), (h_t, .inr (10, [.ref h_t_s, .ref h_t_was, .ref h_t_begun, .int t_states, .ref h_t_text, .int t_typed, .ref h_t_wrong, .ref h_t_cost, .ref h_t_first, .ref h_t_block, .ref h_t_many, .ref h_t_stack, .int t_height, .ref h_t_written, .int t_length, .ref h_t_own, .ref h_t_levelAt, .ref h_t_itemAt, .ref h_t_times, .int o5.2.1, .int o5.2.2.1, .int o5.2.2.2.1, .int o5.2.2.2.2.1, .int o5.2.2.2.2.2.1, .int o5.2.2.2.2.2.2.1, .int o5.2.2.2.2.2.2.2.1, .int o5.2.2.2.2.2.2.2.2.1, .int o5.2.2.2.2.2.2.2.2.2.1, .int o5.2.2.2.2.2.2.2.2.2.2.1])), (h_t_itemAt, .inl (cI, 62, .inl o5.2.2.2.2.2.2.2.2.2.2.2.1)), (h_t_levelAt, .inl (cI, 62, .inl o5.2.2.2.2.2.2.2.2.2.2.2.2.1)), (h_t_own, .inl (cI, 1500, .inl o5.2.2.2.2.2.2.2.2.2.2.2.2.2.1)), (h_t_text, .inl (cC, 60, .inl t_text)), (h_t_times, .inl (cI, 62, .inl o5.2.2.2.2.2.2.2.2.2.2.2.2.2.2))] H := hP
  have hD : va_D A [(h_t_begun, .inl (cI, 30, .inl t_begun)), (h_t_s, .inl (cI, 30, .inl t_s)), (h_t_was, .inl (cI, 120, .inl t_was)), (h_t, .inr (10, [.ref h_t_s, .ref h_t_was, .ref h_t_begun, .int t_states, .ref h_t_text, .int t_typed, .ref h_t_wrong, .ref h_t_cost, .ref h_t_first, .ref h_t_block, .ref h_t_many, .ref h_t_stack, .int t_height, .ref h_t_written, .int t_length, .ref h_t_own, .ref h_t_levelAt, .ref h_t_itemAt, .ref h_t_times, .int o5.2.1, .int o5.2.2.1, .int o5.2.2.2.1, .int o5.2.2.2.2.1, .int o5.2.2.2.2.2.1, .int o5.2.2.2.2.2.2.1, .int o5.2.2.2.2.2.2.2.1, .int o5.2.2.2.2.2.2.2.2.1, .int o5.2.2.2.2.2.2.2.2.2.1, .int o5.2.2.2.2.2.2.2.2.2.2.1])), (h_t_itemAt, .inl (cI, 62, .inl o5.2.2.2.2.2.2.2.2.2.2.2.1)), (h_t_levelAt, .inl (cI, 62, .inl o5.2.2.2.2.2.2.2.2.2.2.2.2.1)), (h_t_own, .inl (cI, 1500, .inl o5.2.2.2.2.2.2.2.2.2.2.2.2.2.1)), (h_t_text, .inl (cC, 60, .inl t_text)), (h_t_times, .inl (cI, 62, .inl o5.2.2.2.2.2.2.2.2.2.2.2.2.2.2))] := hD
  refine lv_if_ne (tgt := 10) hx hb dX11_adopt_4 (by decide) (fun c_6 => ?_) (fun c_6 => ?_)
  · have hres := ie_of hres c_6
    refine lv_aload_n hx hb dX11_adopt_10 rfl (lv_at hl 0 rfl) ?_
    obtain ⟨o7, ho7, hres⟩ := bd_of hres
    have hPc := hP.sub (ws' := [(h_t, .inr (10, [.ref h_t_s, .ref h_t_was, .ref h_t_begun, .int t_states, .ref h_t_text, .int t_typed, .ref h_t_wrong, .ref h_t_cost, .ref h_t_first, .ref h_t_block, .ref h_t_many, .ref h_t_stack, .int t_height, .ref h_t_written, .int t_length, .ref h_t_own, .ref h_t_levelAt, .ref h_t_itemAt, .ref h_t_times, .int o5.2.1, .int o5.2.2.1, .int o5.2.2.2.1, .int o5.2.2.2.2.1, .int o5.2.2.2.2.2.1, .int o5.2.2.2.2.2.2.1, .int o5.2.2.2.2.2.2.2.1, .int o5.2.2.2.2.2.2.2.2.1, .int o5.2.2.2.2.2.2.2.2.2.1, .int o5.2.2.2.2.2.2.2.2.2.2.1])), (h_t_begun, .inl (cI, 30, .inl t_begun)), (h_t_s, .inl (cI, 30, .inl t_s))]) [3, 0, 1] rfl
    have hDc := hD.sub (ws' := [(h_t, .inr (10, [.ref h_t_s, .ref h_t_was, .ref h_t_begun, .int t_states, .ref h_t_text, .int t_typed, .ref h_t_wrong, .ref h_t_cost, .ref h_t_first, .ref h_t_block, .ref h_t_many, .ref h_t_stack, .int t_height, .ref h_t_written, .int t_length, .ref h_t_own, .ref h_t_levelAt, .ref h_t_itemAt, .ref h_t_times, .int o5.2.1, .int o5.2.2.1, .int o5.2.2.2.1, .int o5.2.2.2.2.1, .int o5.2.2.2.2.2.1, .int o5.2.2.2.2.2.2.1, .int o5.2.2.2.2.2.2.2.1, .int o5.2.2.2.2.2.2.2.2.1, .int o5.2.2.2.2.2.2.2.2.2.1, .int o5.2.2.2.2.2.2.2.2.2.2.1])), (h_t_begun, .inl (cI, 30, .inl t_begun)), (h_t_s, .inl (cI, 30, .inl t_s))]) [3, 0, 1] (by decide) rfl
    have hFc := va_free (wc := [(h_t, .inr (10, [.ref h_t_s, .ref h_t_was, .ref h_t_begun, .int t_states, .ref h_t_text, .int t_typed, .ref h_t_wrong, .ref h_t_cost, .ref h_t_first, .ref h_t_block, .ref h_t_many, .ref h_t_stack, .int t_height, .ref h_t_written, .int t_length, .ref h_t_own, .ref h_t_levelAt, .ref h_t_itemAt, .ref h_t_times, .int o5.2.1, .int o5.2.2.1, .int o5.2.2.2.1, .int o5.2.2.2.2.1, .int o5.2.2.2.2.2.1, .int o5.2.2.2.2.2.2.1, .int o5.2.2.2.2.2.2.2.1, .int o5.2.2.2.2.2.2.2.2.1, .int o5.2.2.2.2.2.2.2.2.2.1, .int o5.2.2.2.2.2.2.2.2.2.2.1])), (h_t_begun, .inl (cI, 30, .inl t_begun)), (h_t_s, .inl (cI, 30, .inl t_s))]) hD hS hA [3, 0, 1] rfl
    refine va_callv (va_runV (As := []) (rest := []) ⟨hx, hb, hml, hown, hts⟩ (cMD_keeps l dC dI cI cJ cC cS h_t h_t_s h_t_was h_t_begun h_t_text h_t_wrong h_t_cost h_t_first h_t_block h_t_many h_t_stack h_t_written h_t_own h_t_levelAt h_t_itemAt h_t_times H.size t_states t_typed t_height t_length o5.2.1 o5.2.2.1 o5.2.2.2.1 o5.2.2.2.2.1 o5.2.2.2.2.2.1 o5.2.2.2.2.2.2.1 o5.2.2.2.2.2.2.2.1 o5.2.2.2.2.2.2.2.2.1 o5.2.2.2.2.2.2.2.2.2.1 o5.2.2.2.2.2.2.2.2.2.2.1 t_begun t_s o7 ho7) (cwV 0 hts gX11_adopt_X11_keeps rfl rfl rfl (by decide +kernel) ⟨Nat.le_of_ble_eq_true rfl, Nat.le_of_ble_eq_true rfl⟩) ⟨fun a U g mk q => by obtain ⟨q0, q1, qP, qK, qN, qD⟩ := q; exact ⟨q0, q1, qP, va_K.moved (u := U) (U := U.calling g mk a) (Vm.Alike.refl U.vm) qK, nwS (u := U) (U := U.calling g mk a) rfl qN, qD⟩, va_recv hK hPc (ci := 10) (q0 := 0) rfl rfl, fun U hU hW => ⟨rfl, by rw [hU], by rw [hU]; exact hPc, va_K.moved hW.alike hK, nwW hW hN, hDc.weaken (fun _ _ _ _ => trivial)⟩⟩ rfl rfl hl.1 rfl (lv_room (Nat.le_of_ble_eq_true rfl)) dX11_adopt_11 ⟨Nat.zero_le _, Nat.zero_le _⟩) hS (fun q _ h => hFc q h) hFc (fun u9 t H1 locs ht hvm hw hB hz1 hk1 hS => ?_)
    obtain ⟨hP1, hK1, hD1⟩ := hB
    rw [ht] at hP1
    obtain ⟨hP, hD⟩ := va_join (wr := [(h_t_was, .inl (cI, 120, .inl t_was)), (h_t_itemAt, .inl (cI, 62, .inl o5.2.2.2.2.2.2.2.2.2.2.2.1)), (h_t_levelAt, .inl (cI, 62, .inl o5.2.2.2.2.2.2.2.2.2.2.2.2.1)), (h_t_own, .inl (cI, 1500, .inl o5.2.2.2.2.2.2.2.2.2.2.2.2.2.1)), (h_t_text, .inl (cC, 60, .inl t_text)), (h_t_times, .inl (cI, 62, .inl o5.2.2.2.2.2.2.2.2.2.2.2.2.2.2))]) (w1 := [(h_t, .inr (10, [.ref h_t_s, .ref h_t_was, .ref h_t_begun, .int t_states, .ref h_t_text, .int t_typed, .ref h_t_wrong, .ref h_t_cost, .ref h_t_first, .ref h_t_block, .ref h_t_many, .ref h_t_stack, .int t_height, .ref h_t_written, .int t_length, .ref h_t_own, .ref h_t_levelAt, .ref h_t_itemAt, .ref h_t_times, .int o5.2.1, .int o5.2.2.1, .int o5.2.2.2.1, .int o5.2.2.2.2.1, .int o5.2.2.2.2.2.1, .int o5.2.2.2.2.2.2.1, .int o5.2.2.2.2.2.2.2.1, .int o5.2.2.2.2.2.2.2.2.1, .int o5.2.2.2.2.2.2.2.2.2.1, .int o5.2.2.2.2.2.2.2.2.2.2.1])), (h_t_begun, .inl (cI, 30, .inl o7)), (h_t_s, .inl (cI, 30, .inl t_s))]) hP hD [3, 0, 1] [2, 4, 5, 6, 7, 8] rfl rfl (by decide) (by decide) hk1 hFc hP1 hD1
    generalize H1 = H at hP hS ⊢
    have hP : va_P (dC, dI) vwCl [(h_t_was, .inl (cI, 120, .inl t_was)), (h_t_itemAt, .inl (cI, 62, .inl o5.2.2.2.2.2.2.2.2.2.2.2.1)), (h_t_levelAt, .inl (cI, 62, .inl o5.2.2.2.2.2.2.2.2.2.2.2.2.1)), (h_t_own, .inl (cI, 1500, .inl o5.2.2.2.2.2.2.2.2.2.2.2.2.2.1)), (h_t_text, .inl (cC, 60, .inl t_text)), (h_t_times, .inl (cI, 62, .inl o5.2.2.2.2.2.2.2.2.2.2.2.2.2.2)), (h_t, .inr (10, [.ref h_t_s, .ref h_t_was, .ref h_t_begun, .int t_states, .ref h_t_text, .int t_typed, .ref h_t_wrong, .ref h_t_cost, .ref h_t_first, .ref h_t_block, .ref h_t_many, .ref h_t_stack, .int t_height, .ref h_t_written, .int t_length, .ref h_t_own, .ref h_t_levelAt, .ref h_t_itemAt, .ref h_t_times, .int o5.2.1, .int o5.2.2.1, .int o5.2.2.2.1, .int o5.2.2.2.2.1, .int o5.2.2.2.2.2.1, .int o5.2.2.2.2.2.2.1, .int o5.2.2.2.2.2.2.2.1, .int o5.2.2.2.2.2.2.2.2.1, .int o5.2.2.2.2.2.2.2.2.2.1, .int o5.2.2.2.2.2.2.2.2.2.2.1])), (h_t_begun, .inl (cI, 30, .inl o7)), (h_t_s, .inl (cI, 30, .inl t_s))] H := hP
    have hD : va_D A [(h_t_was, .inl (cI, 120, .inl t_was)), (h_t_itemAt, .inl (cI, 62, .inl o5.2.2.2.2.2.2.2.2.2.2.2.1)), (h_t_levelAt, .inl (cI, 62, .inl o5.2.2.2.2.2.2.2.2.2.2.2.2.1)), (h_t_own, .inl (cI, 1500, .inl o5.2.2.2.2.2.2.2.2.2.2.2.2.2.1)), (h_t_text, .inl (cC, 60, .inl t_text)), (h_t_times, .inl (cI, 62, .inl o5.2.2.2.2.2.2.2.2.2.2.2.2.2.2)), (h_t, .inr (10, [.ref h_t_s, .ref h_t_was, .ref h_t_begun, .int t_states, .ref h_t_text, .int t_typed, .ref h_t_wrong, .ref h_t_cost, .ref h_t_first, .ref h_t_block, .ref h_t_many, .ref h_t_stack, .int t_height, .ref h_t_written, .int t_length, .ref h_t_own, .ref h_t_levelAt, .ref h_t_itemAt, .ref h_t_times, .int o5.2.1, .int o5.2.2.1, .int o5.2.2.2.1, .int o5.2.2.2.2.1, .int o5.2.2.2.2.2.1, .int o5.2.2.2.2.2.2.1, .int o5.2.2.2.2.2.2.2.1, .int o5.2.2.2.2.2.2.2.2.1, .int o5.2.2.2.2.2.2.2.2.2.1, .int o5.2.2.2.2.2.2.2.2.2.2.1])), (h_t_begun, .inl (cI, 30, .inl o7)), (h_t_s, .inl (cI, 30, .inl t_s))] := hD
    refine lv_iconst (v := (0 : Int32)) hx hb dX11_adopt_14 (by decide) ?_
    refine lv_istore_n (lv' := [(1, .int (0 : Int32)), (0, .ref h_t)]) hx hb dX11_adopt_15 rfl hl (by decide) rfl (fun ls hl => ?_)
    exact hL16 FU (0 : Int32) t_states o5.2.1 o5.2.2.1 o5.2.2.2.1 o5.2.2.2.2.1 o5.2.2.2.2.2.1 o5.2.2.2.2.2.2.1 o5.2.2.2.2.2.2.2.1 o5.2.2.2.2.2.2.2.2.1 o5.2.2.2.2.2.2.2.2.2.1 o5.2.2.2.2.2.2.2.2.2.2.1 o7 o5.2.2.2.2.2.2.2.2.2.2.2.1 o5.2.2.2.2.2.2.2.2.2.2.2.2.1 o5.2.2.2.2.2.2.2.2.2.2.2.2.2.1 t_s o5.2.2.2.2.2.2.2.2.2.2.2.2.2.2 t_was H locs ls hres (hP.sub [6, 7, 1, 2, 3, 8, 4, 5, 0] rfl) (hD.sub [6, 7, 1, 2, 3, 8, 4, 5, 0] (by decide) rfl) hS (lv_sub hl [1, 0] rfl)
  · have hres := it_of hres c_6
    refine lv_ldc (v := (-1000002 : Int32)) hx hb hown (hts _ kMD_adopt_X11_adopt_4) dX11_adopt_7 ?_
    obtain ⟨e9_0, e9_1, e9_2, e9_3, e9_4, e9_5, e9_6, e9_7, e9_8, e9_9, e9_10, e9_11, e9_12, e9_13, e9_14, e9_15, e9_16, e9_17, e9_18⟩ := tup19 hres
    subst e9_0
    subst e9_1
    subst e9_2
    subst e9_3
    subst e9_4
    subst e9_5
    subst e9_6
    subst e9_7
    subst e9_8
    subst e9_9
    subst e9_10
    subst e9_11
    subst e9_12
    subst e9_13
    subst e9_14
    subst e9_15
    subst e9_16
    subst e9_17
    subst e9_18
    rw [← hQQ]
    exact W.iret (v := (-1000002 : Int32)) hx hb hr (fun t ht hW => ⟨⟨(-1000002 : Int32), (), rfl, rfl, by rw [ht]; exact hP.sub [3, 0, 4, 5, 6, 1, 7, 8, 2] rfl, va_K.moved hW.alike hK, hD.sub [3, 0, 4, 5, 6, 1, 7, 8, 2] (by decide) rfl⟩, hS.F ht⟩) hS.2.2 dX11_adopt_9

-- MD_append
def fMD_append (t_states : Int32) (t_begun : Nat → Int32) (t_s : Nat → Int32) (t_was : Nat → Int32) (x1 : Int32) : Option (Int32 × Int32 × (Nat → Int32) × (Nat → Int32) × (Nat → Int32)) :=
  (fMD_in x1 (0 : Int32) (3 : Int32)).bind fun o1 =>
    if o1 = 0 then
      some ((-1000001 : Int32), t_states, t_begun, t_s, t_was)
    else
      if (rd t_s (0 : Int32)) = (24 : Int32) then
        some ((-1000003 : Int32), t_states, t_begun, t_s, t_was)
      else
        (fMD_keeps t_s t_begun).bind fun o4 =>
          if bIn ((6 : Int32) + (rd t_s (0 : Int32))) 30 = true then
            (fMD_acted o4 t_states t_was (rd (wr (wr t_s ((6 : Int32) + (rd t_s (0 : Int32))) x1) (0 : Int32) ((rd (wr t_s ((6 : Int32) + (rd t_s (0 : Int32))) x1) (0 : Int32)) + (1 : Int32))) (0 : Int32))).bind fun o6 =>
              some (o6.1, o6.2.1, o4, (wr (wr t_s ((6 : Int32) + (rd t_s (0 : Int32))) x1) (0 : Int32) ((rd (wr t_s ((6 : Int32) + (rd t_s (0 : Int32))) x1) (0 : Int32)) + (1 : Int32))), o6.2.2)
          else none
theorem kMD_append_X11_append_0 : Cond.fieldLink RX11 7 "RepeatNestsModel" "s" "[I" ∈ wsX11_append := by decide +kernel
theorem iMD_append_X11_append_1 : ∀ w ∈ wsX110, w ∈ wsX11_append := by decide +kernel
theorem kMD_append_X11_append_2 : Cond.constant RX11 66 (-1000003) ∈ wsX11_append := by decide +kernel
theorem kMD_append_X11_append_3 : Cond.constant RX11 57 (-1000001) ∈ wsX11_append := by decide +kernel
set_option maxHeartbeats 4000000 in
set_option maxRecDepth 100000 in
theorem cMD_append (l : Launch) (dC : Nat → ClassId) (dI : Nat → Nat → Nat) (cI cJ cC cS : ClassId) (h_t h_t_s h_t_was h_t_begun h_t_text h_t_wrong h_t_cost h_t_first h_t_block h_t_many h_t_stack h_t_written h_t_own h_t_levelAt h_t_itemAt h_t_times : Nat) (sz : Nat) (t_states : Int32) (t_typed : Int32) (t_height : Int32) (t_length : Int32) (t_at : Int32) (t_ownLength : Int32) (t_depth : Int32) (t_deepest : Int32) (t_letters : Int32) (t_repeats : Int32) (t_corrections : Int32) (t_mostCorrections : Int32) (t_place : Int32) (t_reason : Int32) (t_begun : Nat → Int32) (t_s : Nat → Int32) (t_was : Nat → Int32) (x1 : Int32) (r : Int32) (y_t_states : Int32) (y_t_begun : Nat → Int32) (y_t_s : Nat → Int32) (y_t_was : Nat → Int32) (hres : fMD_append t_states t_begun t_s t_was x1 = some (r, y_t_states, y_t_begun, y_t_s, y_t_was)) :
    Met l yX11_append wsX11_append ({ frames := 1, cells := 0, slots := 0, locals := 22 } : Room) (va_Pc [.ref h_t, .int x1] (fun (U : State) => U.heap.size = sz ∧ va_P (dC, dI) vwCl [(h_t, .inr (10, [.ref h_t_s, .ref h_t_was, .ref h_t_begun, .int t_states, .ref h_t_text, .int t_typed, .ref h_t_wrong, .ref h_t_cost, .ref h_t_first, .ref h_t_block, .ref h_t_many, .ref h_t_stack, .int t_height, .ref h_t_written, .int t_length, .ref h_t_own, .ref h_t_levelAt, .ref h_t_itemAt, .ref h_t_times, .int t_at, .int t_ownLength, .int t_depth, .int t_deepest, .int t_letters, .int t_repeats, .int t_corrections, .int t_mostCorrections, .int t_place, .int t_reason])), (h_t_begun, .inl (cI, 30, .inl t_begun)), (h_t_s, .inl (cI, 30, .inl t_s)), (h_t_was, .inl (cI, 120, .inl t_was))] U.heap ∧ va_K (dC, dI) vwCl (tyA cI cJ cC cS) U ∧ nwN U ∧ va_D (fun _ => True) [(h_t, .inr (10, [.ref h_t_s, .ref h_t_was, .ref h_t_begun, .int t_states, .ref h_t_text, .int t_typed, .ref h_t_wrong, .ref h_t_cost, .ref h_t_first, .ref h_t_block, .ref h_t_many, .ref h_t_stack, .int t_height, .ref h_t_written, .int t_length, .ref h_t_own, .ref h_t_levelAt, .ref h_t_itemAt, .ref h_t_times, .int t_at, .int t_ownLength, .int t_depth, .int t_deepest, .int t_letters, .int t_repeats, .int t_corrections, .int t_mostCorrections, .int t_place, .int t_reason])), (h_t_begun, .inl (cI, 30, .inl t_begun)), (h_t_s, .inl (cI, 30, .inl t_s)), (h_t_was, .inl (cI, 120, .inl t_was))])) (va_Qi (fun (r9 : Int32) (_ : Unit) => r9 = r) (fun (_ : Unit) (t : State) => va_P (dC, dI) vwCl [(h_t, .inr (10, [.ref h_t_s, .ref h_t_was, .ref h_t_begun, .int y_t_states, .ref h_t_text, .int t_typed, .ref h_t_wrong, .ref h_t_cost, .ref h_t_first, .ref h_t_block, .ref h_t_many, .ref h_t_stack, .int t_height, .ref h_t_written, .int t_length, .ref h_t_own, .ref h_t_levelAt, .ref h_t_itemAt, .ref h_t_times, .int t_at, .int t_ownLength, .int t_depth, .int t_deepest, .int t_letters, .int t_repeats, .int t_corrections, .int t_mostCorrections, .int t_place, .int t_reason])), (h_t_begun, .inl (cI, 30, .inl y_t_begun)), (h_t_s, .inl (cI, 30, .inl y_t_s)), (h_t_was, .inl (cI, 120, .inl y_t_was))] t.heap ∧ va_K (dC, dI) vwCl (tyA cI cJ cC cS) t ∧ va_D (va_A [(h_t, .inr (10, [.ref h_t_s, .ref h_t_was, .ref h_t_begun, .int t_states, .ref h_t_text, .int t_typed, .ref h_t_wrong, .ref h_t_cost, .ref h_t_first, .ref h_t_block, .ref h_t_many, .ref h_t_stack, .int t_height, .ref h_t_written, .int t_length, .ref h_t_own, .ref h_t_levelAt, .ref h_t_itemAt, .ref h_t_times, .int t_at, .int t_ownLength, .int t_depth, .int t_deepest, .int t_letters, .int t_repeats, .int t_corrections, .int t_mostCorrections, .int t_place, .int t_reason])), (h_t_begun, .inl (cI, 30, .inl t_begun)), (h_t_s, .inl (cI, 30, .inl t_s)), (h_t_was, .inl (cI, 120, .inl t_was))] sz) [(h_t, .inr (10, [.ref h_t_s, .ref h_t_was, .ref h_t_begun, .int y_t_states, .ref h_t_text, .int t_typed, .ref h_t_wrong, .ref h_t_cost, .ref h_t_first, .ref h_t_block, .ref h_t_many, .ref h_t_stack, .int t_height, .ref h_t_written, .int t_length, .ref h_t_own, .ref h_t_levelAt, .ref h_t_itemAt, .ref h_t_times, .int t_at, .int t_ownLength, .int t_depth, .int t_deepest, .int t_letters, .int t_repeats, .int t_corrections, .int t_mostCorrections, .int t_place, .int t_reason])), (h_t_begun, .inl (cI, 30, .inl y_t_begun)), (h_t_s, .inl (cI, 30, .inl y_t_s)), (h_t_was, .inl (cI, 120, .inl y_t_was))]) (va_A [(h_t, .inr (10, [.ref h_t_s, .ref h_t_was, .ref h_t_begun, .int t_states, .ref h_t_text, .int t_typed, .ref h_t_wrong, .ref h_t_cost, .ref h_t_first, .ref h_t_block, .ref h_t_many, .ref h_t_stack, .int t_height, .ref h_t_written, .int t_length, .ref h_t_own, .ref h_t_levelAt, .ref h_t_itemAt, .ref h_t_times, .int t_at, .int t_ownLength, .int t_depth, .int t_deepest, .int t_letters, .int t_repeats, .int t_corrections, .int t_mostCorrections, .int t_place, .int t_reason])), (h_t_begun, .inl (cI, 30, .inl t_begun)), (h_t_s, .inl (cI, 30, .inl t_s)), (h_t_was, .inl (cI, 120, .inl t_was))] sz)) 0 0 (va_A [(h_t, .inr (10, [.ref h_t_s, .ref h_t_was, .ref h_t_begun, .int t_states, .ref h_t_text, .int t_typed, .ref h_t_wrong, .ref h_t_cost, .ref h_t_first, .ref h_t_block, .ref h_t_many, .ref h_t_stack, .int t_height, .ref h_t_written, .int t_length, .ref h_t_own, .ref h_t_levelAt, .ref h_t_itemAt, .ref h_t_times, .int t_at, .int t_ownLength, .int t_depth, .int t_deepest, .int t_letters, .int t_repeats, .int t_corrections, .int t_mostCorrections, .int t_place, .int t_reason])), (h_t_begun, .inl (cI, 30, .inl t_begun)), (h_t_s, .inl (cI, 30, .inl t_s)), (h_t_was, .inl (cI, 120, .inl t_was))] sz) := by
  refine Met.ofW (cc := cX11_append) (maxL := 2) (ret := (some .int)) (by decide) rfl ?_
  intro p e s m args below meth c s₁ B hml hv
  obtain ⟨hargs, hsz, hP, hK, hN, hD0⟩ := hv
  have hx := B.exec
  have hb := B.bytes
  have hr := B.returns
  have hts := atoms_spec (ws := wsX11_append) B.pre
  have hown : s.vm.findClass RX11 = some m.cls := findClass_of_methodNamed B.named
  have hlocks := B.notSynchronized
  subst hsz
  have hD := hD0.self (sz := s.heap.size)
  generalize hAe : va_A [(h_t, .inr (10, [.ref h_t_s, .ref h_t_was, .ref h_t_begun, .int t_states, .ref h_t_text, .int t_typed, .ref h_t_wrong, .ref h_t_cost, .ref h_t_first, .ref h_t_block, .ref h_t_many, .ref h_t_stack, .int t_height, .ref h_t_written, .int t_length, .ref h_t_own, .ref h_t_levelAt, .ref h_t_itemAt, .ref h_t_times, .int t_at, .int t_ownLength, .int t_depth, .int t_deepest, .int t_letters, .int t_repeats, .int t_corrections, .int t_mostCorrections, .int t_place, .int t_reason])), (h_t_begun, .inl (cI, 30, .inl t_begun)), (h_t_s, .inl (cI, 30, .inl t_s)), (h_t_was, .inl (cI, 120, .inl t_was))] s.heap.size = A at hD ⊢
  have hA : ∀ q : Nat, s.heap.size ≤ q → A q := fun q h => by rw [← hAe]; exact Or.inr h
  have hS : va_S A s.heap s.heap [] := va_S.rf
  have hP : va_P (dC, dI) vwCl [(h_t, .inr (10, [.ref h_t_s, .ref h_t_was, .ref h_t_begun, .int t_states, .ref h_t_text, .int t_typed, .ref h_t_wrong, .ref h_t_cost, .ref h_t_first, .ref h_t_block, .ref h_t_many, .ref h_t_stack, .int t_height, .ref h_t_written, .int t_length, .ref h_t_own, .ref h_t_levelAt, .ref h_t_itemAt, .ref h_t_times, .int t_at, .int t_ownLength, .int t_depth, .int t_deepest, .int t_letters, .int t_repeats, .int t_corrections, .int t_mostCorrections, .int t_place, .int t_reason])), (h_t_begun, .inl (cI, 30, .inl t_begun)), (h_t_s, .inl (cI, 30, .inl t_s)), (h_t_was, .inl (cI, 120, .inl t_was))] s.heap := hP
  have hl := lv_entry [.ref h_t, .int x1] (n := 2) (Nat.le_of_ble_eq_true rfl)
  rw [show entryFrame m args 2 = entryFrame m ([.ref h_t, .int x1] : List Value).toArray 2 from by rw [hargs], lg_entry_eq]
  generalize (lg_sl [.ref h_t, .int x1] ++ List.replicate (2 - (lg_sl [.ref h_t, .int x1]).length) Slot.unset).toArray = ls at hl ⊢
  have hl : lv_has ls 2 [(0, .ref h_t), (1, .int x1)] := hl
  generalize hQQ : MQ below (va_Qi (fun (r9 : Int32) (_ : Unit) => r9 = r) (fun (_ : Unit) (t : State) => va_P (dC, dI) vwCl [(h_t, .inr (10, [.ref h_t_s, .ref h_t_was, .ref h_t_begun, .int y_t_states, .ref h_t_text, .int t_typed, .ref h_t_wrong, .ref h_t_cost, .ref h_t_first, .ref h_t_block, .ref h_t_many, .ref h_t_stack, .int t_height, .ref h_t_written, .int t_length, .ref h_t_own, .ref h_t_levelAt, .ref h_t_itemAt, .ref h_t_times, .int t_at, .int t_ownLength, .int t_depth, .int t_deepest, .int t_letters, .int t_repeats, .int t_corrections, .int t_mostCorrections, .int t_place, .int t_reason])), (h_t_begun, .inl (cI, 30, .inl y_t_begun)), (h_t_s, .inl (cI, 30, .inl y_t_s)), (h_t_was, .inl (cI, 120, .inl y_t_was))] t.heap ∧ va_K (dC, dI) vwCl (tyA cI cJ cC cS) t ∧ va_D A [(h_t, .inr (10, [.ref h_t_s, .ref h_t_was, .ref h_t_begun, .int y_t_states, .ref h_t_text, .int t_typed, .ref h_t_wrong, .ref h_t_cost, .ref h_t_first, .ref h_t_block, .ref h_t_many, .ref h_t_stack, .int t_height, .ref h_t_written, .int t_length, .ref h_t_own, .ref h_t_levelAt, .ref h_t_itemAt, .ref h_t_times, .int t_at, .int t_ownLength, .int t_depth, .int t_deepest, .int t_letters, .int t_repeats, .int t_corrections, .int t_mostCorrections, .int t_place, .int t_reason])), (h_t_begun, .inl (cI, 30, .inl y_t_begun)), (h_t_s, .inl (cI, 30, .inl y_t_s)), (h_t_was, .inl (cI, 120, .inl y_t_was))]) A) args s 0 0 A = QQ
  obtain ⟨H, hH⟩ : ∃ H : Heap, H = s.heap := ⟨_, rfl⟩
  obtain ⟨locs, hlocs⟩ : ∃ locs : List Loc, locs = [] := ⟨_, rfl⟩
  rw [← hH] at hP
  have hS : va_S A s.heap H locs := by rw [hH, hlocs]; exact hS
  suffices hZ : W p l e (headSpec wsX11_append ({ frames := 1, cells := 0, slots := 0, locals := 22 } : Room)).room s m args below meth c H locs 0 0 QQ (F0 m 0 ls []) by rw [hH, hlocs] at hZ; exact hZ
  clear hH hlocs
  rw [fMD_append] at hres
  refine lv_iload_n hx hb dX11_append_0 rfl (lv_at hl 1 rfl) ?_
  refine lv_iconst (v := (0 : Int32)) hx hb dX11_append_1 (by decide) ?_
  refine lv_iconst (v := (3 : Int32)) hx hb dX11_append_2 (by decide) ?_
  obtain ⟨o1, ho1, hres⟩ := bd_of hres
  have hPc := hP.sub (ws' := []) [] rfl
  have hDc := hD.sub (ws' := []) [] (by decide) rfl
  have hFc := va_free (wc := []) hD hS hA [] rfl
  refine va_calli (va_runS (As := [.int x1, .int (0 : Int32), .int (3 : Int32)]) (rest := []) ⟨hx, hb, hml, hown, hts⟩ (cMD_in l dC dI cI cJ cC cS H.size x1 (0 : Int32) (3 : Int32) o1 ho1) (va_cwS 3 hts gX11_append_X11_in rfl rfl rfl (by decide +kernel) ⟨Nat.le_of_ble_eq_true rfl, Nat.le_of_ble_eq_true rfl⟩) ⟨fun a U g mk q => by obtain ⟨q0, q1, qP, qK, qN, qD⟩ := q; exact ⟨q0, q1, qP, va_K.moved (u := U) (U := U.calling g mk a) (Vm.Alike.refl U.vm) qK, nwS (u := U) (U := U.calling g mk a) rfl qN, qD⟩, fun U hU hW => ⟨rfl, by rw [hU], by rw [hU]; exact hPc, va_K.moved hW.alike hK, nwW hW hN, hDc.weaken (fun _ _ _ _ => trivial)⟩⟩ rfl rfl hl.1 rfl (lv_room (Nat.le_of_ble_eq_true rfl)) dX11_append_3 ⟨Nat.zero_le _, Nat.zero_le _⟩) hS (fun q _ h => hFc q h) hFc (fun r9 u9 t H1 locs ht hvm hw hB hz1 hk1 hS => ?_)
  have hw := hw.symm
  subst hw
  obtain ⟨hP1, hK1, hD1⟩ := hB
  rw [ht] at hP1
  obtain ⟨hP, hD⟩ := va_join (wr := [(h_t, .inr (10, [.ref h_t_s, .ref h_t_was, .ref h_t_begun, .int t_states, .ref h_t_text, .int t_typed, .ref h_t_wrong, .ref h_t_cost, .ref h_t_first, .ref h_t_block, .ref h_t_many, .ref h_t_stack, .int t_height, .ref h_t_written, .int t_length, .ref h_t_own, .ref h_t_levelAt, .ref h_t_itemAt, .ref h_t_times, .int t_at, .int t_ownLength, .int t_depth, .int t_deepest, .int t_letters, .int t_repeats, .int t_corrections, .int t_mostCorrections, .int t_place, .int t_reason])), (h_t_begun, .inl (cI, 30, .inl t_begun)), (h_t_s, .inl (cI, 30, .inl t_s)), (h_t_was, .inl (cI, 120, .inl t_was))]) (w1 := []) hP hD [] [0, 1, 2, 3] rfl rfl (by decide) (by decide) hk1 hFc hP1 hD1
  generalize H1 = H at hP hS ⊢
  have hP : va_P (dC, dI) vwCl [(h_t, .inr (10, [.ref h_t_s, .ref h_t_was, .ref h_t_begun, .int t_states, .ref h_t_text, .int t_typed, .ref h_t_wrong, .ref h_t_cost, .ref h_t_first, .ref h_t_block, .ref h_t_many, .ref h_t_stack, .int t_height, .ref h_t_written, .int t_length, .ref h_t_own, .ref h_t_levelAt, .ref h_t_itemAt, .ref h_t_times, .int t_at, .int t_ownLength, .int t_depth, .int t_deepest, .int t_letters, .int t_repeats, .int t_corrections, .int t_mostCorrections, .int t_place, .int t_reason])), (h_t_begun, .inl (cI, 30, .inl t_begun)), (h_t_s, .inl (cI, 30, .inl t_s)), (h_t_was, .inl (cI, 120, .inl t_was))] H := hP
  have hD : va_D A [(h_t, .inr (10, [.ref h_t_s, .ref h_t_was, .ref h_t_begun, .int t_states, .ref h_t_text, .int t_typed, .ref h_t_wrong, .ref h_t_cost, .ref h_t_first, .ref h_t_block, .ref h_t_many, .ref h_t_stack, .int t_height, .ref h_t_written, .int t_length, .ref h_t_own, .ref h_t_levelAt, .ref h_t_itemAt, .ref h_t_times, .int t_at, .int t_ownLength, .int t_depth, .int t_deepest, .int t_letters, .int t_repeats, .int t_corrections, .int t_mostCorrections, .int t_place, .int t_reason])), (h_t_begun, .inl (cI, 30, .inl t_begun)), (h_t_s, .inl (cI, 30, .inl t_s)), (h_t_was, .inl (cI, 120, .inl t_was))] := hD
  refine lv_if_ne (tgt := 12) hx hb dX11_append_6 (by decide) (fun c_2 => ?_) (fun c_2 => ?_)
  · have hres := ie_of hres c_2
    refine lv_aload_n hx hb dX11_append_12 rfl (lv_at hl 0 rfl) ?_
    refine va_get (D := (dC, dI)) (ci := 10) (v := .ref h_t_s) (C := RX11) (T := TX11) (N := 29) hx hb hts iMD_append_X11_append_1 hown hK hP 0 rfl rfl 0 (by decide) (hts _ kMD_append_X11_append_0) (fun _ h9 => h9) rfl dX11_append_13 ?_
    refine lv_iconst (v := (0 : Int32)) hx hb dX11_append_16 (by decide) ?_
    refine va_iald hx hb hK hP 2 0 rfl rfl (vin (by decide)) dX11_append_17 ?_
    refine lv_bipush (v := (24 : Int32)) hx hb dX11_append_18 (by decide) ?_
    refine lv_icmp_ne (tgt := 26) hx hb dX11_append_20 (by decide) (fun c_3 => ?_) (fun c_3 => ?_)
    · have hres := ie_of hres c_3
      refine lv_aload_n hx hb dX11_append_26 rfl (lv_at hl 0 rfl) ?_
      obtain ⟨o4, ho4, hres⟩ := bd_of hres
      have hPc := hP.sub (ws' := [(h_t, .inr (10, [.ref h_t_s, .ref h_t_was, .ref h_t_begun, .int t_states, .ref h_t_text, .int t_typed, .ref h_t_wrong, .ref h_t_cost, .ref h_t_first, .ref h_t_block, .ref h_t_many, .ref h_t_stack, .int t_height, .ref h_t_written, .int t_length, .ref h_t_own, .ref h_t_levelAt, .ref h_t_itemAt, .ref h_t_times, .int t_at, .int t_ownLength, .int t_depth, .int t_deepest, .int t_letters, .int t_repeats, .int t_corrections, .int t_mostCorrections, .int t_place, .int t_reason])), (h_t_begun, .inl (cI, 30, .inl t_begun)), (h_t_s, .inl (cI, 30, .inl t_s))]) [0, 1, 2] rfl
      have hDc := hD.sub (ws' := [(h_t, .inr (10, [.ref h_t_s, .ref h_t_was, .ref h_t_begun, .int t_states, .ref h_t_text, .int t_typed, .ref h_t_wrong, .ref h_t_cost, .ref h_t_first, .ref h_t_block, .ref h_t_many, .ref h_t_stack, .int t_height, .ref h_t_written, .int t_length, .ref h_t_own, .ref h_t_levelAt, .ref h_t_itemAt, .ref h_t_times, .int t_at, .int t_ownLength, .int t_depth, .int t_deepest, .int t_letters, .int t_repeats, .int t_corrections, .int t_mostCorrections, .int t_place, .int t_reason])), (h_t_begun, .inl (cI, 30, .inl t_begun)), (h_t_s, .inl (cI, 30, .inl t_s))]) [0, 1, 2] (by decide) rfl
      have hFc := va_free (wc := [(h_t, .inr (10, [.ref h_t_s, .ref h_t_was, .ref h_t_begun, .int t_states, .ref h_t_text, .int t_typed, .ref h_t_wrong, .ref h_t_cost, .ref h_t_first, .ref h_t_block, .ref h_t_many, .ref h_t_stack, .int t_height, .ref h_t_written, .int t_length, .ref h_t_own, .ref h_t_levelAt, .ref h_t_itemAt, .ref h_t_times, .int t_at, .int t_ownLength, .int t_depth, .int t_deepest, .int t_letters, .int t_repeats, .int t_corrections, .int t_mostCorrections, .int t_place, .int t_reason])), (h_t_begun, .inl (cI, 30, .inl t_begun)), (h_t_s, .inl (cI, 30, .inl t_s))]) hD hS hA [0, 1, 2] rfl
      refine va_callv (va_runV (As := []) (rest := []) ⟨hx, hb, hml, hown, hts⟩ (cMD_keeps l dC dI cI cJ cC cS h_t h_t_s h_t_was h_t_begun h_t_text h_t_wrong h_t_cost h_t_first h_t_block h_t_many h_t_stack h_t_written h_t_own h_t_levelAt h_t_itemAt h_t_times H.size t_states t_typed t_height t_length t_at t_ownLength t_depth t_deepest t_letters t_repeats t_corrections t_mostCorrections t_place t_reason t_begun t_s o4 ho4) (cwV 0 hts gX11_append_X11_keeps rfl rfl rfl (by decide +kernel) ⟨Nat.le_of_ble_eq_true rfl, Nat.le_of_ble_eq_true rfl⟩) ⟨fun a U g mk q => by obtain ⟨q0, q1, qP, qK, qN, qD⟩ := q; exact ⟨q0, q1, qP, va_K.moved (u := U) (U := U.calling g mk a) (Vm.Alike.refl U.vm) qK, nwS (u := U) (U := U.calling g mk a) rfl qN, qD⟩, va_recv hK hPc (ci := 10) (q0 := 0) rfl rfl, fun U hU hW => ⟨rfl, by rw [hU], by rw [hU]; exact hPc, va_K.moved hW.alike hK, nwW hW hN, hDc.weaken (fun _ _ _ _ => trivial)⟩⟩ rfl rfl hl.1 rfl (lv_room (Nat.le_of_ble_eq_true rfl)) dX11_append_27 ⟨Nat.zero_le _, Nat.zero_le _⟩) hS (fun q _ h => hFc q h) hFc (fun u9 t H1 locs ht hvm hw hB hz1 hk1 hS => ?_)
      obtain ⟨hP1, hK1, hD1⟩ := hB
      rw [ht] at hP1
      obtain ⟨hP, hD⟩ := va_join (wr := [(h_t_was, .inl (cI, 120, .inl t_was))]) (w1 := [(h_t, .inr (10, [.ref h_t_s, .ref h_t_was, .ref h_t_begun, .int t_states, .ref h_t_text, .int t_typed, .ref h_t_wrong, .ref h_t_cost, .ref h_t_first, .ref h_t_block, .ref h_t_many, .ref h_t_stack, .int t_height, .ref h_t_written, .int t_length, .ref h_t_own, .ref h_t_levelAt, .ref h_t_itemAt, .ref h_t_times, .int t_at, .int t_ownLength, .int t_depth, .int t_deepest, .int t_letters, .int t_repeats, .int t_corrections, .int t_mostCorrections, .int t_place, .int t_reason])), (h_t_begun, .inl (cI, 30, .inl o4)), (h_t_s, .inl (cI, 30, .inl t_s))]) hP hD [0, 1, 2] [3] rfl rfl (by decide) (by decide) hk1 hFc hP1 hD1
      generalize H1 = H at hP hS ⊢
      have hP : va_P (dC, dI) vwCl [(h_t_was, .inl (cI, 120, .inl t_was)), (h_t, .inr (10, [.ref h_t_s, .ref h_t_was, .ref h_t_begun, .int t_states, .ref h_t_text, .int t_typed, .ref h_t_wrong, .ref h_t_cost, .ref h_t_first, .ref h_t_block, .ref h_t_many, .ref h_t_stack, .int t_height, .ref h_t_written, .int t_length, .ref h_t_own, .ref h_t_levelAt, .ref h_t_itemAt, .ref h_t_times, .int t_at, .int t_ownLength, .int t_depth, .int t_deepest, .int t_letters, .int t_repeats, .int t_corrections, .int t_mostCorrections, .int t_place, .int t_reason])), (h_t_begun, .inl (cI, 30, .inl o4)), (h_t_s, .inl (cI, 30, .inl t_s))] H := hP
      have hD : va_D A [(h_t_was, .inl (cI, 120, .inl t_was)), (h_t, .inr (10, [.ref h_t_s, .ref h_t_was, .ref h_t_begun, .int t_states, .ref h_t_text, .int t_typed, .ref h_t_wrong, .ref h_t_cost, .ref h_t_first, .ref h_t_block, .ref h_t_many, .ref h_t_stack, .int t_height, .ref h_t_written, .int t_length, .ref h_t_own, .ref h_t_levelAt, .ref h_t_itemAt, .ref h_t_times, .int t_at, .int t_ownLength, .int t_depth, .int t_deepest, .int t_letters, .int t_repeats, .int t_corrections, .int t_mostCorrections, .int t_place, .int t_reason])), (h_t_begun, .inl (cI, 30, .inl o4)), (h_t_s, .inl (cI, 30, .inl t_s))] := hD
      refine lv_aload_n hx hb dX11_append_30 rfl (lv_at hl 0 rfl) ?_
      refine va_get (D := (dC, dI)) (ci := 10) (v := .ref h_t_s) (C := RX11) (T := TX11) (N := 29) hx hb hts iMD_append_X11_append_1 hown hK hP 1 rfl rfl 0 (by decide) (hts _ kMD_append_X11_append_0) (fun _ h9 => h9) rfl dX11_append_31 ?_
      refine lv_bipush (v := (6 : Int32)) hx hb dX11_append_34 (by decide) ?_
      refine lv_aload_n hx hb dX11_append_36 rfl (lv_at hl 0 rfl) ?_
      refine va_get (D := (dC, dI)) (ci := 10) (v := .ref h_t_s) (C := RX11) (T := TX11) (N := 29) hx hb hts iMD_append_X11_append_1 hown hK hP 1 rfl rfl 0 (by decide) (hts _ kMD_append_X11_append_0) (fun _ h9 => h9) rfl dX11_append_37 ?_
      refine lv_iconst (v := (0 : Int32)) hx hb dX11_append_40 (by decide) ?_
      refine va_iald hx hb hK hP 3 0 rfl rfl (vin (by decide)) dX11_append_41 ?_
      refine lv_iadd hx hb dX11_append_42 ?_
      refine lv_iload_n hx hb dX11_append_43 rfl (lv_at hl 1 rfl) ?_
      obtain ⟨c_5, hres⟩ := ck_of hres
      refine va_iast hx hb hK hP hD hS 3 0 rfl rfl c_5 dX11_append_44 (fun H locs hP hD hS => ?_)
      have hP : va_P (dC, dI) vwCl [(h_t_was, .inl (cI, 120, .inl t_was)), (h_t, .inr (10, [.ref h_t_s, .ref h_t_was, .ref h_t_begun, .int t_states, .ref h_t_text, .int t_typed, .ref h_t_wrong, .ref h_t_cost, .ref h_t_first, .ref h_t_block, .ref h_t_many, .ref h_t_stack, .int t_height, .ref h_t_written, .int t_length, .ref h_t_own, .ref h_t_levelAt, .ref h_t_itemAt, .ref h_t_times, .int t_at, .int t_ownLength, .int t_depth, .int t_deepest, .int t_letters, .int t_repeats, .int t_corrections, .int t_mostCorrections, .int t_place, .int t_reason])), (h_t_begun, .inl (cI, 30, .inl o4)), (h_t_s, .inl (cI, 30, .inl (wr t_s ((6 : Int32) + (rd t_s (0 : Int32))) x1)))] H := hP
      have hD : va_D A [(h_t_was, .inl (cI, 120, .inl t_was)), (h_t, .inr (10, [.ref h_t_s, .ref h_t_was, .ref h_t_begun, .int t_states, .ref h_t_text, .int t_typed, .ref h_t_wrong, .ref h_t_cost, .ref h_t_first, .ref h_t_block, .ref h_t_many, .ref h_t_stack, .int t_height, .ref h_t_written, .int t_length, .ref h_t_own, .ref h_t_levelAt, .ref h_t_itemAt, .ref h_t_times, .int t_at, .int t_ownLength, .int t_depth, .int t_deepest, .int t_letters, .int t_repeats, .int t_corrections, .int t_mostCorrections, .int t_place, .int t_reason])), (h_t_begun, .inl (cI, 30, .inl o4)), (h_t_s, .inl (cI, 30, .inl (wr t_s ((6 : Int32) + (rd t_s (0 : Int32))) x1)))] := hD
      refine lv_aload_n hx hb dX11_append_45 rfl (lv_at hl 0 rfl) ?_
      refine va_get (D := (dC, dI)) (ci := 10) (v := .ref h_t_s) (C := RX11) (T := TX11) (N := 29) hx hb hts iMD_append_X11_append_1 hown hK hP 1 rfl rfl 0 (by decide) (hts _ kMD_append_X11_append_0) (fun _ h9 => h9) rfl dX11_append_46 ?_
      refine lv_iconst (v := (0 : Int32)) hx hb dX11_append_49 (by decide) ?_
      refine lv_dup2_11 hx hb dX11_append_50 rfl rfl ?_
      refine va_iald hx hb hK hP 3 0 rfl rfl (vin (by decide)) dX11_append_51 ?_
      refine lv_iconst (v := (1 : Int32)) hx hb dX11_append_52 (by decide) ?_
      refine lv_iadd hx hb dX11_append_53 ?_
      refine va_iast hx hb hK hP hD hS 3 0 rfl rfl (vin (by decide)) dX11_append_54 (fun H locs hP hD hS => ?_)
      have hP : va_P (dC, dI) vwCl [(h_t_was, .inl (cI, 120, .inl t_was)), (h_t, .inr (10, [.ref h_t_s, .ref h_t_was, .ref h_t_begun, .int t_states, .ref h_t_text, .int t_typed, .ref h_t_wrong, .ref h_t_cost, .ref h_t_first, .ref h_t_block, .ref h_t_many, .ref h_t_stack, .int t_height, .ref h_t_written, .int t_length, .ref h_t_own, .ref h_t_levelAt, .ref h_t_itemAt, .ref h_t_times, .int t_at, .int t_ownLength, .int t_depth, .int t_deepest, .int t_letters, .int t_repeats, .int t_corrections, .int t_mostCorrections, .int t_place, .int t_reason])), (h_t_begun, .inl (cI, 30, .inl o4)), (h_t_s, .inl (cI, 30, .inl (wr (wr t_s ((6 : Int32) + (rd t_s (0 : Int32))) x1) (0 : Int32) ((rd (wr t_s ((6 : Int32) + (rd t_s (0 : Int32))) x1) (0 : Int32)) + (1 : Int32)))))] H := hP
      have hD : va_D A [(h_t_was, .inl (cI, 120, .inl t_was)), (h_t, .inr (10, [.ref h_t_s, .ref h_t_was, .ref h_t_begun, .int t_states, .ref h_t_text, .int t_typed, .ref h_t_wrong, .ref h_t_cost, .ref h_t_first, .ref h_t_block, .ref h_t_many, .ref h_t_stack, .int t_height, .ref h_t_written, .int t_length, .ref h_t_own, .ref h_t_levelAt, .ref h_t_itemAt, .ref h_t_times, .int t_at, .int t_ownLength, .int t_depth, .int t_deepest, .int t_letters, .int t_repeats, .int t_corrections, .int t_mostCorrections, .int t_place, .int t_reason])), (h_t_begun, .inl (cI, 30, .inl o4)), (h_t_s, .inl (cI, 30, .inl (wr (wr t_s ((6 : Int32) + (rd t_s (0 : Int32))) x1) (0 : Int32) ((rd (wr t_s ((6 : Int32) + (rd t_s (0 : Int32))) x1) (0 : Int32)) + (1 : Int32)))))] := hD
      refine lv_aload_n hx hb dX11_append_55 rfl (lv_at hl 0 rfl) ?_
      refine lv_aload_n hx hb dX11_append_56 rfl (lv_at hl 0 rfl) ?_
      refine va_get (D := (dC, dI)) (ci := 10) (v := .ref h_t_s) (C := RX11) (T := TX11) (N := 29) hx hb hts iMD_append_X11_append_1 hown hK hP 1 rfl rfl 0 (by decide) (hts _ kMD_append_X11_append_0) (fun _ h9 => h9) rfl dX11_append_57 ?_
      refine lv_iconst (v := (0 : Int32)) hx hb dX11_append_60 (by decide) ?_
      refine va_iald hx hb hK hP 3 0 rfl rfl (vin (by decide)) dX11_append_61 ?_
      obtain ⟨o6, ho6, hres⟩ := bd_of hres
      have hPc := hP.sub (ws' := [(h_t, .inr (10, [.ref h_t_s, .ref h_t_was, .ref h_t_begun, .int t_states, .ref h_t_text, .int t_typed, .ref h_t_wrong, .ref h_t_cost, .ref h_t_first, .ref h_t_block, .ref h_t_many, .ref h_t_stack, .int t_height, .ref h_t_written, .int t_length, .ref h_t_own, .ref h_t_levelAt, .ref h_t_itemAt, .ref h_t_times, .int t_at, .int t_ownLength, .int t_depth, .int t_deepest, .int t_letters, .int t_repeats, .int t_corrections, .int t_mostCorrections, .int t_place, .int t_reason])), (h_t_begun, .inl (cI, 30, .inl o4)), (h_t_was, .inl (cI, 120, .inl t_was))]) [1, 2, 0] rfl
      have hDc := hD.sub (ws' := [(h_t, .inr (10, [.ref h_t_s, .ref h_t_was, .ref h_t_begun, .int t_states, .ref h_t_text, .int t_typed, .ref h_t_wrong, .ref h_t_cost, .ref h_t_first, .ref h_t_block, .ref h_t_many, .ref h_t_stack, .int t_height, .ref h_t_written, .int t_length, .ref h_t_own, .ref h_t_levelAt, .ref h_t_itemAt, .ref h_t_times, .int t_at, .int t_ownLength, .int t_depth, .int t_deepest, .int t_letters, .int t_repeats, .int t_corrections, .int t_mostCorrections, .int t_place, .int t_reason])), (h_t_begun, .inl (cI, 30, .inl o4)), (h_t_was, .inl (cI, 120, .inl t_was))]) [1, 2, 0] (by decide) rfl
      have hFc := va_free (wc := [(h_t, .inr (10, [.ref h_t_s, .ref h_t_was, .ref h_t_begun, .int t_states, .ref h_t_text, .int t_typed, .ref h_t_wrong, .ref h_t_cost, .ref h_t_first, .ref h_t_block, .ref h_t_many, .ref h_t_stack, .int t_height, .ref h_t_written, .int t_length, .ref h_t_own, .ref h_t_levelAt, .ref h_t_itemAt, .ref h_t_times, .int t_at, .int t_ownLength, .int t_depth, .int t_deepest, .int t_letters, .int t_repeats, .int t_corrections, .int t_mostCorrections, .int t_place, .int t_reason])), (h_t_begun, .inl (cI, 30, .inl o4)), (h_t_was, .inl (cI, 120, .inl t_was))]) hD hS hA [1, 2, 0] rfl
      refine va_calli (va_runV (As := [.int (rd (wr (wr t_s ((6 : Int32) + (rd t_s (0 : Int32))) x1) (0 : Int32) ((rd (wr t_s ((6 : Int32) + (rd t_s (0 : Int32))) x1) (0 : Int32)) + (1 : Int32))) (0 : Int32))]) (rest := []) ⟨hx, hb, hml, hown, hts⟩ (cMD_acted l dC dI cI cJ cC cS h_t h_t_s h_t_was h_t_begun h_t_text h_t_wrong h_t_cost h_t_first h_t_block h_t_many h_t_stack h_t_written h_t_own h_t_levelAt h_t_itemAt h_t_times H.size t_states t_typed t_height t_length t_at t_ownLength t_depth t_deepest t_letters t_repeats t_corrections t_mostCorrections t_place t_reason o4 t_was (rd (wr (wr t_s ((6 : Int32) + (rd t_s (0 : Int32))) x1) (0 : Int32) ((rd (wr t_s ((6 : Int32) + (rd t_s (0 : Int32))) x1) (0 : Int32)) + (1 : Int32))) (0 : Int32)) o6.1 o6.2.1 o6.2.2 ho6) (cwV 1 hts gX11_append_X11_acted rfl rfl rfl (by decide +kernel) ⟨Nat.le_of_ble_eq_true rfl, Nat.le_of_ble_eq_true rfl⟩) ⟨fun a U g mk q => by obtain ⟨q0, q1, qP, qK, qN, qD⟩ := q; exact ⟨q0, q1, qP, va_K.moved (u := U) (U := U.calling g mk a) (Vm.Alike.refl U.vm) qK, nwS (u := U) (U := U.calling g mk a) rfl qN, qD⟩, va_recv hK hPc (ci := 10) (q0 := 0) rfl rfl, fun U hU hW => ⟨rfl, by rw [hU], by rw [hU]; exact hPc, va_K.moved hW.alike hK, nwW hW hN, hDc.weaken (fun _ _ _ _ => trivial)⟩⟩ rfl rfl hl.1 rfl (lv_room (Nat.le_of_ble_eq_true rfl)) dX11_append_62 ⟨Nat.zero_le _, Nat.zero_le _⟩) hS (fun q _ h => hFc q h) hFc (fun r9 u9 t H1 locs ht hvm hw hB hz1 hk1 hS => ?_)
      have hw := hw.symm
      subst hw
      obtain ⟨hP1, hK1, hD1⟩ := hB
      rw [ht] at hP1
      obtain ⟨hP, hD⟩ := va_join (wr := [(h_t_s, .inl (cI, 30, .inl (wr (wr t_s ((6 : Int32) + (rd t_s (0 : Int32))) x1) (0 : Int32) ((rd (wr t_s ((6 : Int32) + (rd t_s (0 : Int32))) x1) (0 : Int32)) + (1 : Int32)))))]) (w1 := [(h_t, .inr (10, [.ref h_t_s, .ref h_t_was, .ref h_t_begun, .int o6.2.1, .ref h_t_text, .int t_typed, .ref h_t_wrong, .ref h_t_cost, .ref h_t_first, .ref h_t_block, .ref h_t_many, .ref h_t_stack, .int t_height, .ref h_t_written, .int t_length, .ref h_t_own, .ref h_t_levelAt, .ref h_t_itemAt, .ref h_t_times, .int t_at, .int t_ownLength, .int t_depth, .int t_deepest, .int t_letters, .int t_repeats, .int t_corrections, .int t_mostCorrections, .int t_place, .int t_reason])), (h_t_begun, .inl (cI, 30, .inl o4)), (h_t_was, .inl (cI, 120, .inl o6.2.2))]) hP hD [1, 2, 0] [3] rfl rfl (by decide) (by decide) hk1 hFc hP1 hD1
      generalize H1 = H at hP hS ⊢
      have hP : va_P (dC, dI) vwCl [(h_t_s, .inl (cI, 30, .inl (wr (wr t_s ((6 : Int32) + (rd t_s (0 : Int32))) x1) (0 : Int32) ((rd (wr t_s ((6 : Int32) + (rd t_s (0 : Int32))) x1) (0 : Int32)) + (1 : Int32))))), (h_t, .inr (10, [.ref h_t_s, .ref h_t_was, .ref h_t_begun, .int o6.2.1, .ref h_t_text, .int t_typed, .ref h_t_wrong, .ref h_t_cost, .ref h_t_first, .ref h_t_block, .ref h_t_many, .ref h_t_stack, .int t_height, .ref h_t_written, .int t_length, .ref h_t_own, .ref h_t_levelAt, .ref h_t_itemAt, .ref h_t_times, .int t_at, .int t_ownLength, .int t_depth, .int t_deepest, .int t_letters, .int t_repeats, .int t_corrections, .int t_mostCorrections, .int t_place, .int t_reason])), (h_t_begun, .inl (cI, 30, .inl o4)), (h_t_was, .inl (cI, 120, .inl o6.2.2))] H := hP
      have hD : va_D A [(h_t_s, .inl (cI, 30, .inl (wr (wr t_s ((6 : Int32) + (rd t_s (0 : Int32))) x1) (0 : Int32) ((rd (wr t_s ((6 : Int32) + (rd t_s (0 : Int32))) x1) (0 : Int32)) + (1 : Int32))))), (h_t, .inr (10, [.ref h_t_s, .ref h_t_was, .ref h_t_begun, .int o6.2.1, .ref h_t_text, .int t_typed, .ref h_t_wrong, .ref h_t_cost, .ref h_t_first, .ref h_t_block, .ref h_t_many, .ref h_t_stack, .int t_height, .ref h_t_written, .int t_length, .ref h_t_own, .ref h_t_levelAt, .ref h_t_itemAt, .ref h_t_times, .int t_at, .int t_ownLength, .int t_depth, .int t_deepest, .int t_letters, .int t_repeats, .int t_corrections, .int t_mostCorrections, .int t_place, .int t_reason])), (h_t_begun, .inl (cI, 30, .inl o4)), (h_t_was, .inl (cI, 120, .inl o6.2.2))] := hD
      obtain ⟨e9_0, e9_1, e9_2, e9_3, e9_4⟩ := tup5 hres
      subst e9_0
      subst e9_1
      subst e9_2
      subst e9_3
      subst e9_4
      rw [← hQQ]
      exact W.iret (v := o6.1) hx hb hr (fun t ht hW => ⟨⟨o6.1, (), rfl, rfl, by rw [ht]; exact hP.sub [1, 2, 0, 3] rfl, va_K.moved hW.alike hK, hD.sub [1, 2, 0, 3] (by decide) rfl⟩, hS.F ht⟩) hS.2.2 dX11_append_65
    · have hres := it_of hres c_3
      refine lv_ldc (v := (-1000003 : Int32)) hx hb hown (hts _ kMD_append_X11_append_2) dX11_append_23 ?_
      obtain ⟨e9_0, e9_1, e9_2, e9_3, e9_4⟩ := tup5 hres
      subst e9_0
      subst e9_1
      subst e9_2
      subst e9_3
      subst e9_4
      rw [← hQQ]
      exact W.iret (v := (-1000003 : Int32)) hx hb hr (fun t ht hW => ⟨⟨(-1000003 : Int32), (), rfl, rfl, by rw [ht]; exact hP, va_K.moved hW.alike hK, hD⟩, hS.F ht⟩) hS.2.2 dX11_append_25
  · have hres := it_of hres c_2
    refine lv_ldc (v := (-1000001 : Int32)) hx hb hown (hts _ kMD_append_X11_append_3) dX11_append_9 ?_
    obtain ⟨e9_0, e9_1, e9_2, e9_3, e9_4⟩ := tup5 hres
    subst e9_0
    subst e9_1
    subst e9_2
    subst e9_3
    subst e9_4
    rw [← hQQ]
    exact W.iret (v := (-1000001 : Int32)) hx hb hr (fun t ht hW => ⟨⟨(-1000001 : Int32), (), rfl, rfl, by rw [ht]; exact hP, va_K.moved hW.alike hK, hD⟩, hS.F ht⟩) hS.2.2 dX11_append_11

-- MD_corrects
def fMD_corrects_81 (k2 : Int32 → (Nat → Int32) → Option ((Nat → Int32))) (k14 : Int32 → Int32 → (Nat → Int32) → Option ((Nat → Int32))) (k33 : Int32 → Int32 → Int32 → Int32 → (Nat → Int32) → Option ((Nat → Int32))) (x1 : Int32) (x2 : Int32) (x4 : Int32) (s0 : Int32) (s1 : Int32) (t_wrong : Nat → Int32) : Option ((Nat → Int32)) :=
    if x2 = 0 then none else
      if ((x4 + (1 : Int32)) - (x4 + (1 : Int32)) / x2 * x2) = 0 then
        if x2 = 0 then none else
          if bIn ((((625 : Int32) * x1) + ((25 : Int32) * x2)) + ((x4 + (1 : Int32)) / x2)) 15625 = true then
            k33 x1 x2 (s0 + s1) (x4 + 1) (wr t_wrong ((((625 : Int32) * x1) + ((25 : Int32) * x2)) + ((x4 + (1 : Int32)) / x2)) (s0 + s1))
          else none
      else
        k33 x1 x2 (s0 + s1) (x4 + 1) t_wrong
def fMD_corrects_33 (t_s : Nat → Int32) (k2 : Int32 → (Nat → Int32) → Option ((Nat → Int32))) (k14 : Int32 → Int32 → (Nat → Int32) → Option ((Nat → Int32))) : Nat → Int32 → Int32 → Int32 → Int32 → (Nat → Int32) → Option ((Nat → Int32))
  | 0, _, _, _, _, _ => none
  | n + 1, x1, x2, x3, x4, t_wrong =>
    if (rd t_s (0 : Int32)) ≤ (x1 + x4) then
      k14 x1 (x2 + 1) t_wrong
    else
      if bIn (((6 : Int32) + x1) + x4) 30 = true then
        if x2 = 0 then none else
          if bIn (((6 : Int32) + x1) + (x4 - x4 / x2 * x2)) 30 = true then
            if (rd t_s (((6 : Int32) + x1) + x4)) = (rd t_s (((6 : Int32) + x1) + (x4 - x4 / x2 * x2))) then
              fMD_corrects_81 k2 k14 (fMD_corrects_33 t_s k2 k14 n) x1 x2 x4 x3 (0 : Int32) t_wrong
            else
              fMD_corrects_81 k2 k14 (fMD_corrects_33 t_s k2 k14 n) x1 x2 x4 x3 (1 : Int32) t_wrong
          else none
      else none
def fMD_corrects_14 (t_s : Nat → Int32) (k2 : Int32 → (Nat → Int32) → Option ((Nat → Int32))) : Nat → Int32 → Int32 → (Nat → Int32) → Option ((Nat → Int32))
  | 0, _, _, _ => none
  | n + 1, x1, x2, t_wrong =>
    if (rd t_s (0 : Int32)) < (x1 + ((2 : Int32) * x2)) then
      k2 (x1 + 1) t_wrong
    else
      fMD_corrects_33 t_s k2 (fMD_corrects_14 t_s k2 n) FU x1 x2 (0 : Int32) x2 t_wrong
def fMD_corrects_2 (t_s : Nat → Int32) : Nat → Int32 → (Nat → Int32) → Option ((Nat → Int32))
  | 0, _, _ => none
  | n + 1, x1, t_wrong =>
    if (rd t_s (0 : Int32)) ≤ x1 then
      some t_wrong
    else
      fMD_corrects_14 t_s (fMD_corrects_2 t_s n) FU x1 (1 : Int32) t_wrong
def fMD_corrects (t_s : Nat → Int32) (t_wrong : Nat → Int32) : Option ((Nat → Int32)) :=
  fMD_corrects_2 t_s FU (0 : Int32) t_wrong
theorem kMD_corrects_X11_corrects_0 : Cond.fieldLink RX11 23 "RepeatNestsModel" "wrong" "[I" ∈ wsX11_corrects := by decide +kernel
theorem iMD_corrects_X11_corrects_1 : ∀ w ∈ wsX110, w ∈ wsX11_corrects := by decide +kernel
theorem kMD_corrects_X11_corrects_2 : Cond.fieldLink RX11 7 "RepeatNestsModel" "s" "[I" ∈ wsX11_corrects := by decide +kernel
set_option maxHeartbeats 4000000 in
set_option maxRecDepth 100000 in
theorem cMD_corrects (l : Launch) (dC : Nat → ClassId) (dI : Nat → Nat → Nat) (cI cJ cC cS : ClassId) (h_t h_t_s h_t_was h_t_begun h_t_text h_t_wrong h_t_cost h_t_first h_t_block h_t_many h_t_stack h_t_written h_t_own h_t_levelAt h_t_itemAt h_t_times : Nat) (sz : Nat) (t_states : Int32) (t_typed : Int32) (t_height : Int32) (t_length : Int32) (t_at : Int32) (t_ownLength : Int32) (t_depth : Int32) (t_deepest : Int32) (t_letters : Int32) (t_repeats : Int32) (t_corrections : Int32) (t_mostCorrections : Int32) (t_place : Int32) (t_reason : Int32) (t_s : Nat → Int32) (t_wrong : Nat → Int32) (y_t_wrong : Nat → Int32) (hres : fMD_corrects t_s t_wrong = some y_t_wrong) :
    Met l yX11_corrects wsX11_corrects ({ frames := 0, cells := 0, slots := 0, locals := 0 } : Room) (va_Pc [.ref h_t] (fun (U : State) => U.heap.size = sz ∧ va_P (dC, dI) vwCl [(h_t, .inr (10, [.ref h_t_s, .ref h_t_was, .ref h_t_begun, .int t_states, .ref h_t_text, .int t_typed, .ref h_t_wrong, .ref h_t_cost, .ref h_t_first, .ref h_t_block, .ref h_t_many, .ref h_t_stack, .int t_height, .ref h_t_written, .int t_length, .ref h_t_own, .ref h_t_levelAt, .ref h_t_itemAt, .ref h_t_times, .int t_at, .int t_ownLength, .int t_depth, .int t_deepest, .int t_letters, .int t_repeats, .int t_corrections, .int t_mostCorrections, .int t_place, .int t_reason])), (h_t_s, .inl (cI, 30, .inl t_s)), (h_t_wrong, .inl (cI, 15625, .inl t_wrong))] U.heap ∧ va_K (dC, dI) vwCl (tyA cI cJ cC cS) U ∧ nwN U ∧ va_D (fun _ => True) [(h_t, .inr (10, [.ref h_t_s, .ref h_t_was, .ref h_t_begun, .int t_states, .ref h_t_text, .int t_typed, .ref h_t_wrong, .ref h_t_cost, .ref h_t_first, .ref h_t_block, .ref h_t_many, .ref h_t_stack, .int t_height, .ref h_t_written, .int t_length, .ref h_t_own, .ref h_t_levelAt, .ref h_t_itemAt, .ref h_t_times, .int t_at, .int t_ownLength, .int t_depth, .int t_deepest, .int t_letters, .int t_repeats, .int t_corrections, .int t_mostCorrections, .int t_place, .int t_reason])), (h_t_s, .inl (cI, 30, .inl t_s)), (h_t_wrong, .inl (cI, 15625, .inl t_wrong))])) (va_Qv (fun (_ : Unit) => True) (fun (_ : Unit) (t : State) => va_P (dC, dI) vwCl [(h_t, .inr (10, [.ref h_t_s, .ref h_t_was, .ref h_t_begun, .int t_states, .ref h_t_text, .int t_typed, .ref h_t_wrong, .ref h_t_cost, .ref h_t_first, .ref h_t_block, .ref h_t_many, .ref h_t_stack, .int t_height, .ref h_t_written, .int t_length, .ref h_t_own, .ref h_t_levelAt, .ref h_t_itemAt, .ref h_t_times, .int t_at, .int t_ownLength, .int t_depth, .int t_deepest, .int t_letters, .int t_repeats, .int t_corrections, .int t_mostCorrections, .int t_place, .int t_reason])), (h_t_s, .inl (cI, 30, .inl t_s)), (h_t_wrong, .inl (cI, 15625, .inl y_t_wrong))] t.heap ∧ va_K (dC, dI) vwCl (tyA cI cJ cC cS) t ∧ va_D (va_A [(h_t, .inr (10, [.ref h_t_s, .ref h_t_was, .ref h_t_begun, .int t_states, .ref h_t_text, .int t_typed, .ref h_t_wrong, .ref h_t_cost, .ref h_t_first, .ref h_t_block, .ref h_t_many, .ref h_t_stack, .int t_height, .ref h_t_written, .int t_length, .ref h_t_own, .ref h_t_levelAt, .ref h_t_itemAt, .ref h_t_times, .int t_at, .int t_ownLength, .int t_depth, .int t_deepest, .int t_letters, .int t_repeats, .int t_corrections, .int t_mostCorrections, .int t_place, .int t_reason])), (h_t_s, .inl (cI, 30, .inl t_s)), (h_t_wrong, .inl (cI, 15625, .inl t_wrong))] sz) [(h_t, .inr (10, [.ref h_t_s, .ref h_t_was, .ref h_t_begun, .int t_states, .ref h_t_text, .int t_typed, .ref h_t_wrong, .ref h_t_cost, .ref h_t_first, .ref h_t_block, .ref h_t_many, .ref h_t_stack, .int t_height, .ref h_t_written, .int t_length, .ref h_t_own, .ref h_t_levelAt, .ref h_t_itemAt, .ref h_t_times, .int t_at, .int t_ownLength, .int t_depth, .int t_deepest, .int t_letters, .int t_repeats, .int t_corrections, .int t_mostCorrections, .int t_place, .int t_reason])), (h_t_s, .inl (cI, 30, .inl t_s)), (h_t_wrong, .inl (cI, 15625, .inl y_t_wrong))]) (va_A [(h_t, .inr (10, [.ref h_t_s, .ref h_t_was, .ref h_t_begun, .int t_states, .ref h_t_text, .int t_typed, .ref h_t_wrong, .ref h_t_cost, .ref h_t_first, .ref h_t_block, .ref h_t_many, .ref h_t_stack, .int t_height, .ref h_t_written, .int t_length, .ref h_t_own, .ref h_t_levelAt, .ref h_t_itemAt, .ref h_t_times, .int t_at, .int t_ownLength, .int t_depth, .int t_deepest, .int t_letters, .int t_repeats, .int t_corrections, .int t_mostCorrections, .int t_place, .int t_reason])), (h_t_s, .inl (cI, 30, .inl t_s)), (h_t_wrong, .inl (cI, 15625, .inl t_wrong))] sz)) 0 0 (va_A [(h_t, .inr (10, [.ref h_t_s, .ref h_t_was, .ref h_t_begun, .int t_states, .ref h_t_text, .int t_typed, .ref h_t_wrong, .ref h_t_cost, .ref h_t_first, .ref h_t_block, .ref h_t_many, .ref h_t_stack, .int t_height, .ref h_t_written, .int t_length, .ref h_t_own, .ref h_t_levelAt, .ref h_t_itemAt, .ref h_t_times, .int t_at, .int t_ownLength, .int t_depth, .int t_deepest, .int t_letters, .int t_repeats, .int t_corrections, .int t_mostCorrections, .int t_place, .int t_reason])), (h_t_s, .inl (cI, 30, .inl t_s)), (h_t_wrong, .inl (cI, 15625, .inl t_wrong))] sz) := by
  refine Met.ofW (cc := cX11_corrects) (maxL := 5) (ret := none) (by decide) rfl ?_
  intro p e s m args below meth c s₁ B hml hv
  obtain ⟨hargs, hsz, hP, hK, hN, hD0⟩ := hv
  have hx := B.exec
  have hb := B.bytes
  have hr := B.returns
  have hts := atoms_spec (ws := wsX11_corrects) B.pre
  have hown : s.vm.findClass RX11 = some m.cls := findClass_of_methodNamed B.named
  have hlocks := B.notSynchronized
  subst hsz
  have hD := hD0.self (sz := s.heap.size)
  generalize hAe : va_A [(h_t, .inr (10, [.ref h_t_s, .ref h_t_was, .ref h_t_begun, .int t_states, .ref h_t_text, .int t_typed, .ref h_t_wrong, .ref h_t_cost, .ref h_t_first, .ref h_t_block, .ref h_t_many, .ref h_t_stack, .int t_height, .ref h_t_written, .int t_length, .ref h_t_own, .ref h_t_levelAt, .ref h_t_itemAt, .ref h_t_times, .int t_at, .int t_ownLength, .int t_depth, .int t_deepest, .int t_letters, .int t_repeats, .int t_corrections, .int t_mostCorrections, .int t_place, .int t_reason])), (h_t_s, .inl (cI, 30, .inl t_s)), (h_t_wrong, .inl (cI, 15625, .inl t_wrong))] s.heap.size = A at hD ⊢
  have hA : ∀ q : Nat, s.heap.size ≤ q → A q := fun q h => by rw [← hAe]; exact Or.inr h
  have hS : va_S A s.heap s.heap [] := va_S.rf
  have hP : va_P (dC, dI) vwCl [(h_t, .inr (10, [.ref h_t_s, .ref h_t_was, .ref h_t_begun, .int t_states, .ref h_t_text, .int t_typed, .ref h_t_wrong, .ref h_t_cost, .ref h_t_first, .ref h_t_block, .ref h_t_many, .ref h_t_stack, .int t_height, .ref h_t_written, .int t_length, .ref h_t_own, .ref h_t_levelAt, .ref h_t_itemAt, .ref h_t_times, .int t_at, .int t_ownLength, .int t_depth, .int t_deepest, .int t_letters, .int t_repeats, .int t_corrections, .int t_mostCorrections, .int t_place, .int t_reason])), (h_t_s, .inl (cI, 30, .inl t_s)), (h_t_wrong, .inl (cI, 15625, .inl t_wrong))] s.heap := hP
  have hl := lv_entry [.ref h_t] (n := 5) (Nat.le_of_ble_eq_true rfl)
  rw [show entryFrame m args 5 = entryFrame m ([.ref h_t] : List Value).toArray 5 from by rw [hargs], lg_entry_eq]
  generalize (lg_sl [.ref h_t] ++ List.replicate (5 - (lg_sl [.ref h_t]).length) Slot.unset).toArray = ls at hl ⊢
  have hl : lv_has ls 5 [(0, .ref h_t)] := hl
  generalize hQQ : MQ below (va_Qv (fun (_ : Unit) => True) (fun (_ : Unit) (t : State) => va_P (dC, dI) vwCl [(h_t, .inr (10, [.ref h_t_s, .ref h_t_was, .ref h_t_begun, .int t_states, .ref h_t_text, .int t_typed, .ref h_t_wrong, .ref h_t_cost, .ref h_t_first, .ref h_t_block, .ref h_t_many, .ref h_t_stack, .int t_height, .ref h_t_written, .int t_length, .ref h_t_own, .ref h_t_levelAt, .ref h_t_itemAt, .ref h_t_times, .int t_at, .int t_ownLength, .int t_depth, .int t_deepest, .int t_letters, .int t_repeats, .int t_corrections, .int t_mostCorrections, .int t_place, .int t_reason])), (h_t_s, .inl (cI, 30, .inl t_s)), (h_t_wrong, .inl (cI, 15625, .inl y_t_wrong))] t.heap ∧ va_K (dC, dI) vwCl (tyA cI cJ cC cS) t ∧ va_D A [(h_t, .inr (10, [.ref h_t_s, .ref h_t_was, .ref h_t_begun, .int t_states, .ref h_t_text, .int t_typed, .ref h_t_wrong, .ref h_t_cost, .ref h_t_first, .ref h_t_block, .ref h_t_many, .ref h_t_stack, .int t_height, .ref h_t_written, .int t_length, .ref h_t_own, .ref h_t_levelAt, .ref h_t_itemAt, .ref h_t_times, .int t_at, .int t_ownLength, .int t_depth, .int t_deepest, .int t_letters, .int t_repeats, .int t_corrections, .int t_mostCorrections, .int t_place, .int t_reason])), (h_t_s, .inl (cI, 30, .inl t_s)), (h_t_wrong, .inl (cI, 15625, .inl y_t_wrong))]) A) args s 0 0 A = QQ
  obtain ⟨H, hH⟩ : ∃ H : Heap, H = s.heap := ⟨_, rfl⟩
  obtain ⟨locs, hlocs⟩ : ∃ locs : List Loc, locs = [] := ⟨_, rfl⟩
  rw [← hH] at hP
  have hS : va_S A s.heap H locs := by rw [hH, hlocs]; exact hS
  suffices hZ : W p l e (headSpec wsX11_corrects ({ frames := 0, cells := 0, slots := 0, locals := 0 } : Room)).room s m args below meth c H locs 0 0 QQ (F0 m 0 ls []) by rw [hH, hlocs] at hZ; exact hZ
  clear hH hlocs
  have hL2 : ∀ (n2 : Nat) , ∀ (x1 : Int32) (t_wrong : Nat → Int32) (H : Heap) (locs : List Loc) (ls : Array Slot), fMD_corrects_2 t_s n2 x1 t_wrong = some y_t_wrong → va_P (dC, dI) vwCl [(h_t, .inr (10, [.ref h_t_s, .ref h_t_was, .ref h_t_begun, .int t_states, .ref h_t_text, .int t_typed, .ref h_t_wrong, .ref h_t_cost, .ref h_t_first, .ref h_t_block, .ref h_t_many, .ref h_t_stack, .int t_height, .ref h_t_written, .int t_length, .ref h_t_own, .ref h_t_levelAt, .ref h_t_itemAt, .ref h_t_times, .int t_at, .int t_ownLength, .int t_depth, .int t_deepest, .int t_letters, .int t_repeats, .int t_corrections, .int t_mostCorrections, .int t_place, .int t_reason])), (h_t_s, .inl (cI, 30, .inl t_s)), (h_t_wrong, .inl (cI, 15625, .inl t_wrong))] H → va_D A [(h_t, .inr (10, [.ref h_t_s, .ref h_t_was, .ref h_t_begun, .int t_states, .ref h_t_text, .int t_typed, .ref h_t_wrong, .ref h_t_cost, .ref h_t_first, .ref h_t_block, .ref h_t_many, .ref h_t_stack, .int t_height, .ref h_t_written, .int t_length, .ref h_t_own, .ref h_t_levelAt, .ref h_t_itemAt, .ref h_t_times, .int t_at, .int t_ownLength, .int t_depth, .int t_deepest, .int t_letters, .int t_repeats, .int t_corrections, .int t_mostCorrections, .int t_place, .int t_reason])), (h_t_s, .inl (cI, 30, .inl t_s)), (h_t_wrong, .inl (cI, 15625, .inl t_wrong))] → va_S A s.heap H locs → lv_has ls 5 [(0, .ref h_t), (1, .int x1)] → W p l e (headSpec wsX11_corrects ({ frames := 0, cells := 0, slots := 0, locals := 0 } : Room)).room s m args below meth c H locs 0 0 QQ (F0 m 2 ls []) := by
    intro n2
    induction n2 with
    | zero =>
      intro x1 t_wrong H locs ls hres
      rw [fMD_corrects_2] at hres
      cases hres
    | succ n2 ih2 =>
      have hL14 : ∀ (n14 : Nat) , ∀ (x1 : Int32) (x2 : Int32) (t_wrong : Nat → Int32) (H : Heap) (locs : List Loc) (ls : Array Slot), fMD_corrects_14 t_s (fMD_corrects_2 t_s n2) n14 x1 x2 t_wrong = some y_t_wrong → va_P (dC, dI) vwCl [(h_t, .inr (10, [.ref h_t_s, .ref h_t_was, .ref h_t_begun, .int t_states, .ref h_t_text, .int t_typed, .ref h_t_wrong, .ref h_t_cost, .ref h_t_first, .ref h_t_block, .ref h_t_many, .ref h_t_stack, .int t_height, .ref h_t_written, .int t_length, .ref h_t_own, .ref h_t_levelAt, .ref h_t_itemAt, .ref h_t_times, .int t_at, .int t_ownLength, .int t_depth, .int t_deepest, .int t_letters, .int t_repeats, .int t_corrections, .int t_mostCorrections, .int t_place, .int t_reason])), (h_t_s, .inl (cI, 30, .inl t_s)), (h_t_wrong, .inl (cI, 15625, .inl t_wrong))] H → va_D A [(h_t, .inr (10, [.ref h_t_s, .ref h_t_was, .ref h_t_begun, .int t_states, .ref h_t_text, .int t_typed, .ref h_t_wrong, .ref h_t_cost, .ref h_t_first, .ref h_t_block, .ref h_t_many, .ref h_t_stack, .int t_height, .ref h_t_written, .int t_length, .ref h_t_own, .ref h_t_levelAt, .ref h_t_itemAt, .ref h_t_times, .int t_at, .int t_ownLength, .int t_depth, .int t_deepest, .int t_letters, .int t_repeats, .int t_corrections, .int t_mostCorrections, .int t_place, .int t_reason])), (h_t_s, .inl (cI, 30, .inl t_s)), (h_t_wrong, .inl (cI, 15625, .inl t_wrong))] → va_S A s.heap H locs → lv_has ls 5 [(0, .ref h_t), (1, .int x1), (2, .int x2)] → W p l e (headSpec wsX11_corrects ({ frames := 0, cells := 0, slots := 0, locals := 0 } : Room)).room s m args below meth c H locs 0 0 QQ (F0 m 14 ls []) := by
        intro n14
        induction n14 with
        | zero =>
          intro x1 x2 t_wrong H locs ls hres
          rw [fMD_corrects_14] at hres
          cases hres
        | succ n14 ih14 =>
          have hL33 : ∀ (n33 : Nat) , ∀ (x1 : Int32) (x2 : Int32) (x3 : Int32) (x4 : Int32) (t_wrong : Nat → Int32) (H : Heap) (locs : List Loc) (ls : Array Slot), fMD_corrects_33 t_s (fMD_corrects_2 t_s n2) (fMD_corrects_14 t_s (fMD_corrects_2 t_s n2) n14) n33 x1 x2 x3 x4 t_wrong = some y_t_wrong → va_P (dC, dI) vwCl [(h_t, .inr (10, [.ref h_t_s, .ref h_t_was, .ref h_t_begun, .int t_states, .ref h_t_text, .int t_typed, .ref h_t_wrong, .ref h_t_cost, .ref h_t_first, .ref h_t_block, .ref h_t_many, .ref h_t_stack, .int t_height, .ref h_t_written, .int t_length, .ref h_t_own, .ref h_t_levelAt, .ref h_t_itemAt, .ref h_t_times, .int t_at, .int t_ownLength, .int t_depth, .int t_deepest, .int t_letters, .int t_repeats, .int t_corrections, .int t_mostCorrections, .int t_place, .int t_reason])), (h_t_s, .inl (cI, 30, .inl t_s)), (h_t_wrong, .inl (cI, 15625, .inl t_wrong))] H → va_D A [(h_t, .inr (10, [.ref h_t_s, .ref h_t_was, .ref h_t_begun, .int t_states, .ref h_t_text, .int t_typed, .ref h_t_wrong, .ref h_t_cost, .ref h_t_first, .ref h_t_block, .ref h_t_many, .ref h_t_stack, .int t_height, .ref h_t_written, .int t_length, .ref h_t_own, .ref h_t_levelAt, .ref h_t_itemAt, .ref h_t_times, .int t_at, .int t_ownLength, .int t_depth, .int t_deepest, .int t_letters, .int t_repeats, .int t_corrections, .int t_mostCorrections, .int t_place, .int t_reason])), (h_t_s, .inl (cI, 30, .inl t_s)), (h_t_wrong, .inl (cI, 15625, .inl t_wrong))] → va_S A s.heap H locs → lv_has ls 5 [(0, .ref h_t), (1, .int x1), (2, .int x2), (3, .int x3), (4, .int x4)] → W p l e (headSpec wsX11_corrects ({ frames := 0, cells := 0, slots := 0, locals := 0 } : Room)).room s m args below meth c H locs 0 0 QQ (F0 m 33 ls []) := by
            intro n33
            induction n33 with
            | zero =>
              intro x1 x2 x3 x4 t_wrong H locs ls hres
              rw [fMD_corrects_33] at hres
              cases hres
            | succ n33 ih33 =>
              have hK81 : ∀ (x1 : Int32) (x2 : Int32) (x4 : Int32) (s0 : Int32) (s1 : Int32) (t_wrong : Nat → Int32) (H : Heap) (locs : List Loc) (ls : Array Slot), fMD_corrects_81 (fMD_corrects_2 t_s n2) (fMD_corrects_14 t_s (fMD_corrects_2 t_s n2) n14) (fMD_corrects_33 t_s (fMD_corrects_2 t_s n2) (fMD_corrects_14 t_s (fMD_corrects_2 t_s n2) n14) n33) x1 x2 x4 s0 s1 t_wrong = some y_t_wrong → va_P (dC, dI) vwCl [(h_t, .inr (10, [.ref h_t_s, .ref h_t_was, .ref h_t_begun, .int t_states, .ref h_t_text, .int t_typed, .ref h_t_wrong, .ref h_t_cost, .ref h_t_first, .ref h_t_block, .ref h_t_many, .ref h_t_stack, .int t_height, .ref h_t_written, .int t_length, .ref h_t_own, .ref h_t_levelAt, .ref h_t_itemAt, .ref h_t_times, .int t_at, .int t_ownLength, .int t_depth, .int t_deepest, .int t_letters, .int t_repeats, .int t_corrections, .int t_mostCorrections, .int t_place, .int t_reason])), (h_t_s, .inl (cI, 30, .inl t_s)), (h_t_wrong, .inl (cI, 15625, .inl t_wrong))] H → va_D A [(h_t, .inr (10, [.ref h_t_s, .ref h_t_was, .ref h_t_begun, .int t_states, .ref h_t_text, .int t_typed, .ref h_t_wrong, .ref h_t_cost, .ref h_t_first, .ref h_t_block, .ref h_t_many, .ref h_t_stack, .int t_height, .ref h_t_written, .int t_length, .ref h_t_own, .ref h_t_levelAt, .ref h_t_itemAt, .ref h_t_times, .int t_at, .int t_ownLength, .int t_depth, .int t_deepest, .int t_letters, .int t_repeats, .int t_corrections, .int t_mostCorrections, .int t_place, .int t_reason])), (h_t_s, .inl (cI, 30, .inl t_s)), (h_t_wrong, .inl (cI, 15625, .inl t_wrong))] → va_S A s.heap H locs → lv_has ls 5 [(0, .ref h_t), (1, .int x1), (2, .int x2), (4, .int x4)] → W p l e (headSpec wsX11_corrects ({ frames := 0, cells := 0, slots := 0, locals := 0 } : Room)).room s m args below meth c H locs 0 0 QQ (F0 m 81 ls [.int s1, .int s0]) := by
                intro x1 x2 x4 s0 s1 t_wrong H locs ls hres hP hD hS hl
                rw [fMD_corrects_81] at hres
                refine lv_iadd hx hb dX11_corrects_81 ?_
                refine lv_istore_n (lv' := [(3, .int (s0 + s1)), (0, .ref h_t), (1, .int x1), (2, .int x2), (4, .int x4)]) hx hb dX11_corrects_82 rfl hl (by decide) rfl (fun ls hl => ?_)
                refine lv_iload hx hb dX11_corrects_83 (lv_at hl 4 rfl) ?_
                refine lv_iconst (v := (1 : Int32)) hx hb dX11_corrects_85 (by decide) ?_
                refine lv_iadd hx hb dX11_corrects_86 ?_
                refine lv_iload_n hx hb dX11_corrects_87 rfl (lv_at hl 3 rfl) ?_
                obtain ⟨c_1, hres⟩ := nz_of hres
                refine lv_irem hx hb dX11_corrects_88 c_1 ?_
                refine lv_if_ne (tgt := 115) hx hb dX11_corrects_89 (by decide) (fun c_2 => ?_) (fun c_2 => ?_)
                · have hres := ie_of hres c_2
                  refine lv_iinc (v := (x4 + 1)) (lv' := [(4, .int (x4 + 1)), (3, .int (s0 + s1)), (0, .ref h_t), (1, .int x1), (2, .int x2)]) hx hb dX11_corrects_115 hl (k := 4) rfl rfl (by decide) rfl (fun ls hl => ?_)
                  refine lv_goto (tgt := 33) hx hb dX11_corrects_118 (by decide) ?_
                  exact ih33 x1 x2 (s0 + s1) (x4 + 1) t_wrong H locs ls hres hP hD hS (lv_sub hl [2, 3, 4, 1, 0] rfl)
                · have hres := it_of hres c_2
                  refine lv_aload_n hx hb dX11_corrects_92 rfl (lv_at hl 1 rfl) ?_
                  refine va_get (D := (dC, dI)) (ci := 10) (v := .ref h_t_wrong) (C := RX11) (T := TX11) (N := 29) hx hb hts iMD_corrects_X11_corrects_1 hown hK hP 0 rfl rfl 6 (by decide) (hts _ kMD_corrects_X11_corrects_0) (fun _ h9 => h9) rfl dX11_corrects_93 ?_
                  refine lv_sipush (v := (625 : Int32)) hx hb dX11_corrects_96 (by decide) ?_
                  refine lv_iload_n hx hb dX11_corrects_99 rfl (lv_at hl 2 rfl) ?_
                  refine lv_imul hx hb dX11_corrects_100 ?_
                  refine lv_bipush (v := (25 : Int32)) hx hb dX11_corrects_101 (by decide) ?_
                  refine lv_iload_n hx hb dX11_corrects_103 rfl (lv_at hl 3 rfl) ?_
                  refine lv_imul hx hb dX11_corrects_104 ?_
                  refine lv_iadd hx hb dX11_corrects_105 ?_
                  refine lv_iload hx hb dX11_corrects_106 (lv_at hl 4 rfl) ?_
                  refine lv_iconst (v := (1 : Int32)) hx hb dX11_corrects_108 (by decide) ?_
                  refine lv_iadd hx hb dX11_corrects_109 ?_
                  refine lv_iload_n hx hb dX11_corrects_110 rfl (lv_at hl 3 rfl) ?_
                  obtain ⟨c_3, hres⟩ := nz_of hres
                  refine lv_idiv hx hb dX11_corrects_111 c_3 ?_
                  refine lv_iadd hx hb dX11_corrects_112 ?_
                  refine lv_iload_n hx hb dX11_corrects_113 rfl (lv_at hl 0 rfl) ?_
                  obtain ⟨c_4, hres⟩ := ck_of hres
                  refine va_iast hx hb hK hP hD hS 2 0 rfl rfl c_4 dX11_corrects_114 (fun H locs hP hD hS => ?_)
                  have hP : va_P (dC, dI) vwCl [(h_t, .inr (10, [.ref h_t_s, .ref h_t_was, .ref h_t_begun, .int t_states, .ref h_t_text, .int t_typed, .ref h_t_wrong, .ref h_t_cost, .ref h_t_first, .ref h_t_block, .ref h_t_many, .ref h_t_stack, .int t_height, .ref h_t_written, .int t_length, .ref h_t_own, .ref h_t_levelAt, .ref h_t_itemAt, .ref h_t_times, .int t_at, .int t_ownLength, .int t_depth, .int t_deepest, .int t_letters, .int t_repeats, .int t_corrections, .int t_mostCorrections, .int t_place, .int t_reason])), (h_t_s, .inl (cI, 30, .inl t_s)), (h_t_wrong, .inl (cI, 15625, .inl (wr t_wrong ((((625 : Int32) * x1) + ((25 : Int32) * x2)) + ((x4 + (1 : Int32)) / x2)) (s0 + s1))))] H := hP
                  have hD : va_D A [(h_t, .inr (10, [.ref h_t_s, .ref h_t_was, .ref h_t_begun, .int t_states, .ref h_t_text, .int t_typed, .ref h_t_wrong, .ref h_t_cost, .ref h_t_first, .ref h_t_block, .ref h_t_many, .ref h_t_stack, .int t_height, .ref h_t_written, .int t_length, .ref h_t_own, .ref h_t_levelAt, .ref h_t_itemAt, .ref h_t_times, .int t_at, .int t_ownLength, .int t_depth, .int t_deepest, .int t_letters, .int t_repeats, .int t_corrections, .int t_mostCorrections, .int t_place, .int t_reason])), (h_t_s, .inl (cI, 30, .inl t_s)), (h_t_wrong, .inl (cI, 15625, .inl (wr t_wrong ((((625 : Int32) * x1) + ((25 : Int32) * x2)) + ((x4 + (1 : Int32)) / x2)) (s0 + s1))))] := hD
                  refine lv_iinc (v := (x4 + 1)) (lv' := [(4, .int (x4 + 1)), (3, .int (s0 + s1)), (0, .ref h_t), (1, .int x1), (2, .int x2)]) hx hb dX11_corrects_115 hl (k := 4) rfl rfl (by decide) rfl (fun ls hl => ?_)
                  refine lv_goto (tgt := 33) hx hb dX11_corrects_118 (by decide) ?_
                  exact ih33 x1 x2 (s0 + s1) (x4 + 1) (wr t_wrong ((((625 : Int32) * x1) + ((25 : Int32) * x2)) + ((x4 + (1 : Int32)) / x2)) (s0 + s1)) H locs ls hres hP hD hS (lv_sub hl [2, 3, 4, 1, 0] rfl)
              intro x1 x2 x3 x4 t_wrong H locs ls hres hP hD hS hl
              rw [fMD_corrects_33] at hres
              refine lv_iload_n hx hb dX11_corrects_33 rfl (lv_at hl 1 rfl) ?_
              refine lv_iload hx hb dX11_corrects_34 (lv_at hl 4 rfl) ?_
              refine lv_iadd hx hb dX11_corrects_36 ?_
              refine lv_aload_n hx hb dX11_corrects_37 rfl (lv_at hl 0 rfl) ?_
              refine va_get (D := (dC, dI)) (ci := 10) (v := .ref h_t_s) (C := RX11) (T := TX11) (N := 29) hx hb hts iMD_corrects_X11_corrects_1 hown hK hP 0 rfl rfl 0 (by decide) (hts _ kMD_corrects_X11_corrects_2) (fun _ h9 => h9) rfl dX11_corrects_38 ?_
              refine lv_iconst (v := (0 : Int32)) hx hb dX11_corrects_41 (by decide) ?_
              refine va_iald hx hb hK hP 1 0 rfl rfl (vin (by decide)) dX11_corrects_42 ?_
              refine lv_icmp_ge (tgt := 121) hx hb dX11_corrects_43 (by decide) (fun c_5 => ?_) (fun c_5 => ?_)
              · have hres := it_of hres c_5
                refine lv_iinc (v := (x2 + 1)) (lv' := [(2, .int (x2 + 1)), (0, .ref h_t), (1, .int x1), (3, .int x3), (4, .int x4)]) hx hb dX11_corrects_121 hl (k := 2) rfl rfl (by decide) rfl (fun ls hl => ?_)
                refine lv_goto (tgt := 14) hx hb dX11_corrects_124 (by decide) ?_
                exact ih14 x1 (x2 + 1) t_wrong H locs ls hres hP hD hS (lv_sub hl [1, 2, 0] rfl)
              · have hres := ie_of hres c_5
                refine lv_iload_n hx hb dX11_corrects_46 rfl (lv_at hl 3 rfl) ?_
                refine lv_aload_n hx hb dX11_corrects_47 rfl (lv_at hl 0 rfl) ?_
                refine va_get (D := (dC, dI)) (ci := 10) (v := .ref h_t_s) (C := RX11) (T := TX11) (N := 29) hx hb hts iMD_corrects_X11_corrects_1 hown hK hP 0 rfl rfl 0 (by decide) (hts _ kMD_corrects_X11_corrects_2) (fun _ h9 => h9) rfl dX11_corrects_48 ?_
                refine lv_bipush (v := (6 : Int32)) hx hb dX11_corrects_51 (by decide) ?_
                refine lv_iload_n hx hb dX11_corrects_53 rfl (lv_at hl 1 rfl) ?_
                refine lv_iadd hx hb dX11_corrects_54 ?_
                refine lv_iload hx hb dX11_corrects_55 (lv_at hl 4 rfl) ?_
                refine lv_iadd hx hb dX11_corrects_57 ?_
                obtain ⟨c_6, hres⟩ := ck_of hres
                refine va_iald hx hb hK hP 1 0 rfl rfl c_6 dX11_corrects_58 ?_
                refine lv_aload_n hx hb dX11_corrects_59 rfl (lv_at hl 0 rfl) ?_
                refine va_get (D := (dC, dI)) (ci := 10) (v := .ref h_t_s) (C := RX11) (T := TX11) (N := 29) hx hb hts iMD_corrects_X11_corrects_1 hown hK hP 0 rfl rfl 0 (by decide) (hts _ kMD_corrects_X11_corrects_2) (fun _ h9 => h9) rfl dX11_corrects_60 ?_
                refine lv_bipush (v := (6 : Int32)) hx hb dX11_corrects_63 (by decide) ?_
                refine lv_iload_n hx hb dX11_corrects_65 rfl (lv_at hl 1 rfl) ?_
                refine lv_iadd hx hb dX11_corrects_66 ?_
                refine lv_iload hx hb dX11_corrects_67 (lv_at hl 4 rfl) ?_
                refine lv_iload_n hx hb dX11_corrects_69 rfl (lv_at hl 2 rfl) ?_
                obtain ⟨c_7, hres⟩ := nz_of hres
                refine lv_irem hx hb dX11_corrects_70 c_7 ?_
                refine lv_iadd hx hb dX11_corrects_71 ?_
                obtain ⟨c_8, hres⟩ := ck_of hres
                refine va_iald hx hb hK hP 1 0 rfl rfl c_8 dX11_corrects_72 ?_
                refine lv_icmp_eq (tgt := 80) hx hb dX11_corrects_73 (by decide) (fun c_9 => ?_) (fun c_9 => ?_)
                · have hres := it_of hres c_9
                  refine lv_iconst (v := (0 : Int32)) hx hb dX11_corrects_80 (by decide) ?_
                  exact hK81 x1 x2 x4 x3 (0 : Int32) t_wrong H locs ls hres hP hD hS (lv_sub hl [0, 1, 2, 4] rfl)
                · have hres := ie_of hres c_9
                  refine lv_iconst (v := (1 : Int32)) hx hb dX11_corrects_76 (by decide) ?_
                  refine lv_goto (tgt := 81) hx hb dX11_corrects_77 (by decide) ?_
                  exact hK81 x1 x2 x4 x3 (1 : Int32) t_wrong H locs ls hres hP hD hS (lv_sub hl [0, 1, 2, 4] rfl)
          intro x1 x2 t_wrong H locs ls hres hP hD hS hl
          rw [fMD_corrects_14] at hres
          refine lv_iload_n hx hb dX11_corrects_14 rfl (lv_at hl 1 rfl) ?_
          refine lv_iconst (v := (2 : Int32)) hx hb dX11_corrects_15 (by decide) ?_
          refine lv_iload_n hx hb dX11_corrects_16 rfl (lv_at hl 2 rfl) ?_
          refine lv_imul hx hb dX11_corrects_17 ?_
          refine lv_iadd hx hb dX11_corrects_18 ?_
          refine lv_aload_n hx hb dX11_corrects_19 rfl (lv_at hl 0 rfl) ?_
          refine va_get (D := (dC, dI)) (ci := 10) (v := .ref h_t_s) (C := RX11) (T := TX11) (N := 29) hx hb hts iMD_corrects_X11_corrects_1 hown hK hP 0 rfl rfl 0 (by decide) (hts _ kMD_corrects_X11_corrects_2) (fun _ h9 => h9) rfl dX11_corrects_20 ?_
          refine lv_iconst (v := (0 : Int32)) hx hb dX11_corrects_23 (by decide) ?_
          refine va_iald hx hb hK hP 1 0 rfl rfl (vin (by decide)) dX11_corrects_24 ?_
          refine lv_icmp_gt (tgt := 127) hx hb dX11_corrects_25 (by decide) (fun c_11 => ?_) (fun c_11 => ?_)
          · have hres := it_of hres c_11
            refine lv_iinc (v := (x1 + 1)) (lv' := [(1, .int (x1 + 1)), (0, .ref h_t), (2, .int x2)]) hx hb dX11_corrects_127 hl (k := 1) rfl rfl (by decide) rfl (fun ls hl => ?_)
            refine lv_goto (tgt := 2) hx hb dX11_corrects_130 (by decide) ?_
            exact ih2 (x1 + 1) t_wrong H locs ls hres hP hD hS (lv_sub hl [1, 0] rfl)
          · have hres := ie_of hres c_11
            refine lv_iconst (v := (0 : Int32)) hx hb dX11_corrects_28 (by decide) ?_
            refine lv_istore_n (lv' := [(3, .int (0 : Int32)), (0, .ref h_t), (1, .int x1), (2, .int x2)]) hx hb dX11_corrects_29 rfl hl (by decide) rfl (fun ls hl => ?_)
            refine lv_iload_n hx hb dX11_corrects_30 rfl (lv_at hl 3 rfl) ?_
            refine lv_istore (lv' := [(4, .int x2), (3, .int (0 : Int32)), (0, .ref h_t), (1, .int x1), (2, .int x2)]) hx hb dX11_corrects_31 hl (by decide) rfl (fun ls hl => ?_)
            exact hL33 FU x1 x2 (0 : Int32) x2 t_wrong H locs ls hres hP hD hS (lv_sub hl [2, 3, 4, 1, 0] rfl)
      intro x1 t_wrong H locs ls hres hP hD hS hl
      rw [fMD_corrects_2] at hres
      refine lv_iload_n hx hb dX11_corrects_2 rfl (lv_at hl 1 rfl) ?_
      refine lv_aload_n hx hb dX11_corrects_3 rfl (lv_at hl 0 rfl) ?_
      refine va_get (D := (dC, dI)) (ci := 10) (v := .ref h_t_s) (C := RX11) (T := TX11) (N := 29) hx hb hts iMD_corrects_X11_corrects_1 hown hK hP 0 rfl rfl 0 (by decide) (hts _ kMD_corrects_X11_corrects_2) (fun _ h9 => h9) rfl dX11_corrects_4 ?_
      refine lv_iconst (v := (0 : Int32)) hx hb dX11_corrects_7 (by decide) ?_
      refine va_iald hx hb hK hP 1 0 rfl rfl (vin (by decide)) dX11_corrects_8 ?_
      refine lv_icmp_ge (tgt := 133) hx hb dX11_corrects_9 (by decide) (fun c_10 => ?_) (fun c_10 => ?_)
      · have hres := it_of hres c_10
        have e9_0 := Option.some.inj hres
        subst e9_0
        rw [← hQQ]
        exact W.vret hx hb hr (fun t ht hW => ⟨⟨(), rfl, trivial, by rw [ht]; exact hP, va_K.moved hW.alike hK, hD⟩, hS.F ht⟩) hS.2.2 dX11_corrects_133
      · have hres := ie_of hres c_10
        refine lv_iconst (v := (1 : Int32)) hx hb dX11_corrects_12 (by decide) ?_
        refine lv_istore_n (lv' := [(2, .int (1 : Int32)), (0, .ref h_t), (1, .int x1)]) hx hb dX11_corrects_13 rfl hl (by decide) rfl (fun ls hl => ?_)
        exact hL14 FU x1 (1 : Int32) t_wrong H locs ls hres hP hD hS (lv_sub hl [1, 2, 0] rfl)
  rw [fMD_corrects] at hres
  refine lv_iconst (v := (0 : Int32)) hx hb dX11_corrects_0 (by decide) ?_
  refine lv_istore_n (lv' := [(1, .int (0 : Int32)), (0, .ref h_t)]) hx hb dX11_corrects_1 rfl hl (by decide) rfl (fun ls hl => ?_)
  exact hL2 FU (0 : Int32) t_wrong H locs ls hres hP hD hS (lv_sub hl [1, 0] rfl)

-- MD_part
def fMD_part (x0 : Int32) (x1 : Int32) (x2 : Int32) : Option (Int32) :=
  some ((((625 : Int32) * x0) + ((25 : Int32) * x1)) + x2)
set_option maxHeartbeats 4000000 in
set_option maxRecDepth 100000 in
theorem cMD_part (l : Launch) (dC : Nat → ClassId) (dI : Nat → Nat → Nat) (cI cJ cC cS : ClassId) (sz : Nat) (x0 : Int32) (x1 : Int32) (x2 : Int32) (r : Int32) (hres : fMD_part x0 x1 x2 = some r) :
    Met l yX11_part wsX11_part ({ frames := 0, cells := 0, slots := 0, locals := 0 } : Room) (va_Pc [.int x0, .int x1, .int x2] (fun (U : State) => U.heap.size = sz ∧ va_P (dC, dI) vwCl [] U.heap ∧ va_K (dC, dI) vwCl (tyA cI cJ cC cS) U ∧ nwN U ∧ va_D (fun _ => True) [])) (va_Qi (fun (r9 : Int32) (_ : Unit) => r9 = r) (fun (_ : Unit) (t : State) => va_P (dC, dI) vwCl [] t.heap ∧ va_K (dC, dI) vwCl (tyA cI cJ cC cS) t ∧ va_D (va_A [] sz) []) (va_A [] sz)) 0 0 (va_A [] sz) := by
  refine Met.ofW (cc := cX11_part) (maxL := 3) (ret := (some .int)) (by decide) rfl ?_
  intro p e s m args below meth c s₁ B hml hv
  obtain ⟨hargs, hsz, hP, hK, hN, hD0⟩ := hv
  have hx := B.exec
  have hb := B.bytes
  have hr := B.returns
  have hts := atoms_spec (ws := wsX11_part) B.pre
  have hown : s.vm.findClass RX11 = some m.cls := findClass_of_methodNamed B.named
  have hlocks := B.notSynchronized
  subst hsz
  have hD := hD0.self (sz := s.heap.size)
  generalize hAe : va_A [] s.heap.size = A at hD ⊢
  have hA : ∀ q : Nat, s.heap.size ≤ q → A q := fun q h => by rw [← hAe]; exact Or.inr h
  have hS : va_S A s.heap s.heap [] := va_S.rf
  have hP : va_P (dC, dI) vwCl [] s.heap := hP
  have hl := lv_entry [.int x0, .int x1, .int x2] (n := 3) (Nat.le_of_ble_eq_true rfl)
  rw [show entryFrame m args 3 = entryFrame m ([.int x0, .int x1, .int x2] : List Value).toArray 3 from by rw [hargs], lg_entry_eq]
  generalize (lg_sl [.int x0, .int x1, .int x2] ++ List.replicate (3 - (lg_sl [.int x0, .int x1, .int x2]).length) Slot.unset).toArray = ls at hl ⊢
  have hl : lv_has ls 3 [(0, .int x0), (1, .int x1), (2, .int x2)] := hl
  generalize hQQ : MQ below (va_Qi (fun (r9 : Int32) (_ : Unit) => r9 = r) (fun (_ : Unit) (t : State) => va_P (dC, dI) vwCl [] t.heap ∧ va_K (dC, dI) vwCl (tyA cI cJ cC cS) t ∧ va_D A []) A) args s 0 0 A = QQ
  obtain ⟨H, hH⟩ : ∃ H : Heap, H = s.heap := ⟨_, rfl⟩
  obtain ⟨locs, hlocs⟩ : ∃ locs : List Loc, locs = [] := ⟨_, rfl⟩
  rw [← hH] at hP
  have hS : va_S A s.heap H locs := by rw [hH, hlocs]; exact hS
  suffices hZ : W p l e (headSpec wsX11_part ({ frames := 0, cells := 0, slots := 0, locals := 0 } : Room)).room s m args below meth c H locs 0 0 QQ (F0 m 0 ls []) by rw [hH, hlocs] at hZ; exact hZ
  clear hH hlocs
  rw [fMD_part] at hres
  refine lv_sipush (v := (625 : Int32)) hx hb dX11_part_0 (by decide) ?_
  refine lv_iload_n hx hb dX11_part_3 rfl (lv_at hl 0 rfl) ?_
  refine lv_imul hx hb dX11_part_4 ?_
  refine lv_bipush (v := (25 : Int32)) hx hb dX11_part_5 (by decide) ?_
  refine lv_iload_n hx hb dX11_part_7 rfl (lv_at hl 1 rfl) ?_
  refine lv_imul hx hb dX11_part_8 ?_
  refine lv_iadd hx hb dX11_part_9 ?_
  refine lv_iload_n hx hb dX11_part_10 rfl (lv_at hl 2 rfl) ?_
  refine lv_iadd hx hb dX11_part_11 ?_
  have e9_0 := Option.some.inj hres
  subst e9_0
  rw [← hQQ]
  exact W.iret (v := ((((625 : Int32) * x0) + ((25 : Int32) * x1)) + x2)) hx hb hr (fun t ht hW => ⟨⟨((((625 : Int32) * x0) + ((25 : Int32) * x1)) + x2), (), rfl, rfl, by rw [ht]; exact hP, va_K.moved hW.alike hK, hD⟩, hS.F ht⟩) hS.2.2 dX11_part_12

-- MD_finds
def fMD_finds_257 (k17 : Int32 → Int32 → Int32 → (Nat → Int32) → (Nat → Int32) → (Nat → Int32) → Option ((Nat → Int32) × (Nat → Int32) × (Nat → Int32))) (k95 : Int32 → Int32 → Int32 → Int32 → (Nat → Int32) → (Nat → Int32) → (Nat → Int32) → Option ((Nat → Int32) × (Nat → Int32) × (Nat → Int32))) (x4 : Int32) (x5 : Int32) (x6 : Int32) (x7 : Int32) (x9 : Int32) (s1 : Int32) (s2 : Int32) (t_block : Nat → Int32) (t_cost : Nat → Int32) (t_first : Nat → Int32) : Option ((Nat → Int32) × (Nat → Int32) × (Nat → Int32)) :=
    if bIn s1 3125 = true then
      if x4 ≤ x9 then
        k95 x4 x5 x6 (x7 + 1) (wr t_block s1 s2) t_cost t_first
      else
        k95 x9 x5 x6 (x7 + 1) (wr t_block s1 s2) t_cost t_first
    else none
def fMD_finds_231 (k17 : Int32 → Int32 → Int32 → (Nat → Int32) → (Nat → Int32) → (Nat → Int32) → Option ((Nat → Int32) × (Nat → Int32) × (Nat → Int32))) (k95 : Int32 → Int32 → Int32 → Int32 → (Nat → Int32) → (Nat → Int32) → (Nat → Int32) → Option ((Nat → Int32) × (Nat → Int32) × (Nat → Int32))) (x4 : Int32) (x5 : Int32) (x6 : Int32) (x7 : Int32) (x9 : Int32) (s1 : Int32) (s2 : Int32) (t_block : Nat → Int32) (t_cost : Nat → Int32) (t_first : Nat → Int32) : Option ((Nat → Int32) × (Nat → Int32) × (Nat → Int32)) :=
    if bIn s1 3125 = true then
      if x4 ≤ x9 then
        if bIn x5 3125 = true then
          fMD_finds_257 k17 k95 x4 x5 x6 x7 x9 x5 (rd t_block x5) t_block t_cost (wr t_first s1 s2)
        else none
      else
        fMD_finds_257 k17 k95 x4 x5 x6 x7 x9 x5 x7 t_block t_cost (wr t_first s1 s2)
    else none
def fMD_finds_143 (t_s : Nat → Int32) (x1 : Int32) (x2 : Int32) (x3 : Int32) (k17 : Int32 → Int32 → Int32 → (Nat → Int32) → (Nat → Int32) → (Nat → Int32) → Option ((Nat → Int32) × (Nat → Int32) × (Nat → Int32))) (k95 : Int32 → Int32 → Int32 → Int32 → (Nat → Int32) → (Nat → Int32) → (Nat → Int32) → Option ((Nat → Int32) × (Nat → Int32) × (Nat → Int32))) (x4 : Int32) (x5 : Int32) (x6 : Int32) (x7 : Int32) (s0 : Int32) (t_block : Nat → Int32) (t_cost : Nat → Int32) (t_first : Nat → Int32) : Option ((Nat → Int32) × (Nat → Int32) × (Nat → Int32)) :=
    if (rd t_s (4 : Int32)) < s0 then
      k95 x4 x5 x6 (x7 + 1) t_block t_cost t_first
    else
      (fMD_part (x1 - (1 : Int32)) x2 (x2 + x7)).bind fun o2 =>
        if bIn o2 3125 = true then
          (fMD_part x1 (x2 + x6) x3).bind fun o4 =>
            if bIn o4 3125 = true then
              if x4 ≤ ((((rd t_s (2 : Int32)) + (rd t_cost o2)) + ((rd t_s (3 : Int32)) * s0)) + (rd t_cost o4)) then
                if bIn x5 3125 = true then
                  fMD_finds_231 k17 k95 x4 x5 x6 x7 ((((rd t_s (2 : Int32)) + (rd t_cost o2)) + ((rd t_s (3 : Int32)) * s0)) + (rd t_cost o4)) x5 (rd t_first x5) t_block t_cost t_first
                else none
              else
                fMD_finds_231 k17 k95 x4 x5 x6 x7 ((((rd t_s (2 : Int32)) + (rd t_cost o2)) + ((rd t_s (3 : Int32)) * s0)) + (rd t_cost o4)) x5 x6 t_block t_cost t_first
            else none
        else none
def fMD_finds_95 (t_s : Nat → Int32) (t_wrong : Nat → Int32) (x1 : Int32) (x2 : Int32) (x3 : Int32) (k17 : Int32 → Int32 → Int32 → (Nat → Int32) → (Nat → Int32) → (Nat → Int32) → Option ((Nat → Int32) × (Nat → Int32) × (Nat → Int32))) : Nat → Int32 → Int32 → Int32 → Int32 → (Nat → Int32) → (Nat → Int32) → (Nat → Int32) → Option ((Nat → Int32) × (Nat → Int32) × (Nat → Int32))
  | 0, _, _, _, _, _, _, _ => none
  | n + 1, x4, x5, x6, x7, t_block, t_cost, t_first =>
    if x6 < ((2 : Int32) * x7) then
      k17 x4 x5 (x6 + (-1)) t_block t_cost t_first
    else
      if x1 ≤ 0 then
        k17 x4 x5 (x6 + (-1)) t_block t_cost t_first
      else
        if x7 = 0 then none else
          if (x6 - x6 / x7 * x7) = 0 then
            if x7 = 0 then none else
              if bIn ((((625 : Int32) * x2) + ((25 : Int32) * x7)) + (x6 / x7)) 15625 = true then
                fMD_finds_143 t_s x1 x2 x3 k17 (fMD_finds_95 t_s t_wrong x1 x2 x3 k17 n) x4 x5 x6 x7 (rd t_wrong ((((625 : Int32) * x2) + ((25 : Int32) * x7)) + (x6 / x7))) t_block t_cost t_first
              else none
          else
            fMD_finds_143 t_s x1 x2 x3 k17 (fMD_finds_95 t_s t_wrong x1 x2 x3 k17 n) x4 x5 x6 x7 (1000000 : Int32) t_block t_cost t_first
def fMD_finds_75 (t_s : Nat → Int32) (t_wrong : Nat → Int32) (x1 : Int32) (x2 : Int32) (x3 : Int32) (k17 : Int32 → Int32 → Int32 → (Nat → Int32) → (Nat → Int32) → (Nat → Int32) → Option ((Nat → Int32) × (Nat → Int32) × (Nat → Int32))) (x4 : Int32) (x5 : Int32) (x6 : Int32) (x7 : Int32) (s1 : Int32) (s2 : Int32) (t_block : Nat → Int32) (t_cost : Nat → Int32) (t_first : Nat → Int32) : Option ((Nat → Int32) × (Nat → Int32) × (Nat → Int32)) :=
    if bIn s1 3125 = true then
      if x4 ≤ x7 then
        fMD_finds_95 t_s t_wrong x1 x2 x3 k17 FU x4 x5 x6 (1 : Int32) t_block t_cost (wr t_first s1 s2)
      else
        fMD_finds_95 t_s t_wrong x1 x2 x3 k17 FU x7 x5 x6 (1 : Int32) t_block t_cost (wr t_first s1 s2)
    else none
def fMD_finds_17 (t_s : Nat → Int32) (t_wrong : Nat → Int32) (x1 : Int32) (x2 : Int32) (x3 : Int32) : Nat → Int32 → Int32 → Int32 → (Nat → Int32) → (Nat → Int32) → (Nat → Int32) → Option ((Nat → Int32) × (Nat → Int32) × (Nat → Int32))
  | 0, _, _, _, _, _, _ => none
  | n + 1, x4, x5, x6, t_block, t_cost, t_first =>
    if x6 < (1 : Int32) then
      if bIn x5 3125 = true then
        some (t_block, (wr t_cost x5 x4), t_first)
      else none
    else
      if x6 = (1 : Int32) then
        (fMD_part x1 (x2 + (1 : Int32)) x3).bind fun o11 =>
          if bIn o11 3125 = true then
            if x4 ≤ ((rd t_s (1 : Int32)) + (rd t_cost o11)) then
              if bIn x5 3125 = true then
                fMD_finds_75 t_s t_wrong x1 x2 x3 (fMD_finds_17 t_s t_wrong x1 x2 x3 n) x4 x5 x6 ((rd t_s (1 : Int32)) + (rd t_cost o11)) x5 (rd t_first x5) t_block t_cost t_first
              else none
            else
              fMD_finds_75 t_s t_wrong x1 x2 x3 (fMD_finds_17 t_s t_wrong x1 x2 x3 n) x4 x5 x6 ((rd t_s (1 : Int32)) + (rd t_cost o11)) x5 (1 : Int32) t_block t_cost t_first
          else none
      else
        fMD_finds_95 t_s t_wrong x1 x2 x3 (fMD_finds_17 t_s t_wrong x1 x2 x3 n) FU x4 x5 x6 (1 : Int32) t_block t_cost t_first
def fMD_finds (t_s : Nat → Int32) (t_wrong : Nat → Int32) (t_block : Nat → Int32) (t_cost : Nat → Int32) (t_first : Nat → Int32) (x1 : Int32) (x2 : Int32) (x3 : Int32) : Option ((Nat → Int32) × (Nat → Int32) × (Nat → Int32)) :=
  (fMD_part x1 x2 x3).bind fun o28 =>
    fMD_finds_17 t_s t_wrong x1 x2 x3 FU (1000000 : Int32) o28 (x3 - x2) t_block t_cost t_first
theorem kMD_finds_X11_finds_0 : Cond.fieldLink RX11 7 "RepeatNestsModel" "s" "[I" ∈ wsX11_finds := by decide +kernel
theorem iMD_finds_X11_finds_1 : ∀ w ∈ wsX110, w ∈ wsX11_finds := by decide +kernel
theorem kMD_finds_X11_finds_2 : Cond.fieldLink RX11 26 "RepeatNestsModel" "cost" "[I" ∈ wsX11_finds := by decide +kernel
theorem kMD_finds_X11_finds_3 : Cond.fieldLink RX11 29 "RepeatNestsModel" "first" "[I" ∈ wsX11_finds := by decide +kernel
theorem kMD_finds_X11_finds_4 : Cond.fieldLink RX11 32 "RepeatNestsModel" "block" "[I" ∈ wsX11_finds := by decide +kernel
theorem kMD_finds_X11_finds_5 : Cond.constant RX11 94 (1000000) ∈ wsX11_finds := by decide +kernel
theorem kMD_finds_X11_finds_6 : Cond.fieldLink RX11 23 "RepeatNestsModel" "wrong" "[I" ∈ wsX11_finds := by decide +kernel
set_option maxHeartbeats 4000000 in
set_option maxRecDepth 100000 in
theorem cMD_finds (l : Launch) (dC : Nat → ClassId) (dI : Nat → Nat → Nat) (cI cJ cC cS : ClassId) (h_t h_t_s h_t_was h_t_begun h_t_text h_t_wrong h_t_cost h_t_first h_t_block h_t_many h_t_stack h_t_written h_t_own h_t_levelAt h_t_itemAt h_t_times : Nat) (sz : Nat) (t_states : Int32) (t_typed : Int32) (t_height : Int32) (t_length : Int32) (t_at : Int32) (t_ownLength : Int32) (t_depth : Int32) (t_deepest : Int32) (t_letters : Int32) (t_repeats : Int32) (t_corrections : Int32) (t_mostCorrections : Int32) (t_place : Int32) (t_reason : Int32) (t_block : Nat → Int32) (t_cost : Nat → Int32) (t_first : Nat → Int32) (t_s : Nat → Int32) (t_wrong : Nat → Int32) (x1 : Int32) (x2 : Int32) (x3 : Int32) (y_t_block : Nat → Int32) (y_t_cost : Nat → Int32) (y_t_first : Nat → Int32) (hres : fMD_finds t_s t_wrong t_block t_cost t_first x1 x2 x3 = some (y_t_block, y_t_cost, y_t_first)) :
    Met l yX11_finds wsX11_finds ({ frames := 1, cells := 0, slots := 0, locals := 22 } : Room) (va_Pc [.ref h_t, .int x1, .int x2, .int x3] (fun (U : State) => U.heap.size = sz ∧ va_P (dC, dI) vwCl [(h_t, .inr (10, [.ref h_t_s, .ref h_t_was, .ref h_t_begun, .int t_states, .ref h_t_text, .int t_typed, .ref h_t_wrong, .ref h_t_cost, .ref h_t_first, .ref h_t_block, .ref h_t_many, .ref h_t_stack, .int t_height, .ref h_t_written, .int t_length, .ref h_t_own, .ref h_t_levelAt, .ref h_t_itemAt, .ref h_t_times, .int t_at, .int t_ownLength, .int t_depth, .int t_deepest, .int t_letters, .int t_repeats, .int t_corrections, .int t_mostCorrections, .int t_place, .int t_reason])), (h_t_block, .inl (cI, 3125, .inl t_block)), (h_t_cost, .inl (cI, 3125, .inl t_cost)), (h_t_first, .inl (cI, 3125, .inl t_first)), (h_t_s, .inl (cI, 30, .inl t_s)), (h_t_wrong, .inl (cI, 15625, .inl t_wrong))] U.heap ∧ va_K (dC, dI) vwCl (tyA cI cJ cC cS) U ∧ nwN U ∧ va_D (fun _ => True) [(h_t, .inr (10, [.ref h_t_s, .ref h_t_was, .ref h_t_begun, .int t_states, .ref h_t_text, .int t_typed, .ref h_t_wrong, .ref h_t_cost, .ref h_t_first, .ref h_t_block, .ref h_t_many, .ref h_t_stack, .int t_height, .ref h_t_written, .int t_length, .ref h_t_own, .ref h_t_levelAt, .ref h_t_itemAt, .ref h_t_times, .int t_at, .int t_ownLength, .int t_depth, .int t_deepest, .int t_letters, .int t_repeats, .int t_corrections, .int t_mostCorrections, .int t_place, .int t_reason])), (h_t_block, .inl (cI, 3125, .inl t_block)), (h_t_cost, .inl (cI, 3125, .inl t_cost)), (h_t_first, .inl (cI, 3125, .inl t_first)), (h_t_s, .inl (cI, 30, .inl t_s)), (h_t_wrong, .inl (cI, 15625, .inl t_wrong))])) (va_Qv (fun (_ : Unit) => True) (fun (_ : Unit) (t : State) => va_P (dC, dI) vwCl [(h_t, .inr (10, [.ref h_t_s, .ref h_t_was, .ref h_t_begun, .int t_states, .ref h_t_text, .int t_typed, .ref h_t_wrong, .ref h_t_cost, .ref h_t_first, .ref h_t_block, .ref h_t_many, .ref h_t_stack, .int t_height, .ref h_t_written, .int t_length, .ref h_t_own, .ref h_t_levelAt, .ref h_t_itemAt, .ref h_t_times, .int t_at, .int t_ownLength, .int t_depth, .int t_deepest, .int t_letters, .int t_repeats, .int t_corrections, .int t_mostCorrections, .int t_place, .int t_reason])), (h_t_block, .inl (cI, 3125, .inl y_t_block)), (h_t_cost, .inl (cI, 3125, .inl y_t_cost)), (h_t_first, .inl (cI, 3125, .inl y_t_first)), (h_t_s, .inl (cI, 30, .inl t_s)), (h_t_wrong, .inl (cI, 15625, .inl t_wrong))] t.heap ∧ va_K (dC, dI) vwCl (tyA cI cJ cC cS) t ∧ va_D (va_A [(h_t, .inr (10, [.ref h_t_s, .ref h_t_was, .ref h_t_begun, .int t_states, .ref h_t_text, .int t_typed, .ref h_t_wrong, .ref h_t_cost, .ref h_t_first, .ref h_t_block, .ref h_t_many, .ref h_t_stack, .int t_height, .ref h_t_written, .int t_length, .ref h_t_own, .ref h_t_levelAt, .ref h_t_itemAt, .ref h_t_times, .int t_at, .int t_ownLength, .int t_depth, .int t_deepest, .int t_letters, .int t_repeats, .int t_corrections, .int t_mostCorrections, .int t_place, .int t_reason])), (h_t_block, .inl (cI, 3125, .inl t_block)), (h_t_cost, .inl (cI, 3125, .inl t_cost)), (h_t_first, .inl (cI, 3125, .inl t_first)), (h_t_s, .inl (cI, 30, .inl t_s)), (h_t_wrong, .inl (cI, 15625, .inl t_wrong))] sz) [(h_t, .inr (10, [.ref h_t_s, .ref h_t_was, .ref h_t_begun, .int t_states, .ref h_t_text, .int t_typed, .ref h_t_wrong, .ref h_t_cost, .ref h_t_first, .ref h_t_block, .ref h_t_many, .ref h_t_stack, .int t_height, .ref h_t_written, .int t_length, .ref h_t_own, .ref h_t_levelAt, .ref h_t_itemAt, .ref h_t_times, .int t_at, .int t_ownLength, .int t_depth, .int t_deepest, .int t_letters, .int t_repeats, .int t_corrections, .int t_mostCorrections, .int t_place, .int t_reason])), (h_t_block, .inl (cI, 3125, .inl y_t_block)), (h_t_cost, .inl (cI, 3125, .inl y_t_cost)), (h_t_first, .inl (cI, 3125, .inl y_t_first)), (h_t_s, .inl (cI, 30, .inl t_s)), (h_t_wrong, .inl (cI, 15625, .inl t_wrong))]) (va_A [(h_t, .inr (10, [.ref h_t_s, .ref h_t_was, .ref h_t_begun, .int t_states, .ref h_t_text, .int t_typed, .ref h_t_wrong, .ref h_t_cost, .ref h_t_first, .ref h_t_block, .ref h_t_many, .ref h_t_stack, .int t_height, .ref h_t_written, .int t_length, .ref h_t_own, .ref h_t_levelAt, .ref h_t_itemAt, .ref h_t_times, .int t_at, .int t_ownLength, .int t_depth, .int t_deepest, .int t_letters, .int t_repeats, .int t_corrections, .int t_mostCorrections, .int t_place, .int t_reason])), (h_t_block, .inl (cI, 3125, .inl t_block)), (h_t_cost, .inl (cI, 3125, .inl t_cost)), (h_t_first, .inl (cI, 3125, .inl t_first)), (h_t_s, .inl (cI, 30, .inl t_s)), (h_t_wrong, .inl (cI, 15625, .inl t_wrong))] sz)) 0 0 (va_A [(h_t, .inr (10, [.ref h_t_s, .ref h_t_was, .ref h_t_begun, .int t_states, .ref h_t_text, .int t_typed, .ref h_t_wrong, .ref h_t_cost, .ref h_t_first, .ref h_t_block, .ref h_t_many, .ref h_t_stack, .int t_height, .ref h_t_written, .int t_length, .ref h_t_own, .ref h_t_levelAt, .ref h_t_itemAt, .ref h_t_times, .int t_at, .int t_ownLength, .int t_depth, .int t_deepest, .int t_letters, .int t_repeats, .int t_corrections, .int t_mostCorrections, .int t_place, .int t_reason])), (h_t_block, .inl (cI, 3125, .inl t_block)), (h_t_cost, .inl (cI, 3125, .inl t_cost)), (h_t_first, .inl (cI, 3125, .inl t_first)), (h_t_s, .inl (cI, 30, .inl t_s)), (h_t_wrong, .inl (cI, 15625, .inl t_wrong))] sz) := by
  refine Met.ofW (cc := cX11_finds) (maxL := 10) (ret := none) (by decide) rfl ?_
  intro p e s m args below meth c s₁ B hml hv
  obtain ⟨hargs, hsz, hP, hK, hN, hD0⟩ := hv
  have hx := B.exec
  have hb := B.bytes
  have hr := B.returns
  have hts := atoms_spec (ws := wsX11_finds) B.pre
  have hown : s.vm.findClass RX11 = some m.cls := findClass_of_methodNamed B.named
  have hlocks := B.notSynchronized
  subst hsz
  have hD := hD0.self (sz := s.heap.size)
  generalize hAe : va_A [(h_t, .inr (10, [.ref h_t_s, .ref h_t_was, .ref h_t_begun, .int t_states, .ref h_t_text, .int t_typed, .ref h_t_wrong, .ref h_t_cost, .ref h_t_first, .ref h_t_block, .ref h_t_many, .ref h_t_stack, .int t_height, .ref h_t_written, .int t_length, .ref h_t_own, .ref h_t_levelAt, .ref h_t_itemAt, .ref h_t_times, .int t_at, .int t_ownLength, .int t_depth, .int t_deepest, .int t_letters, .int t_repeats, .int t_corrections, .int t_mostCorrections, .int t_place, .int t_reason])), (h_t_block, .inl (cI, 3125, .inl t_block)), (h_t_cost, .inl (cI, 3125, .inl t_cost)), (h_t_first, .inl (cI, 3125, .inl t_first)), (h_t_s, .inl (cI, 30, .inl t_s)), (h_t_wrong, .inl (cI, 15625, .inl t_wrong))] s.heap.size = A at hD ⊢
  have hA : ∀ q : Nat, s.heap.size ≤ q → A q := fun q h => by rw [← hAe]; exact Or.inr h
  have hS : va_S A s.heap s.heap [] := va_S.rf
  have hP : va_P (dC, dI) vwCl [(h_t, .inr (10, [.ref h_t_s, .ref h_t_was, .ref h_t_begun, .int t_states, .ref h_t_text, .int t_typed, .ref h_t_wrong, .ref h_t_cost, .ref h_t_first, .ref h_t_block, .ref h_t_many, .ref h_t_stack, .int t_height, .ref h_t_written, .int t_length, .ref h_t_own, .ref h_t_levelAt, .ref h_t_itemAt, .ref h_t_times, .int t_at, .int t_ownLength, .int t_depth, .int t_deepest, .int t_letters, .int t_repeats, .int t_corrections, .int t_mostCorrections, .int t_place, .int t_reason])), (h_t_block, .inl (cI, 3125, .inl t_block)), (h_t_cost, .inl (cI, 3125, .inl t_cost)), (h_t_first, .inl (cI, 3125, .inl t_first)), (h_t_s, .inl (cI, 30, .inl t_s)), (h_t_wrong, .inl (cI, 15625, .inl t_wrong))] s.heap := hP
  have hl := lv_entry [.ref h_t, .int x1, .int x2, .int x3] (n := 10) (Nat.le_of_ble_eq_true rfl)
  rw [show entryFrame m args 10 = entryFrame m ([.ref h_t, .int x1, .int x2, .int x3] : List Value).toArray 10 from by rw [hargs], lg_entry_eq]
  generalize (lg_sl [.ref h_t, .int x1, .int x2, .int x3] ++ List.replicate (10 - (lg_sl [.ref h_t, .int x1, .int x2, .int x3]).length) Slot.unset).toArray = ls at hl ⊢
  have hl : lv_has ls 10 [(0, .ref h_t), (1, .int x1), (2, .int x2), (3, .int x3)] := hl
  generalize hQQ : MQ below (va_Qv (fun (_ : Unit) => True) (fun (_ : Unit) (t : State) => va_P (dC, dI) vwCl [(h_t, .inr (10, [.ref h_t_s, .ref h_t_was, .ref h_t_begun, .int t_states, .ref h_t_text, .int t_typed, .ref h_t_wrong, .ref h_t_cost, .ref h_t_first, .ref h_t_block, .ref h_t_many, .ref h_t_stack, .int t_height, .ref h_t_written, .int t_length, .ref h_t_own, .ref h_t_levelAt, .ref h_t_itemAt, .ref h_t_times, .int t_at, .int t_ownLength, .int t_depth, .int t_deepest, .int t_letters, .int t_repeats, .int t_corrections, .int t_mostCorrections, .int t_place, .int t_reason])), (h_t_block, .inl (cI, 3125, .inl y_t_block)), (h_t_cost, .inl (cI, 3125, .inl y_t_cost)), (h_t_first, .inl (cI, 3125, .inl y_t_first)), (h_t_s, .inl (cI, 30, .inl t_s)), (h_t_wrong, .inl (cI, 15625, .inl t_wrong))] t.heap ∧ va_K (dC, dI) vwCl (tyA cI cJ cC cS) t ∧ va_D A [(h_t, .inr (10, [.ref h_t_s, .ref h_t_was, .ref h_t_begun, .int t_states, .ref h_t_text, .int t_typed, .ref h_t_wrong, .ref h_t_cost, .ref h_t_first, .ref h_t_block, .ref h_t_many, .ref h_t_stack, .int t_height, .ref h_t_written, .int t_length, .ref h_t_own, .ref h_t_levelAt, .ref h_t_itemAt, .ref h_t_times, .int t_at, .int t_ownLength, .int t_depth, .int t_deepest, .int t_letters, .int t_repeats, .int t_corrections, .int t_mostCorrections, .int t_place, .int t_reason])), (h_t_block, .inl (cI, 3125, .inl y_t_block)), (h_t_cost, .inl (cI, 3125, .inl y_t_cost)), (h_t_first, .inl (cI, 3125, .inl y_t_first)), (h_t_s, .inl (cI, 30, .inl t_s)), (h_t_wrong, .inl (cI, 15625, .inl t_wrong))]) A) args s 0 0 A = QQ
  obtain ⟨H, hH⟩ : ∃ H : Heap, H = s.heap := ⟨_, rfl⟩
  obtain ⟨locs, hlocs⟩ : ∃ locs : List Loc, locs = [] := ⟨_, rfl⟩
  rw [← hH] at hP
  have hS : va_S A s.heap H locs := by rw [hH, hlocs]; exact hS
  suffices hZ : W p l e (headSpec wsX11_finds ({ frames := 1, cells := 0, slots := 0, locals := 22 } : Room)).room s m args below meth c H locs 0 0 QQ (F0 m 0 ls []) by rw [hH, hlocs] at hZ; exact hZ
  clear hH hlocs
  have hL17 : ∀ (n17 : Nat) , ∀ (x4 : Int32) (x5 : Int32) (x6 : Int32) (t_block : Nat → Int32) (t_cost : Nat → Int32) (t_first : Nat → Int32) (H : Heap) (locs : List Loc) (ls : Array Slot), fMD_finds_17 t_s t_wrong x1 x2 x3 n17 x4 x5 x6 t_block t_cost t_first = some (y_t_block, y_t_cost, y_t_first) → va_P (dC, dI) vwCl [(h_t, .inr (10, [.ref h_t_s, .ref h_t_was, .ref h_t_begun, .int t_states, .ref h_t_text, .int t_typed, .ref h_t_wrong, .ref h_t_cost, .ref h_t_first, .ref h_t_block, .ref h_t_many, .ref h_t_stack, .int t_height, .ref h_t_written, .int t_length, .ref h_t_own, .ref h_t_levelAt, .ref h_t_itemAt, .ref h_t_times, .int t_at, .int t_ownLength, .int t_depth, .int t_deepest, .int t_letters, .int t_repeats, .int t_corrections, .int t_mostCorrections, .int t_place, .int t_reason])), (h_t_block, .inl (cI, 3125, .inl t_block)), (h_t_cost, .inl (cI, 3125, .inl t_cost)), (h_t_first, .inl (cI, 3125, .inl t_first)), (h_t_s, .inl (cI, 30, .inl t_s)), (h_t_wrong, .inl (cI, 15625, .inl t_wrong))] H → va_D A [(h_t, .inr (10, [.ref h_t_s, .ref h_t_was, .ref h_t_begun, .int t_states, .ref h_t_text, .int t_typed, .ref h_t_wrong, .ref h_t_cost, .ref h_t_first, .ref h_t_block, .ref h_t_many, .ref h_t_stack, .int t_height, .ref h_t_written, .int t_length, .ref h_t_own, .ref h_t_levelAt, .ref h_t_itemAt, .ref h_t_times, .int t_at, .int t_ownLength, .int t_depth, .int t_deepest, .int t_letters, .int t_repeats, .int t_corrections, .int t_mostCorrections, .int t_place, .int t_reason])), (h_t_block, .inl (cI, 3125, .inl t_block)), (h_t_cost, .inl (cI, 3125, .inl t_cost)), (h_t_first, .inl (cI, 3125, .inl t_first)), (h_t_s, .inl (cI, 30, .inl t_s)), (h_t_wrong, .inl (cI, 15625, .inl t_wrong))] → va_S A s.heap H locs → lv_has ls 10 [(0, .ref h_t), (1, .int x1), (2, .int x2), (3, .int x3), (4, .int x4), (5, .int x5), (6, .int x6)] → W p l e (headSpec wsX11_finds ({ frames := 1, cells := 0, slots := 0, locals := 22 } : Room)).room s m args below meth c H locs 0 0 QQ (F0 m 17 ls []) := by
    intro n17
    induction n17 with
    | zero =>
      intro x4 x5 x6 t_block t_cost t_first H locs ls hres
      rw [fMD_finds_17] at hres
      cases hres
    | succ n17 ih17 =>
      have hL95 : ∀ (n95 : Nat) , ∀ (x4 : Int32) (x5 : Int32) (x6 : Int32) (x7 : Int32) (t_block : Nat → Int32) (t_cost : Nat → Int32) (t_first : Nat → Int32) (H : Heap) (locs : List Loc) (ls : Array Slot), fMD_finds_95 t_s t_wrong x1 x2 x3 (fMD_finds_17 t_s t_wrong x1 x2 x3 n17) n95 x4 x5 x6 x7 t_block t_cost t_first = some (y_t_block, y_t_cost, y_t_first) → va_P (dC, dI) vwCl [(h_t, .inr (10, [.ref h_t_s, .ref h_t_was, .ref h_t_begun, .int t_states, .ref h_t_text, .int t_typed, .ref h_t_wrong, .ref h_t_cost, .ref h_t_first, .ref h_t_block, .ref h_t_many, .ref h_t_stack, .int t_height, .ref h_t_written, .int t_length, .ref h_t_own, .ref h_t_levelAt, .ref h_t_itemAt, .ref h_t_times, .int t_at, .int t_ownLength, .int t_depth, .int t_deepest, .int t_letters, .int t_repeats, .int t_corrections, .int t_mostCorrections, .int t_place, .int t_reason])), (h_t_block, .inl (cI, 3125, .inl t_block)), (h_t_cost, .inl (cI, 3125, .inl t_cost)), (h_t_first, .inl (cI, 3125, .inl t_first)), (h_t_s, .inl (cI, 30, .inl t_s)), (h_t_wrong, .inl (cI, 15625, .inl t_wrong))] H → va_D A [(h_t, .inr (10, [.ref h_t_s, .ref h_t_was, .ref h_t_begun, .int t_states, .ref h_t_text, .int t_typed, .ref h_t_wrong, .ref h_t_cost, .ref h_t_first, .ref h_t_block, .ref h_t_many, .ref h_t_stack, .int t_height, .ref h_t_written, .int t_length, .ref h_t_own, .ref h_t_levelAt, .ref h_t_itemAt, .ref h_t_times, .int t_at, .int t_ownLength, .int t_depth, .int t_deepest, .int t_letters, .int t_repeats, .int t_corrections, .int t_mostCorrections, .int t_place, .int t_reason])), (h_t_block, .inl (cI, 3125, .inl t_block)), (h_t_cost, .inl (cI, 3125, .inl t_cost)), (h_t_first, .inl (cI, 3125, .inl t_first)), (h_t_s, .inl (cI, 30, .inl t_s)), (h_t_wrong, .inl (cI, 15625, .inl t_wrong))] → va_S A s.heap H locs → lv_has ls 10 [(0, .ref h_t), (1, .int x1), (2, .int x2), (3, .int x3), (4, .int x4), (5, .int x5), (6, .int x6), (7, .int x7)] → W p l e (headSpec wsX11_finds ({ frames := 1, cells := 0, slots := 0, locals := 22 } : Room)).room s m args below meth c H locs 0 0 QQ (F0 m 95 ls []) := by
        intro n95
        induction n95 with
        | zero =>
          intro x4 x5 x6 x7 t_block t_cost t_first H locs ls hres
          rw [fMD_finds_95] at hres
          cases hres
        | succ n95 ih95 =>
          have hK257 : ∀ (x4 : Int32) (x5 : Int32) (x6 : Int32) (x7 : Int32) (x9 : Int32) (s1 : Int32) (s2 : Int32) (t_block : Nat → Int32) (t_cost : Nat → Int32) (t_first : Nat → Int32) (H : Heap) (locs : List Loc) (ls : Array Slot), fMD_finds_257 (fMD_finds_17 t_s t_wrong x1 x2 x3 n17) (fMD_finds_95 t_s t_wrong x1 x2 x3 (fMD_finds_17 t_s t_wrong x1 x2 x3 n17) n95) x4 x5 x6 x7 x9 s1 s2 t_block t_cost t_first = some (y_t_block, y_t_cost, y_t_first) → va_P (dC, dI) vwCl [(h_t, .inr (10, [.ref h_t_s, .ref h_t_was, .ref h_t_begun, .int t_states, .ref h_t_text, .int t_typed, .ref h_t_wrong, .ref h_t_cost, .ref h_t_first, .ref h_t_block, .ref h_t_many, .ref h_t_stack, .int t_height, .ref h_t_written, .int t_length, .ref h_t_own, .ref h_t_levelAt, .ref h_t_itemAt, .ref h_t_times, .int t_at, .int t_ownLength, .int t_depth, .int t_deepest, .int t_letters, .int t_repeats, .int t_corrections, .int t_mostCorrections, .int t_place, .int t_reason])), (h_t_block, .inl (cI, 3125, .inl t_block)), (h_t_cost, .inl (cI, 3125, .inl t_cost)), (h_t_first, .inl (cI, 3125, .inl t_first)), (h_t_s, .inl (cI, 30, .inl t_s)), (h_t_wrong, .inl (cI, 15625, .inl t_wrong))] H → va_D A [(h_t, .inr (10, [.ref h_t_s, .ref h_t_was, .ref h_t_begun, .int t_states, .ref h_t_text, .int t_typed, .ref h_t_wrong, .ref h_t_cost, .ref h_t_first, .ref h_t_block, .ref h_t_many, .ref h_t_stack, .int t_height, .ref h_t_written, .int t_length, .ref h_t_own, .ref h_t_levelAt, .ref h_t_itemAt, .ref h_t_times, .int t_at, .int t_ownLength, .int t_depth, .int t_deepest, .int t_letters, .int t_repeats, .int t_corrections, .int t_mostCorrections, .int t_place, .int t_reason])), (h_t_block, .inl (cI, 3125, .inl t_block)), (h_t_cost, .inl (cI, 3125, .inl t_cost)), (h_t_first, .inl (cI, 3125, .inl t_first)), (h_t_s, .inl (cI, 30, .inl t_s)), (h_t_wrong, .inl (cI, 15625, .inl t_wrong))] → va_S A s.heap H locs → lv_has ls 10 [(0, .ref h_t), (1, .int x1), (2, .int x2), (3, .int x3), (4, .int x4), (5, .int x5), (6, .int x6), (7, .int x7), (9, .int x9)] → W p l e (headSpec wsX11_finds ({ frames := 1, cells := 0, slots := 0, locals := 22 } : Room)).room s m args below meth c H locs 0 0 QQ (F0 m 257 ls [.int s2, .int s1, .ref h_t_block]) := by
            intro x4 x5 x6 x7 x9 s1 s2 t_block t_cost t_first H locs ls hres hP hD hS hl
            rw [fMD_finds_257] at hres
            obtain ⟨c_15, hres⟩ := ck_of hres
            refine va_iast hx hb hK hP hD hS 1 0 rfl rfl c_15 dX11_finds_257 (fun H locs hP hD hS => ?_)
            have hP : va_P (dC, dI) vwCl [(h_t, .inr (10, [.ref h_t_s, .ref h_t_was, .ref h_t_begun, .int t_states, .ref h_t_text, .int t_typed, .ref h_t_wrong, .ref h_t_cost, .ref h_t_first, .ref h_t_block, .ref h_t_many, .ref h_t_stack, .int t_height, .ref h_t_written, .int t_length, .ref h_t_own, .ref h_t_levelAt, .ref h_t_itemAt, .ref h_t_times, .int t_at, .int t_ownLength, .int t_depth, .int t_deepest, .int t_letters, .int t_repeats, .int t_corrections, .int t_mostCorrections, .int t_place, .int t_reason])), (h_t_block, .inl (cI, 3125, .inl (wr t_block s1 s2))), (h_t_cost, .inl (cI, 3125, .inl t_cost)), (h_t_first, .inl (cI, 3125, .inl t_first)), (h_t_s, .inl (cI, 30, .inl t_s)), (h_t_wrong, .inl (cI, 15625, .inl t_wrong))] H := hP
            have hD : va_D A [(h_t, .inr (10, [.ref h_t_s, .ref h_t_was, .ref h_t_begun, .int t_states, .ref h_t_text, .int t_typed, .ref h_t_wrong, .ref h_t_cost, .ref h_t_first, .ref h_t_block, .ref h_t_many, .ref h_t_stack, .int t_height, .ref h_t_written, .int t_length, .ref h_t_own, .ref h_t_levelAt, .ref h_t_itemAt, .ref h_t_times, .int t_at, .int t_ownLength, .int t_depth, .int t_deepest, .int t_letters, .int t_repeats, .int t_corrections, .int t_mostCorrections, .int t_place, .int t_reason])), (h_t_block, .inl (cI, 3125, .inl (wr t_block s1 s2))), (h_t_cost, .inl (cI, 3125, .inl t_cost)), (h_t_first, .inl (cI, 3125, .inl t_first)), (h_t_s, .inl (cI, 30, .inl t_s)), (h_t_wrong, .inl (cI, 15625, .inl t_wrong))] := hD
            refine lv_iload hx hb dX11_finds_258 (lv_at hl 8 rfl) ?_
            refine lv_iload hx hb dX11_finds_260 (lv_at hl 4 rfl) ?_
            refine lv_icmp_ge (tgt := 270) hx hb dX11_finds_262 (by decide) (fun c_16 => ?_) (fun c_16 => ?_)
            · have hres := it_of hres c_16
              refine lv_iload hx hb dX11_finds_270 (lv_at hl 4 rfl) ?_
              refine lv_istore (lv' := [(4, .int x4), (0, .ref h_t), (1, .int x1), (2, .int x2), (3, .int x3), (5, .int x5), (6, .int x6), (7, .int x7), (9, .int x9)]) hx hb dX11_finds_272 hl (by decide) rfl (fun ls hl => ?_)
              refine lv_iinc (v := (x7 + 1)) (lv' := [(7, .int (x7 + 1)), (4, .int x4), (0, .ref h_t), (1, .int x1), (2, .int x2), (3, .int x3), (5, .int x5), (6, .int x6), (9, .int x9)]) hx hb dX11_finds_274 hl (k := 7) rfl rfl (by decide) rfl (fun ls hl => ?_)
              refine lv_goto (tgt := 95) hx hb dX11_finds_277 (by decide) ?_
              exact ih95 x4 x5 x6 (x7 + 1) (wr t_block s1 s2) t_cost t_first H locs ls hres hP hD hS (lv_sub hl [2, 3, 4, 5, 1, 6, 7, 0] rfl)
            · have hres := ie_of hres c_16
              refine lv_iload hx hb dX11_finds_265 (lv_at hl 8 rfl) ?_
              refine lv_goto (tgt := 272) hx hb dX11_finds_267 (by decide) ?_
              refine lv_istore (lv' := [(4, .int x9), (0, .ref h_t), (1, .int x1), (2, .int x2), (3, .int x3), (5, .int x5), (6, .int x6), (7, .int x7), (9, .int x9)]) hx hb dX11_finds_272 hl (by decide) rfl (fun ls hl => ?_)
              refine lv_iinc (v := (x7 + 1)) (lv' := [(7, .int (x7 + 1)), (4, .int x9), (0, .ref h_t), (1, .int x1), (2, .int x2), (3, .int x3), (5, .int x5), (6, .int x6), (9, .int x9)]) hx hb dX11_finds_274 hl (k := 7) rfl rfl (by decide) rfl (fun ls hl => ?_)
              refine lv_goto (tgt := 95) hx hb dX11_finds_277 (by decide) ?_
              exact ih95 x9 x5 x6 (x7 + 1) (wr t_block s1 s2) t_cost t_first H locs ls hres hP hD hS (lv_sub hl [2, 3, 4, 5, 1, 6, 7, 0] rfl)
          have hK231 : ∀ (x4 : Int32) (x5 : Int32) (x6 : Int32) (x7 : Int32) (x9 : Int32) (s1 : Int32) (s2 : Int32) (t_block : Nat → Int32) (t_cost : Nat → Int32) (t_first : Nat → Int32) (H : Heap) (locs : List Loc) (ls : Array Slot), fMD_finds_231 (fMD_finds_17 t_s t_wrong x1 x2 x3 n17) (fMD_finds_95 t_s t_wrong x1 x2 x3 (fMD_finds_17 t_s t_wrong x1 x2 x3 n17) n95) x4 x5 x6 x7 x9 s1 s2 t_block t_cost t_first = some (y_t_block, y_t_cost, y_t_first) → va_P (dC, dI) vwCl [(h_t, .inr (10, [.ref h_t_s, .ref h_t_was, .ref h_t_begun, .int t_states, .ref h_t_text, .int t_typed, .ref h_t_wrong, .ref h_t_cost, .ref h_t_first, .ref h_t_block, .ref h_t_many, .ref h_t_stack, .int t_height, .ref h_t_written, .int t_length, .ref h_t_own, .ref h_t_levelAt, .ref h_t_itemAt, .ref h_t_times, .int t_at, .int t_ownLength, .int t_depth, .int t_deepest, .int t_letters, .int t_repeats, .int t_corrections, .int t_mostCorrections, .int t_place, .int t_reason])), (h_t_block, .inl (cI, 3125, .inl t_block)), (h_t_cost, .inl (cI, 3125, .inl t_cost)), (h_t_first, .inl (cI, 3125, .inl t_first)), (h_t_s, .inl (cI, 30, .inl t_s)), (h_t_wrong, .inl (cI, 15625, .inl t_wrong))] H → va_D A [(h_t, .inr (10, [.ref h_t_s, .ref h_t_was, .ref h_t_begun, .int t_states, .ref h_t_text, .int t_typed, .ref h_t_wrong, .ref h_t_cost, .ref h_t_first, .ref h_t_block, .ref h_t_many, .ref h_t_stack, .int t_height, .ref h_t_written, .int t_length, .ref h_t_own, .ref h_t_levelAt, .ref h_t_itemAt, .ref h_t_times, .int t_at, .int t_ownLength, .int t_depth, .int t_deepest, .int t_letters, .int t_repeats, .int t_corrections, .int t_mostCorrections, .int t_place, .int t_reason])), (h_t_block, .inl (cI, 3125, .inl t_block)), (h_t_cost, .inl (cI, 3125, .inl t_cost)), (h_t_first, .inl (cI, 3125, .inl t_first)), (h_t_s, .inl (cI, 30, .inl t_s)), (h_t_wrong, .inl (cI, 15625, .inl t_wrong))] → va_S A s.heap H locs → lv_has ls 10 [(0, .ref h_t), (1, .int x1), (2, .int x2), (3, .int x3), (4, .int x4), (5, .int x5), (6, .int x6), (7, .int x7), (9, .int x9)] → W p l e (headSpec wsX11_finds ({ frames := 1, cells := 0, slots := 0, locals := 22 } : Room)).room s m args below meth c H locs 0 0 QQ (F0 m 231 ls [.int s2, .int s1, .ref h_t_first]) := by
            intro x4 x5 x6 x7 x9 s1 s2 t_block t_cost t_first H locs ls hres hP hD hS hl
            rw [fMD_finds_231] at hres
            obtain ⟨c_17, hres⟩ := ck_of hres
            refine va_iast hx hb hK hP hD hS 3 0 rfl rfl c_17 dX11_finds_231 (fun H locs hP hD hS => ?_)
            have hP : va_P (dC, dI) vwCl [(h_t, .inr (10, [.ref h_t_s, .ref h_t_was, .ref h_t_begun, .int t_states, .ref h_t_text, .int t_typed, .ref h_t_wrong, .ref h_t_cost, .ref h_t_first, .ref h_t_block, .ref h_t_many, .ref h_t_stack, .int t_height, .ref h_t_written, .int t_length, .ref h_t_own, .ref h_t_levelAt, .ref h_t_itemAt, .ref h_t_times, .int t_at, .int t_ownLength, .int t_depth, .int t_deepest, .int t_letters, .int t_repeats, .int t_corrections, .int t_mostCorrections, .int t_place, .int t_reason])), (h_t_block, .inl (cI, 3125, .inl t_block)), (h_t_cost, .inl (cI, 3125, .inl t_cost)), (h_t_first, .inl (cI, 3125, .inl (wr t_first s1 s2))), (h_t_s, .inl (cI, 30, .inl t_s)), (h_t_wrong, .inl (cI, 15625, .inl t_wrong))] H := hP
            have hD : va_D A [(h_t, .inr (10, [.ref h_t_s, .ref h_t_was, .ref h_t_begun, .int t_states, .ref h_t_text, .int t_typed, .ref h_t_wrong, .ref h_t_cost, .ref h_t_first, .ref h_t_block, .ref h_t_many, .ref h_t_stack, .int t_height, .ref h_t_written, .int t_length, .ref h_t_own, .ref h_t_levelAt, .ref h_t_itemAt, .ref h_t_times, .int t_at, .int t_ownLength, .int t_depth, .int t_deepest, .int t_letters, .int t_repeats, .int t_corrections, .int t_mostCorrections, .int t_place, .int t_reason])), (h_t_block, .inl (cI, 3125, .inl t_block)), (h_t_cost, .inl (cI, 3125, .inl t_cost)), (h_t_first, .inl (cI, 3125, .inl (wr t_first s1 s2))), (h_t_s, .inl (cI, 30, .inl t_s)), (h_t_wrong, .inl (cI, 15625, .inl t_wrong))] := hD
            refine lv_aload_n hx hb dX11_finds_232 rfl (lv_at hl 0 rfl) ?_
            refine va_get (D := (dC, dI)) (ci := 10) (v := .ref h_t_block) (C := RX11) (T := TX11) (N := 29) hx hb hts iMD_finds_X11_finds_1 hown hK hP 0 rfl rfl 9 (by decide) (hts _ kMD_finds_X11_finds_4) (fun _ h9 => h9) rfl dX11_finds_233 ?_
            refine lv_iload hx hb dX11_finds_236 (lv_at hl 5 rfl) ?_
            refine lv_iload hx hb dX11_finds_238 (lv_at hl 8 rfl) ?_
            refine lv_iload hx hb dX11_finds_240 (lv_at hl 4 rfl) ?_
            refine lv_icmp_ge (tgt := 250) hx hb dX11_finds_242 (by decide) (fun c_18 => ?_) (fun c_18 => ?_)
            · have hres := it_of hres c_18
              refine lv_aload_n hx hb dX11_finds_250 rfl (lv_at hl 0 rfl) ?_
              refine va_get (D := (dC, dI)) (ci := 10) (v := .ref h_t_block) (C := RX11) (T := TX11) (N := 29) hx hb hts iMD_finds_X11_finds_1 hown hK hP 0 rfl rfl 9 (by decide) (hts _ kMD_finds_X11_finds_4) (fun _ h9 => h9) rfl dX11_finds_251 ?_
              refine lv_iload hx hb dX11_finds_254 (lv_at hl 5 rfl) ?_
              obtain ⟨c_19, hres⟩ := ck_of hres
              refine va_iald hx hb hK hP 1 0 rfl rfl c_19 dX11_finds_256 ?_
              exact hK257 x4 x5 x6 x7 x9 x5 (rd t_block x5) t_block t_cost (wr t_first s1 s2) H locs ls hres hP hD hS (lv_sub hl [0, 1, 2, 3, 4, 5, 6, 7, 8] rfl)
            · have hres := ie_of hres c_18
              refine lv_iload hx hb dX11_finds_245 (lv_at hl 7 rfl) ?_
              refine lv_goto (tgt := 257) hx hb dX11_finds_247 (by decide) ?_
              exact hK257 x4 x5 x6 x7 x9 x5 x7 t_block t_cost (wr t_first s1 s2) H locs ls hres hP hD hS (lv_sub hl [0, 1, 2, 3, 4, 5, 6, 7, 8] rfl)
          have hK143 : ∀ (x4 : Int32) (x5 : Int32) (x6 : Int32) (x7 : Int32) (s0 : Int32) (t_block : Nat → Int32) (t_cost : Nat → Int32) (t_first : Nat → Int32) (H : Heap) (locs : List Loc) (ls : Array Slot), fMD_finds_143 t_s x1 x2 x3 (fMD_finds_17 t_s t_wrong x1 x2 x3 n17) (fMD_finds_95 t_s t_wrong x1 x2 x3 (fMD_finds_17 t_s t_wrong x1 x2 x3 n17) n95) x4 x5 x6 x7 s0 t_block t_cost t_first = some (y_t_block, y_t_cost, y_t_first) → va_P (dC, dI) vwCl [(h_t, .inr (10, [.ref h_t_s, .ref h_t_was, .ref h_t_begun, .int t_states, .ref h_t_text, .int t_typed, .ref h_t_wrong, .ref h_t_cost, .ref h_t_first, .ref h_t_block, .ref h_t_many, .ref h_t_stack, .int t_height, .ref h_t_written, .int t_length, .ref h_t_own, .ref h_t_levelAt, .ref h_t_itemAt, .ref h_t_times, .int t_at, .int t_ownLength, .int t_depth, .int t_deepest, .int t_letters, .int t_repeats, .int t_corrections, .int t_mostCorrections, .int t_place, .int t_reason])), (h_t_block, .inl (cI, 3125, .inl t_block)), (h_t_cost, .inl (cI, 3125, .inl t_cost)), (h_t_first, .inl (cI, 3125, .inl t_first)), (h_t_s, .inl (cI, 30, .inl t_s)), (h_t_wrong, .inl (cI, 15625, .inl t_wrong))] H → va_D A [(h_t, .inr (10, [.ref h_t_s, .ref h_t_was, .ref h_t_begun, .int t_states, .ref h_t_text, .int t_typed, .ref h_t_wrong, .ref h_t_cost, .ref h_t_first, .ref h_t_block, .ref h_t_many, .ref h_t_stack, .int t_height, .ref h_t_written, .int t_length, .ref h_t_own, .ref h_t_levelAt, .ref h_t_itemAt, .ref h_t_times, .int t_at, .int t_ownLength, .int t_depth, .int t_deepest, .int t_letters, .int t_repeats, .int t_corrections, .int t_mostCorrections, .int t_place, .int t_reason])), (h_t_block, .inl (cI, 3125, .inl t_block)), (h_t_cost, .inl (cI, 3125, .inl t_cost)), (h_t_first, .inl (cI, 3125, .inl t_first)), (h_t_s, .inl (cI, 30, .inl t_s)), (h_t_wrong, .inl (cI, 15625, .inl t_wrong))] → va_S A s.heap H locs → lv_has ls 10 [(0, .ref h_t), (1, .int x1), (2, .int x2), (3, .int x3), (4, .int x4), (5, .int x5), (6, .int x6), (7, .int x7)] → W p l e (headSpec wsX11_finds ({ frames := 1, cells := 0, slots := 0, locals := 22 } : Room)).room s m args below meth c H locs 0 0 QQ (F0 m 143 ls [.int s0]) := by
            intro x4 x5 x6 x7 s0 t_block t_cost t_first H locs ls hres hP hD hS hl
            rw [fMD_finds_143] at hres
            refine lv_istore (lv' := [(8, .int s0), (0, .ref h_t), (1, .int x1), (2, .int x2), (3, .int x3), (4, .int x4), (5, .int x5), (6, .int x6), (7, .int x7)]) hx hb dX11_finds_143 hl (by decide) rfl (fun ls hl => ?_)
            refine lv_iload hx hb dX11_finds_145 (lv_at hl 0 rfl) ?_
            refine lv_aload_n hx hb dX11_finds_147 rfl (lv_at hl 1 rfl) ?_
            refine va_get (D := (dC, dI)) (ci := 10) (v := .ref h_t_s) (C := RX11) (T := TX11) (N := 29) hx hb hts iMD_finds_X11_finds_1 hown hK hP 0 rfl rfl 0 (by decide) (hts _ kMD_finds_X11_finds_0) (fun _ h9 => h9) rfl dX11_finds_148 ?_
            refine lv_iconst (v := (4 : Int32)) hx hb dX11_finds_151 (by decide) ?_
            refine va_iald hx hb hK hP 4 0 rfl rfl (vin (by decide)) dX11_finds_152 ?_
            refine lv_icmp_gt (tgt := 274) hx hb dX11_finds_153 (by decide) (fun c_1 => ?_) (fun c_1 => ?_)
            · have hres := it_of hres c_1
              refine lv_iinc (v := (x7 + 1)) (lv' := [(7, .int (x7 + 1)), (8, .int s0), (0, .ref h_t), (1, .int x1), (2, .int x2), (3, .int x3), (4, .int x4), (5, .int x5), (6, .int x6)]) hx hb dX11_finds_274 hl (k := 8) rfl rfl (by decide) rfl (fun ls hl => ?_)
              refine lv_goto (tgt := 95) hx hb dX11_finds_277 (by decide) ?_
              exact ih95 x4 x5 x6 (x7 + 1) t_block t_cost t_first H locs ls hres hP hD hS (lv_sub hl [2, 3, 4, 5, 6, 7, 8, 0] rfl)
            · have hres := ie_of hres c_1
              refine lv_aload_n hx hb dX11_finds_156 rfl (lv_at hl 1 rfl) ?_
              refine va_get (D := (dC, dI)) (ci := 10) (v := .ref h_t_s) (C := RX11) (T := TX11) (N := 29) hx hb hts iMD_finds_X11_finds_1 hown hK hP 0 rfl rfl 0 (by decide) (hts _ kMD_finds_X11_finds_0) (fun _ h9 => h9) rfl dX11_finds_157 ?_
              refine lv_iconst (v := (2 : Int32)) hx hb dX11_finds_160 (by decide) ?_
              refine va_iald hx hb hK hP 4 0 rfl rfl (vin (by decide)) dX11_finds_161 ?_
              refine lv_aload_n hx hb dX11_finds_162 rfl (lv_at hl 1 rfl) ?_
              refine va_get (D := (dC, dI)) (ci := 10) (v := .ref h_t_cost) (C := RX11) (T := TX11) (N := 29) hx hb hts iMD_finds_X11_finds_1 hown hK hP 0 rfl rfl 7 (by decide) (hts _ kMD_finds_X11_finds_2) (fun _ h9 => h9) rfl dX11_finds_163 ?_
              refine lv_iload_n hx hb dX11_finds_166 rfl (lv_at hl 2 rfl) ?_
              refine lv_iconst (v := (1 : Int32)) hx hb dX11_finds_167 (by decide) ?_
              refine lv_isub hx hb dX11_finds_168 ?_
              refine lv_iload_n hx hb dX11_finds_169 rfl (lv_at hl 3 rfl) ?_
              refine lv_iload_n hx hb dX11_finds_170 rfl (lv_at hl 3 rfl) ?_
              refine lv_iload hx hb dX11_finds_171 (lv_at hl 8 rfl) ?_
              refine lv_iadd hx hb dX11_finds_173 ?_
              obtain ⟨o2, ho2, hres⟩ := bd_of hres
              have hPc := hP.sub (ws' := []) [] rfl
              have hDc := hD.sub (ws' := []) [] (by decide) rfl
              have hFc := va_free (wc := []) hD hS hA [] rfl
              refine va_calli (va_runS (As := [.int (x1 - (1 : Int32)), .int x2, .int (x2 + x7)]) (rest := [.ref h_t_cost, .int (rd t_s (2 : Int32))]) ⟨hx, hb, hml, hown, hts⟩ (cMD_part l dC dI cI cJ cC cS H.size (x1 - (1 : Int32)) x2 (x2 + x7) o2 ho2) (va_cwS 3 hts gX11_finds_X11_part rfl rfl rfl (by decide +kernel) ⟨Nat.le_of_ble_eq_true rfl, Nat.le_of_ble_eq_true rfl⟩) ⟨fun a U g mk q => by obtain ⟨q0, q1, qP, qK, qN, qD⟩ := q; exact ⟨q0, q1, qP, va_K.moved (u := U) (U := U.calling g mk a) (Vm.Alike.refl U.vm) qK, nwS (u := U) (U := U.calling g mk a) rfl qN, qD⟩, fun U hU hW => ⟨rfl, by rw [hU], by rw [hU]; exact hPc, va_K.moved hW.alike hK, nwW hW hN, hDc.weaken (fun _ _ _ _ => trivial)⟩⟩ rfl rfl hl.1 rfl (lv_room (Nat.le_of_ble_eq_true rfl)) dX11_finds_174 ⟨Nat.zero_le _, Nat.zero_le _⟩) hS (fun q _ h => hFc q h) hFc (fun r9 u9 t H1 locs ht hvm hw hB hz1 hk1 hS => ?_)
              have hw := hw.symm
              subst hw
              obtain ⟨hP1, hK1, hD1⟩ := hB
              rw [ht] at hP1
              obtain ⟨hP, hD⟩ := va_join (wr := [(h_t, .inr (10, [.ref h_t_s, .ref h_t_was, .ref h_t_begun, .int t_states, .ref h_t_text, .int t_typed, .ref h_t_wrong, .ref h_t_cost, .ref h_t_first, .ref h_t_block, .ref h_t_many, .ref h_t_stack, .int t_height, .ref h_t_written, .int t_length, .ref h_t_own, .ref h_t_levelAt, .ref h_t_itemAt, .ref h_t_times, .int t_at, .int t_ownLength, .int t_depth, .int t_deepest, .int t_letters, .int t_repeats, .int t_corrections, .int t_mostCorrections, .int t_place, .int t_reason])), (h_t_block, .inl (cI, 3125, .inl t_block)), (h_t_cost, .inl (cI, 3125, .inl t_cost)), (h_t_first, .inl (cI, 3125, .inl t_first)), (h_t_s, .inl (cI, 30, .inl t_s)), (h_t_wrong, .inl (cI, 15625, .inl t_wrong))]) (w1 := []) hP hD [] [0, 1, 2, 3, 4, 5] rfl rfl (by decide) (by decide) hk1 hFc hP1 hD1
              generalize H1 = H at hP hS ⊢
              have hP : va_P (dC, dI) vwCl [(h_t, .inr (10, [.ref h_t_s, .ref h_t_was, .ref h_t_begun, .int t_states, .ref h_t_text, .int t_typed, .ref h_t_wrong, .ref h_t_cost, .ref h_t_first, .ref h_t_block, .ref h_t_many, .ref h_t_stack, .int t_height, .ref h_t_written, .int t_length, .ref h_t_own, .ref h_t_levelAt, .ref h_t_itemAt, .ref h_t_times, .int t_at, .int t_ownLength, .int t_depth, .int t_deepest, .int t_letters, .int t_repeats, .int t_corrections, .int t_mostCorrections, .int t_place, .int t_reason])), (h_t_block, .inl (cI, 3125, .inl t_block)), (h_t_cost, .inl (cI, 3125, .inl t_cost)), (h_t_first, .inl (cI, 3125, .inl t_first)), (h_t_s, .inl (cI, 30, .inl t_s)), (h_t_wrong, .inl (cI, 15625, .inl t_wrong))] H := hP
              have hD : va_D A [(h_t, .inr (10, [.ref h_t_s, .ref h_t_was, .ref h_t_begun, .int t_states, .ref h_t_text, .int t_typed, .ref h_t_wrong, .ref h_t_cost, .ref h_t_first, .ref h_t_block, .ref h_t_many, .ref h_t_stack, .int t_height, .ref h_t_written, .int t_length, .ref h_t_own, .ref h_t_levelAt, .ref h_t_itemAt, .ref h_t_times, .int t_at, .int t_ownLength, .int t_depth, .int t_deepest, .int t_letters, .int t_repeats, .int t_corrections, .int t_mostCorrections, .int t_place, .int t_reason])), (h_t_block, .inl (cI, 3125, .inl t_block)), (h_t_cost, .inl (cI, 3125, .inl t_cost)), (h_t_first, .inl (cI, 3125, .inl t_first)), (h_t_s, .inl (cI, 30, .inl t_s)), (h_t_wrong, .inl (cI, 15625, .inl t_wrong))] := hD
              obtain ⟨c_3, hres⟩ := ck_of hres
              refine va_iald hx hb hK hP 2 0 rfl rfl c_3 dX11_finds_177 ?_
              refine lv_iadd hx hb dX11_finds_178 ?_
              refine lv_aload_n hx hb dX11_finds_179 rfl (lv_at hl 1 rfl) ?_
              refine va_get (D := (dC, dI)) (ci := 10) (v := .ref h_t_s) (C := RX11) (T := TX11) (N := 29) hx hb hts iMD_finds_X11_finds_1 hown hK hP 0 rfl rfl 0 (by decide) (hts _ kMD_finds_X11_finds_0) (fun _ h9 => h9) rfl dX11_finds_180 ?_
              refine lv_iconst (v := (3 : Int32)) hx hb dX11_finds_183 (by decide) ?_
              refine va_iald hx hb hK hP 4 0 rfl rfl (vin (by decide)) dX11_finds_184 ?_
              refine lv_iload hx hb dX11_finds_185 (lv_at hl 0 rfl) ?_
              refine lv_imul hx hb dX11_finds_187 ?_
              refine lv_iadd hx hb dX11_finds_188 ?_
              refine lv_aload_n hx hb dX11_finds_189 rfl (lv_at hl 1 rfl) ?_
              refine va_get (D := (dC, dI)) (ci := 10) (v := .ref h_t_cost) (C := RX11) (T := TX11) (N := 29) hx hb hts iMD_finds_X11_finds_1 hown hK hP 0 rfl rfl 7 (by decide) (hts _ kMD_finds_X11_finds_2) (fun _ h9 => h9) rfl dX11_finds_190 ?_
              refine lv_iload_n hx hb dX11_finds_193 rfl (lv_at hl 2 rfl) ?_
              refine lv_iload_n hx hb dX11_finds_194 rfl (lv_at hl 3 rfl) ?_
              refine lv_iload hx hb dX11_finds_195 (lv_at hl 7 rfl) ?_
              refine lv_iadd hx hb dX11_finds_197 ?_
              refine lv_iload_n hx hb dX11_finds_198 rfl (lv_at hl 4 rfl) ?_
              obtain ⟨o4, ho4, hres⟩ := bd_of hres
              have hPc := hP.sub (ws' := []) [] rfl
              have hDc := hD.sub (ws' := []) [] (by decide) rfl
              have hFc := va_free (wc := []) hD hS hA [] rfl
              refine va_calli (va_runS (As := [.int x1, .int (x2 + x6), .int x3]) (rest := [.ref h_t_cost, .int (((rd t_s (2 : Int32)) + (rd t_cost o2)) + ((rd t_s (3 : Int32)) * s0))]) ⟨hx, hb, hml, hown, hts⟩ (cMD_part l dC dI cI cJ cC cS H.size x1 (x2 + x6) x3 o4 ho4) (va_cwS 3 hts gX11_finds_X11_part rfl rfl rfl (by decide +kernel) ⟨Nat.le_of_ble_eq_true rfl, Nat.le_of_ble_eq_true rfl⟩) ⟨fun a U g mk q => by obtain ⟨q0, q1, qP, qK, qN, qD⟩ := q; exact ⟨q0, q1, qP, va_K.moved (u := U) (U := U.calling g mk a) (Vm.Alike.refl U.vm) qK, nwS (u := U) (U := U.calling g mk a) rfl qN, qD⟩, fun U hU hW => ⟨rfl, by rw [hU], by rw [hU]; exact hPc, va_K.moved hW.alike hK, nwW hW hN, hDc.weaken (fun _ _ _ _ => trivial)⟩⟩ rfl rfl hl.1 rfl (lv_room (Nat.le_of_ble_eq_true rfl)) dX11_finds_199 ⟨Nat.zero_le _, Nat.zero_le _⟩) hS (fun q _ h => hFc q h) hFc (fun r9 u9 t H1 locs ht hvm hw hB hz1 hk1 hS => ?_)
              have hw := hw.symm
              subst hw
              obtain ⟨hP1, hK1, hD1⟩ := hB
              rw [ht] at hP1
              obtain ⟨hP, hD⟩ := va_join (wr := [(h_t, .inr (10, [.ref h_t_s, .ref h_t_was, .ref h_t_begun, .int t_states, .ref h_t_text, .int t_typed, .ref h_t_wrong, .ref h_t_cost, .ref h_t_first, .ref h_t_block, .ref h_t_many, .ref h_t_stack, .int t_height, .ref h_t_written, .int t_length, .ref h_t_own, .ref h_t_levelAt, .ref h_t_itemAt, .ref h_t_times, .int t_at, .int t_ownLength, .int t_depth, .int t_deepest, .int t_letters, .int t_repeats, .int t_corrections, .int t_mostCorrections, .int t_place, .int t_reason])), (h_t_block, .inl (cI, 3125, .inl t_block)), (h_t_cost, .inl (cI, 3125, .inl t_cost)), (h_t_first, .inl (cI, 3125, .inl t_first)), (h_t_s, .inl (cI, 30, .inl t_s)), (h_t_wrong, .inl (cI, 15625, .inl t_wrong))]) (w1 := []) hP hD [] [0, 1, 2, 3, 4, 5] rfl rfl (by decide) (by decide) hk1 hFc hP1 hD1
              generalize H1 = H at hP hS ⊢
              have hP : va_P (dC, dI) vwCl [(h_t, .inr (10, [.ref h_t_s, .ref h_t_was, .ref h_t_begun, .int t_states, .ref h_t_text, .int t_typed, .ref h_t_wrong, .ref h_t_cost, .ref h_t_first, .ref h_t_block, .ref h_t_many, .ref h_t_stack, .int t_height, .ref h_t_written, .int t_length, .ref h_t_own, .ref h_t_levelAt, .ref h_t_itemAt, .ref h_t_times, .int t_at, .int t_ownLength, .int t_depth, .int t_deepest, .int t_letters, .int t_repeats, .int t_corrections, .int t_mostCorrections, .int t_place, .int t_reason])), (h_t_block, .inl (cI, 3125, .inl t_block)), (h_t_cost, .inl (cI, 3125, .inl t_cost)), (h_t_first, .inl (cI, 3125, .inl t_first)), (h_t_s, .inl (cI, 30, .inl t_s)), (h_t_wrong, .inl (cI, 15625, .inl t_wrong))] H := hP
              have hD : va_D A [(h_t, .inr (10, [.ref h_t_s, .ref h_t_was, .ref h_t_begun, .int t_states, .ref h_t_text, .int t_typed, .ref h_t_wrong, .ref h_t_cost, .ref h_t_first, .ref h_t_block, .ref h_t_many, .ref h_t_stack, .int t_height, .ref h_t_written, .int t_length, .ref h_t_own, .ref h_t_levelAt, .ref h_t_itemAt, .ref h_t_times, .int t_at, .int t_ownLength, .int t_depth, .int t_deepest, .int t_letters, .int t_repeats, .int t_corrections, .int t_mostCorrections, .int t_place, .int t_reason])), (h_t_block, .inl (cI, 3125, .inl t_block)), (h_t_cost, .inl (cI, 3125, .inl t_cost)), (h_t_first, .inl (cI, 3125, .inl t_first)), (h_t_s, .inl (cI, 30, .inl t_s)), (h_t_wrong, .inl (cI, 15625, .inl t_wrong))] := hD
              obtain ⟨c_5, hres⟩ := ck_of hres
              refine va_iald hx hb hK hP 2 0 rfl rfl c_5 dX11_finds_202 ?_
              refine lv_iadd hx hb dX11_finds_203 ?_
              refine lv_istore (lv' := [(9, .int ((((rd t_s (2 : Int32)) + (rd t_cost o2)) + ((rd t_s (3 : Int32)) * s0)) + (rd t_cost o4))), (8, .int s0), (0, .ref h_t), (1, .int x1), (2, .int x2), (3, .int x3), (4, .int x4), (5, .int x5), (6, .int x6), (7, .int x7)]) hx hb dX11_finds_204 hl (by decide) rfl (fun ls hl => ?_)
              refine lv_aload_n hx hb dX11_finds_206 rfl (lv_at hl 2 rfl) ?_
              refine va_get (D := (dC, dI)) (ci := 10) (v := .ref h_t_first) (C := RX11) (T := TX11) (N := 29) hx hb hts iMD_finds_X11_finds_1 hown hK hP 0 rfl rfl 8 (by decide) (hts _ kMD_finds_X11_finds_3) (fun _ h9 => h9) rfl dX11_finds_207 ?_
              refine lv_iload hx hb dX11_finds_210 (lv_at hl 7 rfl) ?_
              refine lv_iload hx hb dX11_finds_212 (lv_at hl 0 rfl) ?_
              refine lv_iload hx hb dX11_finds_214 (lv_at hl 6 rfl) ?_
              refine lv_icmp_ge (tgt := 224) hx hb dX11_finds_216 (by decide) (fun c_6 => ?_) (fun c_6 => ?_)
              · have hres := it_of hres c_6
                refine lv_aload_n hx hb dX11_finds_224 rfl (lv_at hl 2 rfl) ?_
                refine va_get (D := (dC, dI)) (ci := 10) (v := .ref h_t_first) (C := RX11) (T := TX11) (N := 29) hx hb hts iMD_finds_X11_finds_1 hown hK hP 0 rfl rfl 8 (by decide) (hts _ kMD_finds_X11_finds_3) (fun _ h9 => h9) rfl dX11_finds_225 ?_
                refine lv_iload hx hb dX11_finds_228 (lv_at hl 7 rfl) ?_
                obtain ⟨c_7, hres⟩ := ck_of hres
                refine va_iald hx hb hK hP 3 0 rfl rfl c_7 dX11_finds_230 ?_
                exact hK231 x4 x5 x6 x7 ((((rd t_s (2 : Int32)) + (rd t_cost o2)) + ((rd t_s (3 : Int32)) * s0)) + (rd t_cost o4)) x5 (rd t_first x5) t_block t_cost t_first H locs ls hres hP hD hS (lv_sub hl [2, 3, 4, 5, 6, 7, 8, 9, 0] rfl)
              · have hres := ie_of hres c_6
                refine lv_iload hx hb dX11_finds_219 (lv_at hl 8 rfl) ?_
                refine lv_goto (tgt := 231) hx hb dX11_finds_221 (by decide) ?_
                exact hK231 x4 x5 x6 x7 ((((rd t_s (2 : Int32)) + (rd t_cost o2)) + ((rd t_s (3 : Int32)) * s0)) + (rd t_cost o4)) x5 x6 t_block t_cost t_first H locs ls hres hP hD hS (lv_sub hl [2, 3, 4, 5, 6, 7, 8, 9, 0] rfl)
          intro x4 x5 x6 x7 t_block t_cost t_first H locs ls hres hP hD hS hl
          rw [fMD_finds_95] at hres
          refine lv_iconst (v := (2 : Int32)) hx hb dX11_finds_95 (by decide) ?_
          refine lv_iload hx hb dX11_finds_96 (lv_at hl 7 rfl) ?_
          refine lv_imul hx hb dX11_finds_98 ?_
          refine lv_iload hx hb dX11_finds_99 (lv_at hl 6 rfl) ?_
          refine lv_icmp_gt (tgt := 280) hx hb dX11_finds_101 (by decide) (fun c_22 => ?_) (fun c_22 => ?_)
          · have hres := it_of hres c_22
            refine lv_iinc (v := (x6 + (-1))) (lv' := [(6, .int (x6 + (-1))), (0, .ref h_t), (1, .int x1), (2, .int x2), (3, .int x3), (4, .int x4), (5, .int x5), (7, .int x7)]) hx hb dX11_finds_280 hl (k := 6) rfl rfl (by decide) rfl (fun ls hl => ?_)
            refine lv_goto (tgt := 17) hx hb dX11_finds_283 (by decide) ?_
            exact ih17 x4 x5 (x6 + (-1)) t_block t_cost t_first H locs ls hres hP hD hS (lv_sub hl [1, 2, 3, 4, 5, 6, 0] rfl)
          · have hres := ie_of hres c_22
            refine lv_iload_n hx hb dX11_finds_104 rfl (lv_at hl 1 rfl) ?_
            refine lv_if_le (tgt := 280) hx hb dX11_finds_105 (by decide) (fun c_23 => ?_) (fun c_23 => ?_)
            · have hres := it_of hres c_23
              refine lv_iinc (v := (x6 + (-1))) (lv' := [(6, .int (x6 + (-1))), (0, .ref h_t), (1, .int x1), (2, .int x2), (3, .int x3), (4, .int x4), (5, .int x5), (7, .int x7)]) hx hb dX11_finds_280 hl (k := 6) rfl rfl (by decide) rfl (fun ls hl => ?_)
              refine lv_goto (tgt := 17) hx hb dX11_finds_283 (by decide) ?_
              exact ih17 x4 x5 (x6 + (-1)) t_block t_cost t_first H locs ls hres hP hD hS (lv_sub hl [1, 2, 3, 4, 5, 6, 0] rfl)
            · have hres := ie_of hres c_23
              refine lv_iload hx hb dX11_finds_108 (lv_at hl 6 rfl) ?_
              refine lv_iload hx hb dX11_finds_110 (lv_at hl 7 rfl) ?_
              obtain ⟨c_24, hres⟩ := nz_of hres
              refine lv_irem hx hb dX11_finds_112 c_24 ?_
              refine lv_if_ne (tgt := 141) hx hb dX11_finds_113 (by decide) (fun c_25 => ?_) (fun c_25 => ?_)
              · have hres := ie_of hres c_25
                refine lv_ldc (v := (1000000 : Int32)) hx hb hown (hts _ kMD_finds_X11_finds_5) dX11_finds_141 ?_
                exact hK143 x4 x5 x6 x7 (1000000 : Int32) t_block t_cost t_first H locs ls hres hP hD hS (lv_sub hl [0, 1, 2, 3, 4, 5, 6, 7] rfl)
              · have hres := it_of hres c_25
                refine lv_aload_n hx hb dX11_finds_116 rfl (lv_at hl 0 rfl) ?_
                refine va_get (D := (dC, dI)) (ci := 10) (v := .ref h_t_wrong) (C := RX11) (T := TX11) (N := 29) hx hb hts iMD_finds_X11_finds_1 hown hK hP 0 rfl rfl 6 (by decide) (hts _ kMD_finds_X11_finds_6) (fun _ h9 => h9) rfl dX11_finds_117 ?_
                refine lv_sipush (v := (625 : Int32)) hx hb dX11_finds_120 (by decide) ?_
                refine lv_iload_n hx hb dX11_finds_123 rfl (lv_at hl 2 rfl) ?_
                refine lv_imul hx hb dX11_finds_124 ?_
                refine lv_bipush (v := (25 : Int32)) hx hb dX11_finds_125 (by decide) ?_
                refine lv_iload hx hb dX11_finds_127 (lv_at hl 7 rfl) ?_
                refine lv_imul hx hb dX11_finds_129 ?_
                refine lv_iadd hx hb dX11_finds_130 ?_
                refine lv_iload hx hb dX11_finds_131 (lv_at hl 6 rfl) ?_
                refine lv_iload hx hb dX11_finds_133 (lv_at hl 7 rfl) ?_
                obtain ⟨c_26, hres⟩ := nz_of hres
                refine lv_idiv hx hb dX11_finds_135 c_26 ?_
                refine lv_iadd hx hb dX11_finds_136 ?_
                obtain ⟨c_27, hres⟩ := ck_of hres
                refine va_iald hx hb hK hP 5 0 rfl rfl c_27 dX11_finds_137 ?_
                refine lv_goto (tgt := 143) hx hb dX11_finds_138 (by decide) ?_
                exact hK143 x4 x5 x6 x7 (rd t_wrong ((((625 : Int32) * x2) + ((25 : Int32) * x7)) + (x6 / x7))) t_block t_cost t_first H locs ls hres hP hD hS (lv_sub hl [0, 1, 2, 3, 4, 5, 6, 7] rfl)
      have hK75 : ∀ (x4 : Int32) (x5 : Int32) (x6 : Int32) (x7 : Int32) (s1 : Int32) (s2 : Int32) (t_block : Nat → Int32) (t_cost : Nat → Int32) (t_first : Nat → Int32) (H : Heap) (locs : List Loc) (ls : Array Slot), fMD_finds_75 t_s t_wrong x1 x2 x3 (fMD_finds_17 t_s t_wrong x1 x2 x3 n17) x4 x5 x6 x7 s1 s2 t_block t_cost t_first = some (y_t_block, y_t_cost, y_t_first) → va_P (dC, dI) vwCl [(h_t, .inr (10, [.ref h_t_s, .ref h_t_was, .ref h_t_begun, .int t_states, .ref h_t_text, .int t_typed, .ref h_t_wrong, .ref h_t_cost, .ref h_t_first, .ref h_t_block, .ref h_t_many, .ref h_t_stack, .int t_height, .ref h_t_written, .int t_length, .ref h_t_own, .ref h_t_levelAt, .ref h_t_itemAt, .ref h_t_times, .int t_at, .int t_ownLength, .int t_depth, .int t_deepest, .int t_letters, .int t_repeats, .int t_corrections, .int t_mostCorrections, .int t_place, .int t_reason])), (h_t_block, .inl (cI, 3125, .inl t_block)), (h_t_cost, .inl (cI, 3125, .inl t_cost)), (h_t_first, .inl (cI, 3125, .inl t_first)), (h_t_s, .inl (cI, 30, .inl t_s)), (h_t_wrong, .inl (cI, 15625, .inl t_wrong))] H → va_D A [(h_t, .inr (10, [.ref h_t_s, .ref h_t_was, .ref h_t_begun, .int t_states, .ref h_t_text, .int t_typed, .ref h_t_wrong, .ref h_t_cost, .ref h_t_first, .ref h_t_block, .ref h_t_many, .ref h_t_stack, .int t_height, .ref h_t_written, .int t_length, .ref h_t_own, .ref h_t_levelAt, .ref h_t_itemAt, .ref h_t_times, .int t_at, .int t_ownLength, .int t_depth, .int t_deepest, .int t_letters, .int t_repeats, .int t_corrections, .int t_mostCorrections, .int t_place, .int t_reason])), (h_t_block, .inl (cI, 3125, .inl t_block)), (h_t_cost, .inl (cI, 3125, .inl t_cost)), (h_t_first, .inl (cI, 3125, .inl t_first)), (h_t_s, .inl (cI, 30, .inl t_s)), (h_t_wrong, .inl (cI, 15625, .inl t_wrong))] → va_S A s.heap H locs → lv_has ls 10 [(0, .ref h_t), (1, .int x1), (2, .int x2), (3, .int x3), (4, .int x4), (5, .int x5), (6, .int x6), (7, .int x7)] → W p l e (headSpec wsX11_finds ({ frames := 1, cells := 0, slots := 0, locals := 22 } : Room)).room s m args below meth c H locs 0 0 QQ (F0 m 75 ls [.int s2, .int s1, .ref h_t_first]) := by
        intro x4 x5 x6 x7 s1 s2 t_block t_cost t_first H locs ls hres hP hD hS hl
        rw [fMD_finds_75] at hres
        obtain ⟨c_20, hres⟩ := ck_of hres
        refine va_iast hx hb hK hP hD hS 3 0 rfl rfl c_20 dX11_finds_75 (fun H locs hP hD hS => ?_)
        have hP : va_P (dC, dI) vwCl [(h_t, .inr (10, [.ref h_t_s, .ref h_t_was, .ref h_t_begun, .int t_states, .ref h_t_text, .int t_typed, .ref h_t_wrong, .ref h_t_cost, .ref h_t_first, .ref h_t_block, .ref h_t_many, .ref h_t_stack, .int t_height, .ref h_t_written, .int t_length, .ref h_t_own, .ref h_t_levelAt, .ref h_t_itemAt, .ref h_t_times, .int t_at, .int t_ownLength, .int t_depth, .int t_deepest, .int t_letters, .int t_repeats, .int t_corrections, .int t_mostCorrections, .int t_place, .int t_reason])), (h_t_block, .inl (cI, 3125, .inl t_block)), (h_t_cost, .inl (cI, 3125, .inl t_cost)), (h_t_first, .inl (cI, 3125, .inl (wr t_first s1 s2))), (h_t_s, .inl (cI, 30, .inl t_s)), (h_t_wrong, .inl (cI, 15625, .inl t_wrong))] H := hP
        have hD : va_D A [(h_t, .inr (10, [.ref h_t_s, .ref h_t_was, .ref h_t_begun, .int t_states, .ref h_t_text, .int t_typed, .ref h_t_wrong, .ref h_t_cost, .ref h_t_first, .ref h_t_block, .ref h_t_many, .ref h_t_stack, .int t_height, .ref h_t_written, .int t_length, .ref h_t_own, .ref h_t_levelAt, .ref h_t_itemAt, .ref h_t_times, .int t_at, .int t_ownLength, .int t_depth, .int t_deepest, .int t_letters, .int t_repeats, .int t_corrections, .int t_mostCorrections, .int t_place, .int t_reason])), (h_t_block, .inl (cI, 3125, .inl t_block)), (h_t_cost, .inl (cI, 3125, .inl t_cost)), (h_t_first, .inl (cI, 3125, .inl (wr t_first s1 s2))), (h_t_s, .inl (cI, 30, .inl t_s)), (h_t_wrong, .inl (cI, 15625, .inl t_wrong))] := hD
        refine lv_iload hx hb dX11_finds_76 (lv_at hl 7 rfl) ?_
        refine lv_iload hx hb dX11_finds_78 (lv_at hl 4 rfl) ?_
        refine lv_icmp_ge (tgt := 88) hx hb dX11_finds_80 (by decide) (fun c_21 => ?_) (fun c_21 => ?_)
        · have hres := it_of hres c_21
          refine lv_iload hx hb dX11_finds_88 (lv_at hl 4 rfl) ?_
          refine lv_istore (lv' := [(4, .int x4), (0, .ref h_t), (1, .int x1), (2, .int x2), (3, .int x3), (5, .int x5), (6, .int x6), (7, .int x7)]) hx hb dX11_finds_90 hl (by decide) rfl (fun ls hl => ?_)
          refine lv_iconst (v := (1 : Int32)) hx hb dX11_finds_92 (by decide) ?_
          refine lv_istore (lv' := [(7, .int (1 : Int32)), (4, .int x4), (0, .ref h_t), (1, .int x1), (2, .int x2), (3, .int x3), (5, .int x5), (6, .int x6)]) hx hb dX11_finds_93 hl (by decide) rfl (fun ls hl => ?_)
          exact hL95 FU x4 x5 x6 (1 : Int32) t_block t_cost (wr t_first s1 s2) H locs ls hres hP hD hS (lv_sub hl [2, 3, 4, 5, 1, 6, 7, 0] rfl)
        · have hres := ie_of hres c_21
          refine lv_iload hx hb dX11_finds_83 (lv_at hl 7 rfl) ?_
          refine lv_goto (tgt := 90) hx hb dX11_finds_85 (by decide) ?_
          refine lv_istore (lv' := [(4, .int x7), (0, .ref h_t), (1, .int x1), (2, .int x2), (3, .int x3), (5, .int x5), (6, .int x6), (7, .int x7)]) hx hb dX11_finds_90 hl (by decide) rfl (fun ls hl => ?_)
          refine lv_iconst (v := (1 : Int32)) hx hb dX11_finds_92 (by decide) ?_
          refine lv_istore (lv' := [(7, .int (1 : Int32)), (4, .int x7), (0, .ref h_t), (1, .int x1), (2, .int x2), (3, .int x3), (5, .int x5), (6, .int x6)]) hx hb dX11_finds_93 hl (by decide) rfl (fun ls hl => ?_)
          exact hL95 FU x7 x5 x6 (1 : Int32) t_block t_cost (wr t_first s1 s2) H locs ls hres hP hD hS (lv_sub hl [2, 3, 4, 5, 1, 6, 7, 0] rfl)
      intro x4 x5 x6 t_block t_cost t_first H locs ls hres hP hD hS hl
      rw [fMD_finds_17] at hres
      refine lv_iload hx hb dX11_finds_17 (lv_at hl 6 rfl) ?_
      refine lv_iconst (v := (1 : Int32)) hx hb dX11_finds_19 (by decide) ?_
      refine lv_icmp_lt (tgt := 286) hx hb dX11_finds_20 (by decide) (fun c_8 => ?_) (fun c_8 => ?_)
      · have hres := it_of hres c_8
        refine lv_aload_n hx hb dX11_finds_286 rfl (lv_at hl 0 rfl) ?_
        refine va_get (D := (dC, dI)) (ci := 10) (v := .ref h_t_cost) (C := RX11) (T := TX11) (N := 29) hx hb hts iMD_finds_X11_finds_1 hown hK hP 0 rfl rfl 7 (by decide) (hts _ kMD_finds_X11_finds_2) (fun _ h9 => h9) rfl dX11_finds_287 ?_
        refine lv_iload hx hb dX11_finds_290 (lv_at hl 5 rfl) ?_
        refine lv_iload hx hb dX11_finds_292 (lv_at hl 4 rfl) ?_
        obtain ⟨c_9, hres⟩ := ck_of hres
        refine va_iast hx hb hK hP hD hS 2 0 rfl rfl c_9 dX11_finds_294 (fun H locs hP hD hS => ?_)
        have hP : va_P (dC, dI) vwCl [(h_t, .inr (10, [.ref h_t_s, .ref h_t_was, .ref h_t_begun, .int t_states, .ref h_t_text, .int t_typed, .ref h_t_wrong, .ref h_t_cost, .ref h_t_first, .ref h_t_block, .ref h_t_many, .ref h_t_stack, .int t_height, .ref h_t_written, .int t_length, .ref h_t_own, .ref h_t_levelAt, .ref h_t_itemAt, .ref h_t_times, .int t_at, .int t_ownLength, .int t_depth, .int t_deepest, .int t_letters, .int t_repeats, .int t_corrections, .int t_mostCorrections, .int t_place, .int t_reason])), (h_t_block, .inl (cI, 3125, .inl t_block)), (h_t_cost, .inl (cI, 3125, .inl (wr t_cost x5 x4))), (h_t_first, .inl (cI, 3125, .inl t_first)), (h_t_s, .inl (cI, 30, .inl t_s)), (h_t_wrong, .inl (cI, 15625, .inl t_wrong))] H := hP
        have hD : va_D A [(h_t, .inr (10, [.ref h_t_s, .ref h_t_was, .ref h_t_begun, .int t_states, .ref h_t_text, .int t_typed, .ref h_t_wrong, .ref h_t_cost, .ref h_t_first, .ref h_t_block, .ref h_t_many, .ref h_t_stack, .int t_height, .ref h_t_written, .int t_length, .ref h_t_own, .ref h_t_levelAt, .ref h_t_itemAt, .ref h_t_times, .int t_at, .int t_ownLength, .int t_depth, .int t_deepest, .int t_letters, .int t_repeats, .int t_corrections, .int t_mostCorrections, .int t_place, .int t_reason])), (h_t_block, .inl (cI, 3125, .inl t_block)), (h_t_cost, .inl (cI, 3125, .inl (wr t_cost x5 x4))), (h_t_first, .inl (cI, 3125, .inl t_first)), (h_t_s, .inl (cI, 30, .inl t_s)), (h_t_wrong, .inl (cI, 15625, .inl t_wrong))] := hD
        obtain ⟨e9_0, e9_1, e9_2⟩ := tup3 hres
        subst e9_0
        subst e9_1
        subst e9_2
        rw [← hQQ]
        exact W.vret hx hb hr (fun t ht hW => ⟨⟨(), rfl, trivial, by rw [ht]; exact hP, va_K.moved hW.alike hK, hD⟩, hS.F ht⟩) hS.2.2 dX11_finds_295
      · have hres := ie_of hres c_8
        refine lv_iload hx hb dX11_finds_23 (lv_at hl 6 rfl) ?_
        refine lv_iconst (v := (1 : Int32)) hx hb dX11_finds_25 (by decide) ?_
        refine lv_icmp_ne (tgt := 92) hx hb dX11_finds_26 (by decide) (fun c_10 => ?_) (fun c_10 => ?_)
        · have hres := ie_of hres c_10
          refine lv_iconst (v := (1 : Int32)) hx hb dX11_finds_92 (by decide) ?_
          refine lv_istore (lv' := [(7, .int (1 : Int32)), (0, .ref h_t), (1, .int x1), (2, .int x2), (3, .int x3), (4, .int x4), (5, .int x5), (6, .int x6)]) hx hb dX11_finds_93 hl (by decide) rfl (fun ls hl => ?_)
          exact hL95 FU x4 x5 x6 (1 : Int32) t_block t_cost t_first H locs ls hres hP hD hS (lv_sub hl [1, 2, 3, 4, 5, 6, 7, 0] rfl)
        · have hres := it_of hres c_10
          refine lv_aload_n hx hb dX11_finds_29 rfl (lv_at hl 0 rfl) ?_
          refine va_get (D := (dC, dI)) (ci := 10) (v := .ref h_t_s) (C := RX11) (T := TX11) (N := 29) hx hb hts iMD_finds_X11_finds_1 hown hK hP 0 rfl rfl 0 (by decide) (hts _ kMD_finds_X11_finds_0) (fun _ h9 => h9) rfl dX11_finds_30 ?_
          refine lv_iconst (v := (1 : Int32)) hx hb dX11_finds_33 (by decide) ?_
          refine va_iald hx hb hK hP 4 0 rfl rfl (vin (by decide)) dX11_finds_34 ?_
          refine lv_aload_n hx hb dX11_finds_35 rfl (lv_at hl 0 rfl) ?_
          refine va_get (D := (dC, dI)) (ci := 10) (v := .ref h_t_cost) (C := RX11) (T := TX11) (N := 29) hx hb hts iMD_finds_X11_finds_1 hown hK hP 0 rfl rfl 7 (by decide) (hts _ kMD_finds_X11_finds_2) (fun _ h9 => h9) rfl dX11_finds_36 ?_
          refine lv_iload_n hx hb dX11_finds_39 rfl (lv_at hl 1 rfl) ?_
          refine lv_iload_n hx hb dX11_finds_40 rfl (lv_at hl 2 rfl) ?_
          refine lv_iconst (v := (1 : Int32)) hx hb dX11_finds_41 (by decide) ?_
          refine lv_iadd hx hb dX11_finds_42 ?_
          refine lv_iload_n hx hb dX11_finds_43 rfl (lv_at hl 3 rfl) ?_
          obtain ⟨o11, ho11, hres⟩ := bd_of hres
          have hPc := hP.sub (ws' := []) [] rfl
          have hDc := hD.sub (ws' := []) [] (by decide) rfl
          have hFc := va_free (wc := []) hD hS hA [] rfl
          refine va_calli (va_runS (As := [.int x1, .int (x2 + (1 : Int32)), .int x3]) (rest := [.ref h_t_cost, .int (rd t_s (1 : Int32))]) ⟨hx, hb, hml, hown, hts⟩ (cMD_part l dC dI cI cJ cC cS H.size x1 (x2 + (1 : Int32)) x3 o11 ho11) (va_cwS 3 hts gX11_finds_X11_part rfl rfl rfl (by decide +kernel) ⟨Nat.le_of_ble_eq_true rfl, Nat.le_of_ble_eq_true rfl⟩) ⟨fun a U g mk q => by obtain ⟨q0, q1, qP, qK, qN, qD⟩ := q; exact ⟨q0, q1, qP, va_K.moved (u := U) (U := U.calling g mk a) (Vm.Alike.refl U.vm) qK, nwS (u := U) (U := U.calling g mk a) rfl qN, qD⟩, fun U hU hW => ⟨rfl, by rw [hU], by rw [hU]; exact hPc, va_K.moved hW.alike hK, nwW hW hN, hDc.weaken (fun _ _ _ _ => trivial)⟩⟩ rfl rfl hl.1 rfl (lv_room (Nat.le_of_ble_eq_true rfl)) dX11_finds_44 ⟨Nat.zero_le _, Nat.zero_le _⟩) hS (fun q _ h => hFc q h) hFc (fun r9 u9 t H1 locs ht hvm hw hB hz1 hk1 hS => ?_)
          have hw := hw.symm
          subst hw
          obtain ⟨hP1, hK1, hD1⟩ := hB
          rw [ht] at hP1
          obtain ⟨hP, hD⟩ := va_join (wr := [(h_t, .inr (10, [.ref h_t_s, .ref h_t_was, .ref h_t_begun, .int t_states, .ref h_t_text, .int t_typed, .ref h_t_wrong, .ref h_t_cost, .ref h_t_first, .ref h_t_block, .ref h_t_many, .ref h_t_stack, .int t_height, .ref h_t_written, .int t_length, .ref h_t_own, .ref h_t_levelAt, .ref h_t_itemAt, .ref h_t_times, .int t_at, .int t_ownLength, .int t_depth, .int t_deepest, .int t_letters, .int t_repeats, .int t_corrections, .int t_mostCorrections, .int t_place, .int t_reason])), (h_t_block, .inl (cI, 3125, .inl t_block)), (h_t_cost, .inl (cI, 3125, .inl t_cost)), (h_t_first, .inl (cI, 3125, .inl t_first)), (h_t_s, .inl (cI, 30, .inl t_s)), (h_t_wrong, .inl (cI, 15625, .inl t_wrong))]) (w1 := []) hP hD [] [0, 1, 2, 3, 4, 5] rfl rfl (by decide) (by decide) hk1 hFc hP1 hD1
          generalize H1 = H at hP hS ⊢
          have hP : va_P (dC, dI) vwCl [(h_t, .inr (10, [.ref h_t_s, .ref h_t_was, .ref h_t_begun, .int t_states, .ref h_t_text, .int t_typed, .ref h_t_wrong, .ref h_t_cost, .ref h_t_first, .ref h_t_block, .ref h_t_many, .ref h_t_stack, .int t_height, .ref h_t_written, .int t_length, .ref h_t_own, .ref h_t_levelAt, .ref h_t_itemAt, .ref h_t_times, .int t_at, .int t_ownLength, .int t_depth, .int t_deepest, .int t_letters, .int t_repeats, .int t_corrections, .int t_mostCorrections, .int t_place, .int t_reason])), (h_t_block, .inl (cI, 3125, .inl t_block)), (h_t_cost, .inl (cI, 3125, .inl t_cost)), (h_t_first, .inl (cI, 3125, .inl t_first)), (h_t_s, .inl (cI, 30, .inl t_s)), (h_t_wrong, .inl (cI, 15625, .inl t_wrong))] H := hP
          have hD : va_D A [(h_t, .inr (10, [.ref h_t_s, .ref h_t_was, .ref h_t_begun, .int t_states, .ref h_t_text, .int t_typed, .ref h_t_wrong, .ref h_t_cost, .ref h_t_first, .ref h_t_block, .ref h_t_many, .ref h_t_stack, .int t_height, .ref h_t_written, .int t_length, .ref h_t_own, .ref h_t_levelAt, .ref h_t_itemAt, .ref h_t_times, .int t_at, .int t_ownLength, .int t_depth, .int t_deepest, .int t_letters, .int t_repeats, .int t_corrections, .int t_mostCorrections, .int t_place, .int t_reason])), (h_t_block, .inl (cI, 3125, .inl t_block)), (h_t_cost, .inl (cI, 3125, .inl t_cost)), (h_t_first, .inl (cI, 3125, .inl t_first)), (h_t_s, .inl (cI, 30, .inl t_s)), (h_t_wrong, .inl (cI, 15625, .inl t_wrong))] := hD
          obtain ⟨c_12, hres⟩ := ck_of hres
          refine va_iald hx hb hK hP 2 0 rfl rfl c_12 dX11_finds_47 ?_
          refine lv_iadd hx hb dX11_finds_48 ?_
          refine lv_istore (lv' := [(7, .int ((rd t_s (1 : Int32)) + (rd t_cost o11))), (0, .ref h_t), (1, .int x1), (2, .int x2), (3, .int x3), (4, .int x4), (5, .int x5), (6, .int x6)]) hx hb dX11_finds_49 hl (by decide) rfl (fun ls hl => ?_)
          refine lv_aload_n hx hb dX11_finds_51 rfl (lv_at hl 1 rfl) ?_
          refine va_get (D := (dC, dI)) (ci := 10) (v := .ref h_t_first) (C := RX11) (T := TX11) (N := 29) hx hb hts iMD_finds_X11_finds_1 hown hK hP 0 rfl rfl 8 (by decide) (hts _ kMD_finds_X11_finds_3) (fun _ h9 => h9) rfl dX11_finds_52 ?_
          refine lv_iload hx hb dX11_finds_55 (lv_at hl 6 rfl) ?_
          refine lv_iload hx hb dX11_finds_57 (lv_at hl 0 rfl) ?_
          refine lv_iload hx hb dX11_finds_59 (lv_at hl 5 rfl) ?_
          refine lv_icmp_ge (tgt := 68) hx hb dX11_finds_61 (by decide) (fun c_13 => ?_) (fun c_13 => ?_)
          · have hres := it_of hres c_13
            refine lv_aload_n hx hb dX11_finds_68 rfl (lv_at hl 1 rfl) ?_
            refine va_get (D := (dC, dI)) (ci := 10) (v := .ref h_t_first) (C := RX11) (T := TX11) (N := 29) hx hb hts iMD_finds_X11_finds_1 hown hK hP 0 rfl rfl 8 (by decide) (hts _ kMD_finds_X11_finds_3) (fun _ h9 => h9) rfl dX11_finds_69 ?_
            refine lv_iload hx hb dX11_finds_72 (lv_at hl 6 rfl) ?_
            obtain ⟨c_14, hres⟩ := ck_of hres
            refine va_iald hx hb hK hP 3 0 rfl rfl c_14 dX11_finds_74 ?_
            exact hK75 x4 x5 x6 ((rd t_s (1 : Int32)) + (rd t_cost o11)) x5 (rd t_first x5) t_block t_cost t_first H locs ls hres hP hD hS (lv_sub hl [1, 2, 3, 4, 5, 6, 7, 0] rfl)
          · have hres := ie_of hres c_13
            refine lv_iconst (v := (1 : Int32)) hx hb dX11_finds_64 (by decide) ?_
            refine lv_goto (tgt := 75) hx hb dX11_finds_65 (by decide) ?_
            exact hK75 x4 x5 x6 ((rd t_s (1 : Int32)) + (rd t_cost o11)) x5 (1 : Int32) t_block t_cost t_first H locs ls hres hP hD hS (lv_sub hl [1, 2, 3, 4, 5, 6, 7, 0] rfl)
  rw [fMD_finds] at hres
  refine lv_ldc (v := (1000000 : Int32)) hx hb hown (hts _ kMD_finds_X11_finds_5) dX11_finds_0 ?_
  refine lv_istore (lv' := [(4, .int (1000000 : Int32)), (0, .ref h_t), (1, .int x1), (2, .int x2), (3, .int x3)]) hx hb dX11_finds_2 hl (by decide) rfl (fun ls hl => ?_)
  refine lv_iload_n hx hb dX11_finds_4 rfl (lv_at hl 2 rfl) ?_
  refine lv_iload_n hx hb dX11_finds_5 rfl (lv_at hl 3 rfl) ?_
  refine lv_iload_n hx hb dX11_finds_6 rfl (lv_at hl 4 rfl) ?_
  obtain ⟨o28, ho28, hres⟩ := bd_of hres
  have hPc := hP.sub (ws' := []) [] rfl
  have hDc := hD.sub (ws' := []) [] (by decide) rfl
  have hFc := va_free (wc := []) hD hS hA [] rfl
  refine va_calli (va_runS (As := [.int x1, .int x2, .int x3]) (rest := []) ⟨hx, hb, hml, hown, hts⟩ (cMD_part l dC dI cI cJ cC cS H.size x1 x2 x3 o28 ho28) (va_cwS 3 hts gX11_finds_X11_part rfl rfl rfl (by decide +kernel) ⟨Nat.le_of_ble_eq_true rfl, Nat.le_of_ble_eq_true rfl⟩) ⟨fun a U g mk q => by obtain ⟨q0, q1, qP, qK, qN, qD⟩ := q; exact ⟨q0, q1, qP, va_K.moved (u := U) (U := U.calling g mk a) (Vm.Alike.refl U.vm) qK, nwS (u := U) (U := U.calling g mk a) rfl qN, qD⟩, fun U hU hW => ⟨rfl, by rw [hU], by rw [hU]; exact hPc, va_K.moved hW.alike hK, nwW hW hN, hDc.weaken (fun _ _ _ _ => trivial)⟩⟩ rfl rfl hl.1 rfl (lv_room (Nat.le_of_ble_eq_true rfl)) dX11_finds_7 ⟨Nat.zero_le _, Nat.zero_le _⟩) hS (fun q _ h => hFc q h) hFc (fun r9 u9 t H1 locs ht hvm hw hB hz1 hk1 hS => ?_)
  have hw := hw.symm
  subst hw
  obtain ⟨hP1, hK1, hD1⟩ := hB
  rw [ht] at hP1
  obtain ⟨hP, hD⟩ := va_join (wr := [(h_t, .inr (10, [.ref h_t_s, .ref h_t_was, .ref h_t_begun, .int t_states, .ref h_t_text, .int t_typed, .ref h_t_wrong, .ref h_t_cost, .ref h_t_first, .ref h_t_block, .ref h_t_many, .ref h_t_stack, .int t_height, .ref h_t_written, .int t_length, .ref h_t_own, .ref h_t_levelAt, .ref h_t_itemAt, .ref h_t_times, .int t_at, .int t_ownLength, .int t_depth, .int t_deepest, .int t_letters, .int t_repeats, .int t_corrections, .int t_mostCorrections, .int t_place, .int t_reason])), (h_t_block, .inl (cI, 3125, .inl t_block)), (h_t_cost, .inl (cI, 3125, .inl t_cost)), (h_t_first, .inl (cI, 3125, .inl t_first)), (h_t_s, .inl (cI, 30, .inl t_s)), (h_t_wrong, .inl (cI, 15625, .inl t_wrong))]) (w1 := []) hP hD [] [0, 1, 2, 3, 4, 5] rfl rfl (by decide) (by decide) hk1 hFc hP1 hD1
  generalize H1 = H at hP hS ⊢
  have hP : va_P (dC, dI) vwCl [(h_t, .inr (10, [.ref h_t_s, .ref h_t_was, .ref h_t_begun, .int t_states, .ref h_t_text, .int t_typed, .ref h_t_wrong, .ref h_t_cost, .ref h_t_first, .ref h_t_block, .ref h_t_many, .ref h_t_stack, .int t_height, .ref h_t_written, .int t_length, .ref h_t_own, .ref h_t_levelAt, .ref h_t_itemAt, .ref h_t_times, .int t_at, .int t_ownLength, .int t_depth, .int t_deepest, .int t_letters, .int t_repeats, .int t_corrections, .int t_mostCorrections, .int t_place, .int t_reason])), (h_t_block, .inl (cI, 3125, .inl t_block)), (h_t_cost, .inl (cI, 3125, .inl t_cost)), (h_t_first, .inl (cI, 3125, .inl t_first)), (h_t_s, .inl (cI, 30, .inl t_s)), (h_t_wrong, .inl (cI, 15625, .inl t_wrong))] H := hP
  have hD : va_D A [(h_t, .inr (10, [.ref h_t_s, .ref h_t_was, .ref h_t_begun, .int t_states, .ref h_t_text, .int t_typed, .ref h_t_wrong, .ref h_t_cost, .ref h_t_first, .ref h_t_block, .ref h_t_many, .ref h_t_stack, .int t_height, .ref h_t_written, .int t_length, .ref h_t_own, .ref h_t_levelAt, .ref h_t_itemAt, .ref h_t_times, .int t_at, .int t_ownLength, .int t_depth, .int t_deepest, .int t_letters, .int t_repeats, .int t_corrections, .int t_mostCorrections, .int t_place, .int t_reason])), (h_t_block, .inl (cI, 3125, .inl t_block)), (h_t_cost, .inl (cI, 3125, .inl t_cost)), (h_t_first, .inl (cI, 3125, .inl t_first)), (h_t_s, .inl (cI, 30, .inl t_s)), (h_t_wrong, .inl (cI, 15625, .inl t_wrong))] := hD
  refine lv_istore (lv' := [(5, .int o28), (4, .int (1000000 : Int32)), (0, .ref h_t), (1, .int x1), (2, .int x2), (3, .int x3)]) hx hb dX11_finds_10 hl (by decide) rfl (fun ls hl => ?_)
  refine lv_iload_n hx hb dX11_finds_12 rfl (lv_at hl 5 rfl) ?_
  refine lv_iload_n hx hb dX11_finds_13 rfl (lv_at hl 4 rfl) ?_
  refine lv_isub hx hb dX11_finds_14 ?_
  refine lv_istore (lv' := [(6, .int (x3 - x2)), (5, .int o28), (4, .int (1000000 : Int32)), (0, .ref h_t), (1, .int x1), (2, .int x2), (3, .int x3)]) hx hb dX11_finds_15 hl (by decide) rfl (fun ls hl => ?_)
  exact hL17 FU (1000000 : Int32) o28 (x3 - x2) t_block t_cost t_first H locs ls hres hP hD hS (lv_sub hl [3, 4, 5, 6, 2, 1, 0] rfl)

-- MD_lays
def fMD_lays_43 (t_s : Nat → Int32) (k6 : Int32 → (Nat → Int32) → (Nat → Int32) → (Nat → Int32) → (Nat → Int32) → Option ((Nat → Int32) × (Nat → Int32) × (Nat → Int32) × (Nat → Int32))) (k23 : Int32 → Int32 → (Nat → Int32) → (Nat → Int32) → (Nat → Int32) → (Nat → Int32) → Option ((Nat → Int32) × (Nat → Int32) × (Nat → Int32) × (Nat → Int32))) : Nat → Int32 → Int32 → Int32 → (Nat → Int32) → (Nat → Int32) → (Nat → Int32) → (Nat → Int32) → Option ((Nat → Int32) × (Nat → Int32) × (Nat → Int32) × (Nat → Int32))
  | 0, _, _, _, _, _, _, _ => none
  | n + 1, x1, x2, x3, t_block, t_cost, t_first, t_wrong =>
    if (rd t_s (0 : Int32)) < x3 then
      k23 x1 (x2 + (-1)) t_block t_cost t_first t_wrong
    else
      (fMD_finds t_s t_wrong t_block t_cost t_first x1 x2 x3).bind fun o2 =>
        fMD_lays_43 t_s k6 k23 n x1 x2 (x3 + 1) o2.1 o2.2.1 o2.2.2 t_wrong
def fMD_lays_23 (t_s : Nat → Int32) (k6 : Int32 → (Nat → Int32) → (Nat → Int32) → (Nat → Int32) → (Nat → Int32) → Option ((Nat → Int32) × (Nat → Int32) × (Nat → Int32) × (Nat → Int32))) : Nat → Int32 → Int32 → (Nat → Int32) → (Nat → Int32) → (Nat → Int32) → (Nat → Int32) → Option ((Nat → Int32) × (Nat → Int32) × (Nat → Int32) × (Nat → Int32))
  | 0, _, _, _, _, _, _ => none
  | n + 1, x1, x2, t_block, t_cost, t_first, t_wrong =>
    if x2 < 0 then
      k6 (x1 + 1) t_block t_cost t_first t_wrong
    else
      (fMD_part x1 x2 x2).bind fun o5 =>
        if bIn o5 3125 = true then
          fMD_lays_43 t_s k6 (fMD_lays_23 t_s k6 n) FU x1 x2 (x2 + (1 : Int32)) t_block (wr t_cost o5 (0 : Int32)) t_first t_wrong
        else none
def fMD_lays_6 (t_s : Nat → Int32) : Nat → Int32 → (Nat → Int32) → (Nat → Int32) → (Nat → Int32) → (Nat → Int32) → Option ((Nat → Int32) × (Nat → Int32) × (Nat → Int32) × (Nat → Int32))
  | 0, _, _, _, _, _ => none
  | n + 1, x1, t_block, t_cost, t_first, t_wrong =>
    if (rd t_s (5 : Int32)) < x1 then
      some (t_block, t_cost, t_first, t_wrong)
    else
      fMD_lays_23 t_s (fMD_lays_6 t_s n) FU x1 (rd t_s (0 : Int32)) t_block t_cost t_first t_wrong
def fMD_lays (t_s : Nat → Int32) (t_block : Nat → Int32) (t_cost : Nat → Int32) (t_first : Nat → Int32) (t_wrong : Nat → Int32) : Option ((Nat → Int32) × (Nat → Int32) × (Nat → Int32) × (Nat → Int32)) :=
  (fMD_corrects t_s t_wrong).bind fun o7 =>
    fMD_lays_6 t_s FU (0 : Int32) t_block t_cost t_first o7
theorem kMD_lays_X11_lays_0 : Cond.fieldLink RX11 7 "RepeatNestsModel" "s" "[I" ∈ wsX11_lays := by decide +kernel
theorem iMD_lays_X11_lays_1 : ∀ w ∈ wsX110, w ∈ wsX11_lays := by decide +kernel
theorem kMD_lays_X11_lays_2 : Cond.fieldLink RX11 26 "RepeatNestsModel" "cost" "[I" ∈ wsX11_lays := by decide +kernel
set_option maxHeartbeats 4000000 in
set_option maxRecDepth 100000 in
theorem cMD_lays (l : Launch) (dC : Nat → ClassId) (dI : Nat → Nat → Nat) (cI cJ cC cS : ClassId) (h_t h_t_s h_t_was h_t_begun h_t_text h_t_wrong h_t_cost h_t_first h_t_block h_t_many h_t_stack h_t_written h_t_own h_t_levelAt h_t_itemAt h_t_times : Nat) (sz : Nat) (t_states : Int32) (t_typed : Int32) (t_height : Int32) (t_length : Int32) (t_at : Int32) (t_ownLength : Int32) (t_depth : Int32) (t_deepest : Int32) (t_letters : Int32) (t_repeats : Int32) (t_corrections : Int32) (t_mostCorrections : Int32) (t_place : Int32) (t_reason : Int32) (t_block : Nat → Int32) (t_cost : Nat → Int32) (t_first : Nat → Int32) (t_s : Nat → Int32) (t_wrong : Nat → Int32) (y_t_block : Nat → Int32) (y_t_cost : Nat → Int32) (y_t_first : Nat → Int32) (y_t_wrong : Nat → Int32) (hres : fMD_lays t_s t_block t_cost t_first t_wrong = some (y_t_block, y_t_cost, y_t_first, y_t_wrong)) :
    Met l yX11_lays wsX11_lays ({ frames := 2, cells := 0, slots := 0, locals := 51 } : Room) (va_Pc [.ref h_t] (fun (U : State) => U.heap.size = sz ∧ va_P (dC, dI) vwCl [(h_t, .inr (10, [.ref h_t_s, .ref h_t_was, .ref h_t_begun, .int t_states, .ref h_t_text, .int t_typed, .ref h_t_wrong, .ref h_t_cost, .ref h_t_first, .ref h_t_block, .ref h_t_many, .ref h_t_stack, .int t_height, .ref h_t_written, .int t_length, .ref h_t_own, .ref h_t_levelAt, .ref h_t_itemAt, .ref h_t_times, .int t_at, .int t_ownLength, .int t_depth, .int t_deepest, .int t_letters, .int t_repeats, .int t_corrections, .int t_mostCorrections, .int t_place, .int t_reason])), (h_t_block, .inl (cI, 3125, .inl t_block)), (h_t_cost, .inl (cI, 3125, .inl t_cost)), (h_t_first, .inl (cI, 3125, .inl t_first)), (h_t_s, .inl (cI, 30, .inl t_s)), (h_t_wrong, .inl (cI, 15625, .inl t_wrong))] U.heap ∧ va_K (dC, dI) vwCl (tyA cI cJ cC cS) U ∧ nwN U ∧ va_D (fun _ => True) [(h_t, .inr (10, [.ref h_t_s, .ref h_t_was, .ref h_t_begun, .int t_states, .ref h_t_text, .int t_typed, .ref h_t_wrong, .ref h_t_cost, .ref h_t_first, .ref h_t_block, .ref h_t_many, .ref h_t_stack, .int t_height, .ref h_t_written, .int t_length, .ref h_t_own, .ref h_t_levelAt, .ref h_t_itemAt, .ref h_t_times, .int t_at, .int t_ownLength, .int t_depth, .int t_deepest, .int t_letters, .int t_repeats, .int t_corrections, .int t_mostCorrections, .int t_place, .int t_reason])), (h_t_block, .inl (cI, 3125, .inl t_block)), (h_t_cost, .inl (cI, 3125, .inl t_cost)), (h_t_first, .inl (cI, 3125, .inl t_first)), (h_t_s, .inl (cI, 30, .inl t_s)), (h_t_wrong, .inl (cI, 15625, .inl t_wrong))])) (va_Qv (fun (_ : Unit) => True) (fun (_ : Unit) (t : State) => va_P (dC, dI) vwCl [(h_t, .inr (10, [.ref h_t_s, .ref h_t_was, .ref h_t_begun, .int t_states, .ref h_t_text, .int t_typed, .ref h_t_wrong, .ref h_t_cost, .ref h_t_first, .ref h_t_block, .ref h_t_many, .ref h_t_stack, .int t_height, .ref h_t_written, .int t_length, .ref h_t_own, .ref h_t_levelAt, .ref h_t_itemAt, .ref h_t_times, .int t_at, .int t_ownLength, .int t_depth, .int t_deepest, .int t_letters, .int t_repeats, .int t_corrections, .int t_mostCorrections, .int t_place, .int t_reason])), (h_t_block, .inl (cI, 3125, .inl y_t_block)), (h_t_cost, .inl (cI, 3125, .inl y_t_cost)), (h_t_first, .inl (cI, 3125, .inl y_t_first)), (h_t_s, .inl (cI, 30, .inl t_s)), (h_t_wrong, .inl (cI, 15625, .inl y_t_wrong))] t.heap ∧ va_K (dC, dI) vwCl (tyA cI cJ cC cS) t ∧ va_D (va_A [(h_t, .inr (10, [.ref h_t_s, .ref h_t_was, .ref h_t_begun, .int t_states, .ref h_t_text, .int t_typed, .ref h_t_wrong, .ref h_t_cost, .ref h_t_first, .ref h_t_block, .ref h_t_many, .ref h_t_stack, .int t_height, .ref h_t_written, .int t_length, .ref h_t_own, .ref h_t_levelAt, .ref h_t_itemAt, .ref h_t_times, .int t_at, .int t_ownLength, .int t_depth, .int t_deepest, .int t_letters, .int t_repeats, .int t_corrections, .int t_mostCorrections, .int t_place, .int t_reason])), (h_t_block, .inl (cI, 3125, .inl t_block)), (h_t_cost, .inl (cI, 3125, .inl t_cost)), (h_t_first, .inl (cI, 3125, .inl t_first)), (h_t_s, .inl (cI, 30, .inl t_s)), (h_t_wrong, .inl (cI, 15625, .inl t_wrong))] sz) [(h_t, .inr (10, [.ref h_t_s, .ref h_t_was, .ref h_t_begun, .int t_states, .ref h_t_text, .int t_typed, .ref h_t_wrong, .ref h_t_cost, .ref h_t_first, .ref h_t_block, .ref h_t_many, .ref h_t_stack, .int t_height, .ref h_t_written, .int t_length, .ref h_t_own, .ref h_t_levelAt, .ref h_t_itemAt, .ref h_t_times, .int t_at, .int t_ownLength, .int t_depth, .int t_deepest, .int t_letters, .int t_repeats, .int t_corrections, .int t_mostCorrections, .int t_place, .int t_reason])), (h_t_block, .inl (cI, 3125, .inl y_t_block)), (h_t_cost, .inl (cI, 3125, .inl y_t_cost)), (h_t_first, .inl (cI, 3125, .inl y_t_first)), (h_t_s, .inl (cI, 30, .inl t_s)), (h_t_wrong, .inl (cI, 15625, .inl y_t_wrong))]) (va_A [(h_t, .inr (10, [.ref h_t_s, .ref h_t_was, .ref h_t_begun, .int t_states, .ref h_t_text, .int t_typed, .ref h_t_wrong, .ref h_t_cost, .ref h_t_first, .ref h_t_block, .ref h_t_many, .ref h_t_stack, .int t_height, .ref h_t_written, .int t_length, .ref h_t_own, .ref h_t_levelAt, .ref h_t_itemAt, .ref h_t_times, .int t_at, .int t_ownLength, .int t_depth, .int t_deepest, .int t_letters, .int t_repeats, .int t_corrections, .int t_mostCorrections, .int t_place, .int t_reason])), (h_t_block, .inl (cI, 3125, .inl t_block)), (h_t_cost, .inl (cI, 3125, .inl t_cost)), (h_t_first, .inl (cI, 3125, .inl t_first)), (h_t_s, .inl (cI, 30, .inl t_s)), (h_t_wrong, .inl (cI, 15625, .inl t_wrong))] sz)) 0 0 (va_A [(h_t, .inr (10, [.ref h_t_s, .ref h_t_was, .ref h_t_begun, .int t_states, .ref h_t_text, .int t_typed, .ref h_t_wrong, .ref h_t_cost, .ref h_t_first, .ref h_t_block, .ref h_t_many, .ref h_t_stack, .int t_height, .ref h_t_written, .int t_length, .ref h_t_own, .ref h_t_levelAt, .ref h_t_itemAt, .ref h_t_times, .int t_at, .int t_ownLength, .int t_depth, .int t_deepest, .int t_letters, .int t_repeats, .int t_corrections, .int t_mostCorrections, .int t_place, .int t_reason])), (h_t_block, .inl (cI, 3125, .inl t_block)), (h_t_cost, .inl (cI, 3125, .inl t_cost)), (h_t_first, .inl (cI, 3125, .inl t_first)), (h_t_s, .inl (cI, 30, .inl t_s)), (h_t_wrong, .inl (cI, 15625, .inl t_wrong))] sz) := by
  refine Met.ofW (cc := cX11_lays) (maxL := 4) (ret := none) (by decide) rfl ?_
  intro p e s m args below meth c s₁ B hml hv
  obtain ⟨hargs, hsz, hP, hK, hN, hD0⟩ := hv
  have hx := B.exec
  have hb := B.bytes
  have hr := B.returns
  have hts := atoms_spec (ws := wsX11_lays) B.pre
  have hown : s.vm.findClass RX11 = some m.cls := findClass_of_methodNamed B.named
  have hlocks := B.notSynchronized
  subst hsz
  have hD := hD0.self (sz := s.heap.size)
  generalize hAe : va_A [(h_t, .inr (10, [.ref h_t_s, .ref h_t_was, .ref h_t_begun, .int t_states, .ref h_t_text, .int t_typed, .ref h_t_wrong, .ref h_t_cost, .ref h_t_first, .ref h_t_block, .ref h_t_many, .ref h_t_stack, .int t_height, .ref h_t_written, .int t_length, .ref h_t_own, .ref h_t_levelAt, .ref h_t_itemAt, .ref h_t_times, .int t_at, .int t_ownLength, .int t_depth, .int t_deepest, .int t_letters, .int t_repeats, .int t_corrections, .int t_mostCorrections, .int t_place, .int t_reason])), (h_t_block, .inl (cI, 3125, .inl t_block)), (h_t_cost, .inl (cI, 3125, .inl t_cost)), (h_t_first, .inl (cI, 3125, .inl t_first)), (h_t_s, .inl (cI, 30, .inl t_s)), (h_t_wrong, .inl (cI, 15625, .inl t_wrong))] s.heap.size = A at hD ⊢
  have hA : ∀ q : Nat, s.heap.size ≤ q → A q := fun q h => by rw [← hAe]; exact Or.inr h
  have hS : va_S A s.heap s.heap [] := va_S.rf
  have hP : va_P (dC, dI) vwCl [(h_t, .inr (10, [.ref h_t_s, .ref h_t_was, .ref h_t_begun, .int t_states, .ref h_t_text, .int t_typed, .ref h_t_wrong, .ref h_t_cost, .ref h_t_first, .ref h_t_block, .ref h_t_many, .ref h_t_stack, .int t_height, .ref h_t_written, .int t_length, .ref h_t_own, .ref h_t_levelAt, .ref h_t_itemAt, .ref h_t_times, .int t_at, .int t_ownLength, .int t_depth, .int t_deepest, .int t_letters, .int t_repeats, .int t_corrections, .int t_mostCorrections, .int t_place, .int t_reason])), (h_t_block, .inl (cI, 3125, .inl t_block)), (h_t_cost, .inl (cI, 3125, .inl t_cost)), (h_t_first, .inl (cI, 3125, .inl t_first)), (h_t_s, .inl (cI, 30, .inl t_s)), (h_t_wrong, .inl (cI, 15625, .inl t_wrong))] s.heap := hP
  have hl := lv_entry [.ref h_t] (n := 4) (Nat.le_of_ble_eq_true rfl)
  rw [show entryFrame m args 4 = entryFrame m ([.ref h_t] : List Value).toArray 4 from by rw [hargs], lg_entry_eq]
  generalize (lg_sl [.ref h_t] ++ List.replicate (4 - (lg_sl [.ref h_t]).length) Slot.unset).toArray = ls at hl ⊢
  have hl : lv_has ls 4 [(0, .ref h_t)] := hl
  generalize hQQ : MQ below (va_Qv (fun (_ : Unit) => True) (fun (_ : Unit) (t : State) => va_P (dC, dI) vwCl [(h_t, .inr (10, [.ref h_t_s, .ref h_t_was, .ref h_t_begun, .int t_states, .ref h_t_text, .int t_typed, .ref h_t_wrong, .ref h_t_cost, .ref h_t_first, .ref h_t_block, .ref h_t_many, .ref h_t_stack, .int t_height, .ref h_t_written, .int t_length, .ref h_t_own, .ref h_t_levelAt, .ref h_t_itemAt, .ref h_t_times, .int t_at, .int t_ownLength, .int t_depth, .int t_deepest, .int t_letters, .int t_repeats, .int t_corrections, .int t_mostCorrections, .int t_place, .int t_reason])), (h_t_block, .inl (cI, 3125, .inl y_t_block)), (h_t_cost, .inl (cI, 3125, .inl y_t_cost)), (h_t_first, .inl (cI, 3125, .inl y_t_first)), (h_t_s, .inl (cI, 30, .inl t_s)), (h_t_wrong, .inl (cI, 15625, .inl y_t_wrong))] t.heap ∧ va_K (dC, dI) vwCl (tyA cI cJ cC cS) t ∧ va_D A [(h_t, .inr (10, [.ref h_t_s, .ref h_t_was, .ref h_t_begun, .int t_states, .ref h_t_text, .int t_typed, .ref h_t_wrong, .ref h_t_cost, .ref h_t_first, .ref h_t_block, .ref h_t_many, .ref h_t_stack, .int t_height, .ref h_t_written, .int t_length, .ref h_t_own, .ref h_t_levelAt, .ref h_t_itemAt, .ref h_t_times, .int t_at, .int t_ownLength, .int t_depth, .int t_deepest, .int t_letters, .int t_repeats, .int t_corrections, .int t_mostCorrections, .int t_place, .int t_reason])), (h_t_block, .inl (cI, 3125, .inl y_t_block)), (h_t_cost, .inl (cI, 3125, .inl y_t_cost)), (h_t_first, .inl (cI, 3125, .inl y_t_first)), (h_t_s, .inl (cI, 30, .inl t_s)), (h_t_wrong, .inl (cI, 15625, .inl y_t_wrong))]) A) args s 0 0 A = QQ
  obtain ⟨H, hH⟩ : ∃ H : Heap, H = s.heap := ⟨_, rfl⟩
  obtain ⟨locs, hlocs⟩ : ∃ locs : List Loc, locs = [] := ⟨_, rfl⟩
  rw [← hH] at hP
  have hS : va_S A s.heap H locs := by rw [hH, hlocs]; exact hS
  suffices hZ : W p l e (headSpec wsX11_lays ({ frames := 2, cells := 0, slots := 0, locals := 51 } : Room)).room s m args below meth c H locs 0 0 QQ (F0 m 0 ls []) by rw [hH, hlocs] at hZ; exact hZ
  clear hH hlocs
  have hL6 : ∀ (n6 : Nat) , ∀ (x1 : Int32) (t_block : Nat → Int32) (t_cost : Nat → Int32) (t_first : Nat → Int32) (t_wrong : Nat → Int32) (H : Heap) (locs : List Loc) (ls : Array Slot), fMD_lays_6 t_s n6 x1 t_block t_cost t_first t_wrong = some (y_t_block, y_t_cost, y_t_first, y_t_wrong) → va_P (dC, dI) vwCl [(h_t, .inr (10, [.ref h_t_s, .ref h_t_was, .ref h_t_begun, .int t_states, .ref h_t_text, .int t_typed, .ref h_t_wrong, .ref h_t_cost, .ref h_t_first, .ref h_t_block, .ref h_t_many, .ref h_t_stack, .int t_height, .ref h_t_written, .int t_length, .ref h_t_own, .ref h_t_levelAt, .ref h_t_itemAt, .ref h_t_times, .int t_at, .int t_ownLength, .int t_depth, .int t_deepest, .int t_letters, .int t_repeats, .int t_corrections, .int t_mostCorrections, .int t_place, .int t_reason])), (h_t_block, .inl (cI, 3125, .inl t_block)), (h_t_cost, .inl (cI, 3125, .inl t_cost)), (h_t_first, .inl (cI, 3125, .inl t_first)), (h_t_s, .inl (cI, 30, .inl t_s)), (h_t_wrong, .inl (cI, 15625, .inl t_wrong))] H → va_D A [(h_t, .inr (10, [.ref h_t_s, .ref h_t_was, .ref h_t_begun, .int t_states, .ref h_t_text, .int t_typed, .ref h_t_wrong, .ref h_t_cost, .ref h_t_first, .ref h_t_block, .ref h_t_many, .ref h_t_stack, .int t_height, .ref h_t_written, .int t_length, .ref h_t_own, .ref h_t_levelAt, .ref h_t_itemAt, .ref h_t_times, .int t_at, .int t_ownLength, .int t_depth, .int t_deepest, .int t_letters, .int t_repeats, .int t_corrections, .int t_mostCorrections, .int t_place, .int t_reason])), (h_t_block, .inl (cI, 3125, .inl t_block)), (h_t_cost, .inl (cI, 3125, .inl t_cost)), (h_t_first, .inl (cI, 3125, .inl t_first)), (h_t_s, .inl (cI, 30, .inl t_s)), (h_t_wrong, .inl (cI, 15625, .inl t_wrong))] → va_S A s.heap H locs → lv_has ls 4 [(0, .ref h_t), (1, .int x1)] → W p l e (headSpec wsX11_lays ({ frames := 2, cells := 0, slots := 0, locals := 51 } : Room)).room s m args below meth c H locs 0 0 QQ (F0 m 6 ls []) := by
    intro n6
    induction n6 with
    | zero =>
      intro x1 t_block t_cost t_first t_wrong H locs ls hres
      rw [fMD_lays_6] at hres
      cases hres
    | succ n6 ih6 =>
      have hL23 : ∀ (n23 : Nat) , ∀ (x1 : Int32) (x2 : Int32) (t_block : Nat → Int32) (t_cost : Nat → Int32) (t_first : Nat → Int32) (t_wrong : Nat → Int32) (H : Heap) (locs : List Loc) (ls : Array Slot), fMD_lays_23 t_s (fMD_lays_6 t_s n6) n23 x1 x2 t_block t_cost t_first t_wrong = some (y_t_block, y_t_cost, y_t_first, y_t_wrong) → va_P (dC, dI) vwCl [(h_t, .inr (10, [.ref h_t_s, .ref h_t_was, .ref h_t_begun, .int t_states, .ref h_t_text, .int t_typed, .ref h_t_wrong, .ref h_t_cost, .ref h_t_first, .ref h_t_block, .ref h_t_many, .ref h_t_stack, .int t_height, .ref h_t_written, .int t_length, .ref h_t_own, .ref h_t_levelAt, .ref h_t_itemAt, .ref h_t_times, .int t_at, .int t_ownLength, .int t_depth, .int t_deepest, .int t_letters, .int t_repeats, .int t_corrections, .int t_mostCorrections, .int t_place, .int t_reason])), (h_t_block, .inl (cI, 3125, .inl t_block)), (h_t_cost, .inl (cI, 3125, .inl t_cost)), (h_t_first, .inl (cI, 3125, .inl t_first)), (h_t_s, .inl (cI, 30, .inl t_s)), (h_t_wrong, .inl (cI, 15625, .inl t_wrong))] H → va_D A [(h_t, .inr (10, [.ref h_t_s, .ref h_t_was, .ref h_t_begun, .int t_states, .ref h_t_text, .int t_typed, .ref h_t_wrong, .ref h_t_cost, .ref h_t_first, .ref h_t_block, .ref h_t_many, .ref h_t_stack, .int t_height, .ref h_t_written, .int t_length, .ref h_t_own, .ref h_t_levelAt, .ref h_t_itemAt, .ref h_t_times, .int t_at, .int t_ownLength, .int t_depth, .int t_deepest, .int t_letters, .int t_repeats, .int t_corrections, .int t_mostCorrections, .int t_place, .int t_reason])), (h_t_block, .inl (cI, 3125, .inl t_block)), (h_t_cost, .inl (cI, 3125, .inl t_cost)), (h_t_first, .inl (cI, 3125, .inl t_first)), (h_t_s, .inl (cI, 30, .inl t_s)), (h_t_wrong, .inl (cI, 15625, .inl t_wrong))] → va_S A s.heap H locs → lv_has ls 4 [(0, .ref h_t), (1, .int x1), (2, .int x2)] → W p l e (headSpec wsX11_lays ({ frames := 2, cells := 0, slots := 0, locals := 51 } : Room)).room s m args below meth c H locs 0 0 QQ (F0 m 23 ls []) := by
        intro n23
        induction n23 with
        | zero =>
          intro x1 x2 t_block t_cost t_first t_wrong H locs ls hres
          rw [fMD_lays_23] at hres
          cases hres
        | succ n23 ih23 =>
          have hL43 : ∀ (n43 : Nat) , ∀ (x1 : Int32) (x2 : Int32) (x3 : Int32) (t_block : Nat → Int32) (t_cost : Nat → Int32) (t_first : Nat → Int32) (t_wrong : Nat → Int32) (H : Heap) (locs : List Loc) (ls : Array Slot), fMD_lays_43 t_s (fMD_lays_6 t_s n6) (fMD_lays_23 t_s (fMD_lays_6 t_s n6) n23) n43 x1 x2 x3 t_block t_cost t_first t_wrong = some (y_t_block, y_t_cost, y_t_first, y_t_wrong) → va_P (dC, dI) vwCl [(h_t, .inr (10, [.ref h_t_s, .ref h_t_was, .ref h_t_begun, .int t_states, .ref h_t_text, .int t_typed, .ref h_t_wrong, .ref h_t_cost, .ref h_t_first, .ref h_t_block, .ref h_t_many, .ref h_t_stack, .int t_height, .ref h_t_written, .int t_length, .ref h_t_own, .ref h_t_levelAt, .ref h_t_itemAt, .ref h_t_times, .int t_at, .int t_ownLength, .int t_depth, .int t_deepest, .int t_letters, .int t_repeats, .int t_corrections, .int t_mostCorrections, .int t_place, .int t_reason])), (h_t_block, .inl (cI, 3125, .inl t_block)), (h_t_cost, .inl (cI, 3125, .inl t_cost)), (h_t_first, .inl (cI, 3125, .inl t_first)), (h_t_s, .inl (cI, 30, .inl t_s)), (h_t_wrong, .inl (cI, 15625, .inl t_wrong))] H → va_D A [(h_t, .inr (10, [.ref h_t_s, .ref h_t_was, .ref h_t_begun, .int t_states, .ref h_t_text, .int t_typed, .ref h_t_wrong, .ref h_t_cost, .ref h_t_first, .ref h_t_block, .ref h_t_many, .ref h_t_stack, .int t_height, .ref h_t_written, .int t_length, .ref h_t_own, .ref h_t_levelAt, .ref h_t_itemAt, .ref h_t_times, .int t_at, .int t_ownLength, .int t_depth, .int t_deepest, .int t_letters, .int t_repeats, .int t_corrections, .int t_mostCorrections, .int t_place, .int t_reason])), (h_t_block, .inl (cI, 3125, .inl t_block)), (h_t_cost, .inl (cI, 3125, .inl t_cost)), (h_t_first, .inl (cI, 3125, .inl t_first)), (h_t_s, .inl (cI, 30, .inl t_s)), (h_t_wrong, .inl (cI, 15625, .inl t_wrong))] → va_S A s.heap H locs → lv_has ls 4 [(0, .ref h_t), (1, .int x1), (2, .int x2), (3, .int x3)] → W p l e (headSpec wsX11_lays ({ frames := 2, cells := 0, slots := 0, locals := 51 } : Room)).room s m args below meth c H locs 0 0 QQ (F0 m 43 ls []) := by
            intro n43
            induction n43 with
            | zero =>
              intro x1 x2 x3 t_block t_cost t_first t_wrong H locs ls hres
              rw [fMD_lays_43] at hres
              cases hres
            | succ n43 ih43 =>
              intro x1 x2 x3 t_block t_cost t_first t_wrong H locs ls hres hP hD hS hl
              rw [fMD_lays_43] at hres
              refine lv_iload_n hx hb dX11_lays_43 rfl (lv_at hl 3 rfl) ?_
              refine lv_aload_n hx hb dX11_lays_44 rfl (lv_at hl 0 rfl) ?_
              refine va_get (D := (dC, dI)) (ci := 10) (v := .ref h_t_s) (C := RX11) (T := TX11) (N := 29) hx hb hts iMD_lays_X11_lays_1 hown hK hP 0 rfl rfl 0 (by decide) (hts _ kMD_lays_X11_lays_0) (fun _ h9 => h9) rfl dX11_lays_45 ?_
              refine lv_iconst (v := (0 : Int32)) hx hb dX11_lays_48 (by decide) ?_
              refine va_iald hx hb hK hP 4 0 rfl rfl (vin (by decide)) dX11_lays_49 ?_
              refine lv_icmp_gt (tgt := 66) hx hb dX11_lays_50 (by decide) (fun c_1 => ?_) (fun c_1 => ?_)
              · have hres := it_of hres c_1
                refine lv_iinc (v := (x2 + (-1))) (lv' := [(2, .int (x2 + (-1))), (0, .ref h_t), (1, .int x1), (3, .int x3)]) hx hb dX11_lays_66 hl (k := 2) rfl rfl (by decide) rfl (fun ls hl => ?_)
                refine lv_goto (tgt := 23) hx hb dX11_lays_69 (by decide) ?_
                exact ih23 x1 (x2 + (-1)) t_block t_cost t_first t_wrong H locs ls hres hP hD hS (lv_sub hl [1, 2, 0] rfl)
              · have hres := ie_of hres c_1
                refine lv_aload_n hx hb dX11_lays_53 rfl (lv_at hl 0 rfl) ?_
                refine lv_iload_n hx hb dX11_lays_54 rfl (lv_at hl 1 rfl) ?_
                refine lv_iload_n hx hb dX11_lays_55 rfl (lv_at hl 2 rfl) ?_
                refine lv_iload_n hx hb dX11_lays_56 rfl (lv_at hl 3 rfl) ?_
                obtain ⟨o2, ho2, hres⟩ := bd_of hres
                have hPc := hP.sub (ws' := [(h_t, .inr (10, [.ref h_t_s, .ref h_t_was, .ref h_t_begun, .int t_states, .ref h_t_text, .int t_typed, .ref h_t_wrong, .ref h_t_cost, .ref h_t_first, .ref h_t_block, .ref h_t_many, .ref h_t_stack, .int t_height, .ref h_t_written, .int t_length, .ref h_t_own, .ref h_t_levelAt, .ref h_t_itemAt, .ref h_t_times, .int t_at, .int t_ownLength, .int t_depth, .int t_deepest, .int t_letters, .int t_repeats, .int t_corrections, .int t_mostCorrections, .int t_place, .int t_reason])), (h_t_block, .inl (cI, 3125, .inl t_block)), (h_t_cost, .inl (cI, 3125, .inl t_cost)), (h_t_first, .inl (cI, 3125, .inl t_first)), (h_t_s, .inl (cI, 30, .inl t_s)), (h_t_wrong, .inl (cI, 15625, .inl t_wrong))]) [0, 1, 2, 3, 4, 5] rfl
                have hDc := hD.sub (ws' := [(h_t, .inr (10, [.ref h_t_s, .ref h_t_was, .ref h_t_begun, .int t_states, .ref h_t_text, .int t_typed, .ref h_t_wrong, .ref h_t_cost, .ref h_t_first, .ref h_t_block, .ref h_t_many, .ref h_t_stack, .int t_height, .ref h_t_written, .int t_length, .ref h_t_own, .ref h_t_levelAt, .ref h_t_itemAt, .ref h_t_times, .int t_at, .int t_ownLength, .int t_depth, .int t_deepest, .int t_letters, .int t_repeats, .int t_corrections, .int t_mostCorrections, .int t_place, .int t_reason])), (h_t_block, .inl (cI, 3125, .inl t_block)), (h_t_cost, .inl (cI, 3125, .inl t_cost)), (h_t_first, .inl (cI, 3125, .inl t_first)), (h_t_s, .inl (cI, 30, .inl t_s)), (h_t_wrong, .inl (cI, 15625, .inl t_wrong))]) [0, 1, 2, 3, 4, 5] (by decide) rfl
                have hFc := va_free (wc := [(h_t, .inr (10, [.ref h_t_s, .ref h_t_was, .ref h_t_begun, .int t_states, .ref h_t_text, .int t_typed, .ref h_t_wrong, .ref h_t_cost, .ref h_t_first, .ref h_t_block, .ref h_t_many, .ref h_t_stack, .int t_height, .ref h_t_written, .int t_length, .ref h_t_own, .ref h_t_levelAt, .ref h_t_itemAt, .ref h_t_times, .int t_at, .int t_ownLength, .int t_depth, .int t_deepest, .int t_letters, .int t_repeats, .int t_corrections, .int t_mostCorrections, .int t_place, .int t_reason])), (h_t_block, .inl (cI, 3125, .inl t_block)), (h_t_cost, .inl (cI, 3125, .inl t_cost)), (h_t_first, .inl (cI, 3125, .inl t_first)), (h_t_s, .inl (cI, 30, .inl t_s)), (h_t_wrong, .inl (cI, 15625, .inl t_wrong))]) hD hS hA [0, 1, 2, 3, 4, 5] rfl
                refine va_callv (va_runV (As := [.int x1, .int x2, .int x3]) (rest := []) ⟨hx, hb, hml, hown, hts⟩ (cMD_finds l dC dI cI cJ cC cS h_t h_t_s h_t_was h_t_begun h_t_text h_t_wrong h_t_cost h_t_first h_t_block h_t_many h_t_stack h_t_written h_t_own h_t_levelAt h_t_itemAt h_t_times H.size t_states t_typed t_height t_length t_at t_ownLength t_depth t_deepest t_letters t_repeats t_corrections t_mostCorrections t_place t_reason t_block t_cost t_first t_s t_wrong x1 x2 x3 o2.1 o2.2.1 o2.2.2 ho2) (cwV 3 hts gX11_lays_X11_finds rfl rfl rfl (by decide +kernel) ⟨Nat.le_of_ble_eq_true rfl, Nat.le_of_ble_eq_true rfl⟩) ⟨fun a U g mk q => by obtain ⟨q0, q1, qP, qK, qN, qD⟩ := q; exact ⟨q0, q1, qP, va_K.moved (u := U) (U := U.calling g mk a) (Vm.Alike.refl U.vm) qK, nwS (u := U) (U := U.calling g mk a) rfl qN, qD⟩, va_recv hK hPc (ci := 10) (q0 := 0) rfl rfl, fun U hU hW => ⟨rfl, by rw [hU], by rw [hU]; exact hPc, va_K.moved hW.alike hK, nwW hW hN, hDc.weaken (fun _ _ _ _ => trivial)⟩⟩ rfl rfl hl.1 rfl (lv_room (Nat.le_of_ble_eq_true rfl)) dX11_lays_57 ⟨Nat.zero_le _, Nat.zero_le _⟩) hS (fun q _ h => hFc q h) hFc (fun u9 t H1 locs ht hvm hw hB hz1 hk1 hS => ?_)
                obtain ⟨hP1, hK1, hD1⟩ := hB
                rw [ht] at hP1
                obtain ⟨hP, hD⟩ := va_join (wr := []) (w1 := [(h_t, .inr (10, [.ref h_t_s, .ref h_t_was, .ref h_t_begun, .int t_states, .ref h_t_text, .int t_typed, .ref h_t_wrong, .ref h_t_cost, .ref h_t_first, .ref h_t_block, .ref h_t_many, .ref h_t_stack, .int t_height, .ref h_t_written, .int t_length, .ref h_t_own, .ref h_t_levelAt, .ref h_t_itemAt, .ref h_t_times, .int t_at, .int t_ownLength, .int t_depth, .int t_deepest, .int t_letters, .int t_repeats, .int t_corrections, .int t_mostCorrections, .int t_place, .int t_reason])), (h_t_block, .inl (cI, 3125, .inl o2.1)), (h_t_cost, .inl (cI, 3125, .inl o2.2.1)), (h_t_first, .inl (cI, 3125, .inl o2.2.2)), (h_t_s, .inl (cI, 30, .inl t_s)), (h_t_wrong, .inl (cI, 15625, .inl t_wrong))]) hP hD [0, 1, 2, 3, 4, 5] [] rfl rfl (by decide) (by decide) hk1 hFc hP1 hD1
                generalize H1 = H at hP hS ⊢
                have hP : va_P (dC, dI) vwCl [(h_t, .inr (10, [.ref h_t_s, .ref h_t_was, .ref h_t_begun, .int t_states, .ref h_t_text, .int t_typed, .ref h_t_wrong, .ref h_t_cost, .ref h_t_first, .ref h_t_block, .ref h_t_many, .ref h_t_stack, .int t_height, .ref h_t_written, .int t_length, .ref h_t_own, .ref h_t_levelAt, .ref h_t_itemAt, .ref h_t_times, .int t_at, .int t_ownLength, .int t_depth, .int t_deepest, .int t_letters, .int t_repeats, .int t_corrections, .int t_mostCorrections, .int t_place, .int t_reason])), (h_t_block, .inl (cI, 3125, .inl o2.1)), (h_t_cost, .inl (cI, 3125, .inl o2.2.1)), (h_t_first, .inl (cI, 3125, .inl o2.2.2)), (h_t_s, .inl (cI, 30, .inl t_s)), (h_t_wrong, .inl (cI, 15625, .inl t_wrong))] H := hP
                have hD : va_D A [(h_t, .inr (10, [.ref h_t_s, .ref h_t_was, .ref h_t_begun, .int t_states, .ref h_t_text, .int t_typed, .ref h_t_wrong, .ref h_t_cost, .ref h_t_first, .ref h_t_block, .ref h_t_many, .ref h_t_stack, .int t_height, .ref h_t_written, .int t_length, .ref h_t_own, .ref h_t_levelAt, .ref h_t_itemAt, .ref h_t_times, .int t_at, .int t_ownLength, .int t_depth, .int t_deepest, .int t_letters, .int t_repeats, .int t_corrections, .int t_mostCorrections, .int t_place, .int t_reason])), (h_t_block, .inl (cI, 3125, .inl o2.1)), (h_t_cost, .inl (cI, 3125, .inl o2.2.1)), (h_t_first, .inl (cI, 3125, .inl o2.2.2)), (h_t_s, .inl (cI, 30, .inl t_s)), (h_t_wrong, .inl (cI, 15625, .inl t_wrong))] := hD
                refine lv_iinc (v := (x3 + 1)) (lv' := [(3, .int (x3 + 1)), (0, .ref h_t), (1, .int x1), (2, .int x2)]) hx hb dX11_lays_60 hl (k := 3) rfl rfl (by decide) rfl (fun ls hl => ?_)
                refine lv_goto (tgt := 43) hx hb dX11_lays_63 (by decide) ?_
                exact ih43 x1 x2 (x3 + 1) o2.1 o2.2.1 o2.2.2 t_wrong H locs ls hres hP hD hS (lv_sub hl [1, 2, 3, 0] rfl)
          intro x1 x2 t_block t_cost t_first t_wrong H locs ls hres hP hD hS hl
          rw [fMD_lays_23] at hres
          refine lv_iload_n hx hb dX11_lays_23 rfl (lv_at hl 2 rfl) ?_
          refine lv_if_lt (tgt := 72) hx hb dX11_lays_24 (by decide) (fun c_4 => ?_) (fun c_4 => ?_)
          · have hres := it_of hres c_4
            refine lv_iinc (v := (x1 + 1)) (lv' := [(1, .int (x1 + 1)), (0, .ref h_t), (2, .int x2)]) hx hb dX11_lays_72 hl (k := 1) rfl rfl (by decide) rfl (fun ls hl => ?_)
            refine lv_goto (tgt := 6) hx hb dX11_lays_75 (by decide) ?_
            exact ih6 (x1 + 1) t_block t_cost t_first t_wrong H locs ls hres hP hD hS (lv_sub hl [1, 0] rfl)
          · have hres := ie_of hres c_4
            refine lv_aload_n hx hb dX11_lays_27 rfl (lv_at hl 0 rfl) ?_
            refine va_get (D := (dC, dI)) (ci := 10) (v := .ref h_t_cost) (C := RX11) (T := TX11) (N := 29) hx hb hts iMD_lays_X11_lays_1 hown hK hP 0 rfl rfl 7 (by decide) (hts _ kMD_lays_X11_lays_2) (fun _ h9 => h9) rfl dX11_lays_28 ?_
            refine lv_iload_n hx hb dX11_lays_31 rfl (lv_at hl 1 rfl) ?_
            refine lv_iload_n hx hb dX11_lays_32 rfl (lv_at hl 2 rfl) ?_
            refine lv_iload_n hx hb dX11_lays_33 rfl (lv_at hl 2 rfl) ?_
            obtain ⟨o5, ho5, hres⟩ := bd_of hres
            have hPc := hP.sub (ws' := []) [] rfl
            have hDc := hD.sub (ws' := []) [] (by decide) rfl
            have hFc := va_free (wc := []) hD hS hA [] rfl
            refine va_calli (va_runS (As := [.int x1, .int x2, .int x2]) (rest := [.ref h_t_cost]) ⟨hx, hb, hml, hown, hts⟩ (cMD_part l dC dI cI cJ cC cS H.size x1 x2 x2 o5 ho5) (va_cwS 3 hts gX11_lays_X11_part rfl rfl rfl (by decide +kernel) ⟨Nat.le_of_ble_eq_true rfl, Nat.le_of_ble_eq_true rfl⟩) ⟨fun a U g mk q => by obtain ⟨q0, q1, qP, qK, qN, qD⟩ := q; exact ⟨q0, q1, qP, va_K.moved (u := U) (U := U.calling g mk a) (Vm.Alike.refl U.vm) qK, nwS (u := U) (U := U.calling g mk a) rfl qN, qD⟩, fun U hU hW => ⟨rfl, by rw [hU], by rw [hU]; exact hPc, va_K.moved hW.alike hK, nwW hW hN, hDc.weaken (fun _ _ _ _ => trivial)⟩⟩ rfl rfl hl.1 rfl (lv_room (Nat.le_of_ble_eq_true rfl)) dX11_lays_34 ⟨Nat.zero_le _, Nat.zero_le _⟩) hS (fun q _ h => hFc q h) hFc (fun r9 u9 t H1 locs ht hvm hw hB hz1 hk1 hS => ?_)
            have hw := hw.symm
            subst hw
            obtain ⟨hP1, hK1, hD1⟩ := hB
            rw [ht] at hP1
            obtain ⟨hP, hD⟩ := va_join (wr := [(h_t, .inr (10, [.ref h_t_s, .ref h_t_was, .ref h_t_begun, .int t_states, .ref h_t_text, .int t_typed, .ref h_t_wrong, .ref h_t_cost, .ref h_t_first, .ref h_t_block, .ref h_t_many, .ref h_t_stack, .int t_height, .ref h_t_written, .int t_length, .ref h_t_own, .ref h_t_levelAt, .ref h_t_itemAt, .ref h_t_times, .int t_at, .int t_ownLength, .int t_depth, .int t_deepest, .int t_letters, .int t_repeats, .int t_corrections, .int t_mostCorrections, .int t_place, .int t_reason])), (h_t_block, .inl (cI, 3125, .inl t_block)), (h_t_cost, .inl (cI, 3125, .inl t_cost)), (h_t_first, .inl (cI, 3125, .inl t_first)), (h_t_s, .inl (cI, 30, .inl t_s)), (h_t_wrong, .inl (cI, 15625, .inl t_wrong))]) (w1 := []) hP hD [] [0, 1, 2, 3, 4, 5] rfl rfl (by decide) (by decide) hk1 hFc hP1 hD1
            generalize H1 = H at hP hS ⊢
            have hP : va_P (dC, dI) vwCl [(h_t, .inr (10, [.ref h_t_s, .ref h_t_was, .ref h_t_begun, .int t_states, .ref h_t_text, .int t_typed, .ref h_t_wrong, .ref h_t_cost, .ref h_t_first, .ref h_t_block, .ref h_t_many, .ref h_t_stack, .int t_height, .ref h_t_written, .int t_length, .ref h_t_own, .ref h_t_levelAt, .ref h_t_itemAt, .ref h_t_times, .int t_at, .int t_ownLength, .int t_depth, .int t_deepest, .int t_letters, .int t_repeats, .int t_corrections, .int t_mostCorrections, .int t_place, .int t_reason])), (h_t_block, .inl (cI, 3125, .inl t_block)), (h_t_cost, .inl (cI, 3125, .inl t_cost)), (h_t_first, .inl (cI, 3125, .inl t_first)), (h_t_s, .inl (cI, 30, .inl t_s)), (h_t_wrong, .inl (cI, 15625, .inl t_wrong))] H := hP
            have hD : va_D A [(h_t, .inr (10, [.ref h_t_s, .ref h_t_was, .ref h_t_begun, .int t_states, .ref h_t_text, .int t_typed, .ref h_t_wrong, .ref h_t_cost, .ref h_t_first, .ref h_t_block, .ref h_t_many, .ref h_t_stack, .int t_height, .ref h_t_written, .int t_length, .ref h_t_own, .ref h_t_levelAt, .ref h_t_itemAt, .ref h_t_times, .int t_at, .int t_ownLength, .int t_depth, .int t_deepest, .int t_letters, .int t_repeats, .int t_corrections, .int t_mostCorrections, .int t_place, .int t_reason])), (h_t_block, .inl (cI, 3125, .inl t_block)), (h_t_cost, .inl (cI, 3125, .inl t_cost)), (h_t_first, .inl (cI, 3125, .inl t_first)), (h_t_s, .inl (cI, 30, .inl t_s)), (h_t_wrong, .inl (cI, 15625, .inl t_wrong))] := hD
            refine lv_iconst (v := (0 : Int32)) hx hb dX11_lays_37 (by decide) ?_
            obtain ⟨c_6, hres⟩ := ck_of hres
            refine va_iast hx hb hK hP hD hS 2 0 rfl rfl c_6 dX11_lays_38 (fun H locs hP hD hS => ?_)
            have hP : va_P (dC, dI) vwCl [(h_t, .inr (10, [.ref h_t_s, .ref h_t_was, .ref h_t_begun, .int t_states, .ref h_t_text, .int t_typed, .ref h_t_wrong, .ref h_t_cost, .ref h_t_first, .ref h_t_block, .ref h_t_many, .ref h_t_stack, .int t_height, .ref h_t_written, .int t_length, .ref h_t_own, .ref h_t_levelAt, .ref h_t_itemAt, .ref h_t_times, .int t_at, .int t_ownLength, .int t_depth, .int t_deepest, .int t_letters, .int t_repeats, .int t_corrections, .int t_mostCorrections, .int t_place, .int t_reason])), (h_t_block, .inl (cI, 3125, .inl t_block)), (h_t_cost, .inl (cI, 3125, .inl (wr t_cost o5 (0 : Int32)))), (h_t_first, .inl (cI, 3125, .inl t_first)), (h_t_s, .inl (cI, 30, .inl t_s)), (h_t_wrong, .inl (cI, 15625, .inl t_wrong))] H := hP
            have hD : va_D A [(h_t, .inr (10, [.ref h_t_s, .ref h_t_was, .ref h_t_begun, .int t_states, .ref h_t_text, .int t_typed, .ref h_t_wrong, .ref h_t_cost, .ref h_t_first, .ref h_t_block, .ref h_t_many, .ref h_t_stack, .int t_height, .ref h_t_written, .int t_length, .ref h_t_own, .ref h_t_levelAt, .ref h_t_itemAt, .ref h_t_times, .int t_at, .int t_ownLength, .int t_depth, .int t_deepest, .int t_letters, .int t_repeats, .int t_corrections, .int t_mostCorrections, .int t_place, .int t_reason])), (h_t_block, .inl (cI, 3125, .inl t_block)), (h_t_cost, .inl (cI, 3125, .inl (wr t_cost o5 (0 : Int32)))), (h_t_first, .inl (cI, 3125, .inl t_first)), (h_t_s, .inl (cI, 30, .inl t_s)), (h_t_wrong, .inl (cI, 15625, .inl t_wrong))] := hD
            refine lv_iload_n hx hb dX11_lays_39 rfl (lv_at hl 2 rfl) ?_
            refine lv_iconst (v := (1 : Int32)) hx hb dX11_lays_40 (by decide) ?_
            refine lv_iadd hx hb dX11_lays_41 ?_
            refine lv_istore_n (lv' := [(3, .int (x2 + (1 : Int32))), (0, .ref h_t), (1, .int x1), (2, .int x2)]) hx hb dX11_lays_42 rfl hl (by decide) rfl (fun ls hl => ?_)
            exact hL43 FU x1 x2 (x2 + (1 : Int32)) t_block (wr t_cost o5 (0 : Int32)) t_first t_wrong H locs ls hres hP hD hS (lv_sub hl [1, 2, 3, 0] rfl)
      intro x1 t_block t_cost t_first t_wrong H locs ls hres hP hD hS hl
      rw [fMD_lays_6] at hres
      refine lv_iload_n hx hb dX11_lays_6 rfl (lv_at hl 1 rfl) ?_
      refine lv_aload_n hx hb dX11_lays_7 rfl (lv_at hl 0 rfl) ?_
      refine va_get (D := (dC, dI)) (ci := 10) (v := .ref h_t_s) (C := RX11) (T := TX11) (N := 29) hx hb hts iMD_lays_X11_lays_1 hown hK hP 0 rfl rfl 0 (by decide) (hts _ kMD_lays_X11_lays_0) (fun _ h9 => h9) rfl dX11_lays_8 ?_
      refine lv_iconst (v := (5 : Int32)) hx hb dX11_lays_11 (by decide) ?_
      refine va_iald hx hb hK hP 4 0 rfl rfl (vin (by decide)) dX11_lays_12 ?_
      refine lv_icmp_gt (tgt := 78) hx hb dX11_lays_13 (by decide) (fun c_3 => ?_) (fun c_3 => ?_)
      · have hres := it_of hres c_3
        obtain ⟨e9_0, e9_1, e9_2, e9_3⟩ := tup4 hres
        subst e9_0
        subst e9_1
        subst e9_2
        subst e9_3
        rw [← hQQ]
        exact W.vret hx hb hr (fun t ht hW => ⟨⟨(), rfl, trivial, by rw [ht]; exact hP, va_K.moved hW.alike hK, hD⟩, hS.F ht⟩) hS.2.2 dX11_lays_78
      · have hres := ie_of hres c_3
        refine lv_aload_n hx hb dX11_lays_16 rfl (lv_at hl 0 rfl) ?_
        refine va_get (D := (dC, dI)) (ci := 10) (v := .ref h_t_s) (C := RX11) (T := TX11) (N := 29) hx hb hts iMD_lays_X11_lays_1 hown hK hP 0 rfl rfl 0 (by decide) (hts _ kMD_lays_X11_lays_0) (fun _ h9 => h9) rfl dX11_lays_17 ?_
        refine lv_iconst (v := (0 : Int32)) hx hb dX11_lays_20 (by decide) ?_
        refine va_iald hx hb hK hP 4 0 rfl rfl (vin (by decide)) dX11_lays_21 ?_
        refine lv_istore_n (lv' := [(2, .int (rd t_s (0 : Int32))), (0, .ref h_t), (1, .int x1)]) hx hb dX11_lays_22 rfl hl (by decide) rfl (fun ls hl => ?_)
        exact hL23 FU x1 (rd t_s (0 : Int32)) t_block t_cost t_first t_wrong H locs ls hres hP hD hS (lv_sub hl [1, 2, 0] rfl)
  rw [fMD_lays] at hres
  refine lv_aload_n hx hb dX11_lays_0 rfl (lv_at hl 0 rfl) ?_
  obtain ⟨o7, ho7, hres⟩ := bd_of hres
  have hPc := hP.sub (ws' := [(h_t, .inr (10, [.ref h_t_s, .ref h_t_was, .ref h_t_begun, .int t_states, .ref h_t_text, .int t_typed, .ref h_t_wrong, .ref h_t_cost, .ref h_t_first, .ref h_t_block, .ref h_t_many, .ref h_t_stack, .int t_height, .ref h_t_written, .int t_length, .ref h_t_own, .ref h_t_levelAt, .ref h_t_itemAt, .ref h_t_times, .int t_at, .int t_ownLength, .int t_depth, .int t_deepest, .int t_letters, .int t_repeats, .int t_corrections, .int t_mostCorrections, .int t_place, .int t_reason])), (h_t_s, .inl (cI, 30, .inl t_s)), (h_t_wrong, .inl (cI, 15625, .inl t_wrong))]) [0, 4, 5] rfl
  have hDc := hD.sub (ws' := [(h_t, .inr (10, [.ref h_t_s, .ref h_t_was, .ref h_t_begun, .int t_states, .ref h_t_text, .int t_typed, .ref h_t_wrong, .ref h_t_cost, .ref h_t_first, .ref h_t_block, .ref h_t_many, .ref h_t_stack, .int t_height, .ref h_t_written, .int t_length, .ref h_t_own, .ref h_t_levelAt, .ref h_t_itemAt, .ref h_t_times, .int t_at, .int t_ownLength, .int t_depth, .int t_deepest, .int t_letters, .int t_repeats, .int t_corrections, .int t_mostCorrections, .int t_place, .int t_reason])), (h_t_s, .inl (cI, 30, .inl t_s)), (h_t_wrong, .inl (cI, 15625, .inl t_wrong))]) [0, 4, 5] (by decide) rfl
  have hFc := va_free (wc := [(h_t, .inr (10, [.ref h_t_s, .ref h_t_was, .ref h_t_begun, .int t_states, .ref h_t_text, .int t_typed, .ref h_t_wrong, .ref h_t_cost, .ref h_t_first, .ref h_t_block, .ref h_t_many, .ref h_t_stack, .int t_height, .ref h_t_written, .int t_length, .ref h_t_own, .ref h_t_levelAt, .ref h_t_itemAt, .ref h_t_times, .int t_at, .int t_ownLength, .int t_depth, .int t_deepest, .int t_letters, .int t_repeats, .int t_corrections, .int t_mostCorrections, .int t_place, .int t_reason])), (h_t_s, .inl (cI, 30, .inl t_s)), (h_t_wrong, .inl (cI, 15625, .inl t_wrong))]) hD hS hA [0, 4, 5] rfl
  refine va_callv (va_runV (As := []) (rest := []) ⟨hx, hb, hml, hown, hts⟩ (cMD_corrects l dC dI cI cJ cC cS h_t h_t_s h_t_was h_t_begun h_t_text h_t_wrong h_t_cost h_t_first h_t_block h_t_many h_t_stack h_t_written h_t_own h_t_levelAt h_t_itemAt h_t_times H.size t_states t_typed t_height t_length t_at t_ownLength t_depth t_deepest t_letters t_repeats t_corrections t_mostCorrections t_place t_reason t_s t_wrong o7 ho7) (cwV 0 hts gX11_lays_X11_corrects rfl rfl rfl (by decide +kernel) ⟨Nat.le_of_ble_eq_true rfl, Nat.le_of_ble_eq_true rfl⟩) ⟨fun a U g mk q => by obtain ⟨q0, q1, qP, qK, qN, qD⟩ := q; exact ⟨q0, q1, qP, va_K.moved (u := U) (U := U.calling g mk a) (Vm.Alike.refl U.vm) qK, nwS (u := U) (U := U.calling g mk a) rfl qN, qD⟩, va_recv hK hPc (ci := 10) (q0 := 0) rfl rfl, fun U hU hW => ⟨rfl, by rw [hU], by rw [hU]; exact hPc, va_K.moved hW.alike hK, nwW hW hN, hDc.weaken (fun _ _ _ _ => trivial)⟩⟩ rfl rfl hl.1 rfl (lv_room (Nat.le_of_ble_eq_true rfl)) dX11_lays_1 ⟨Nat.zero_le _, Nat.zero_le _⟩) hS (fun q _ h => hFc q h) hFc (fun u9 t H1 locs ht hvm hw hB hz1 hk1 hS => ?_)
  obtain ⟨hP1, hK1, hD1⟩ := hB
  rw [ht] at hP1
  obtain ⟨hP, hD⟩ := va_join (wr := [(h_t_block, .inl (cI, 3125, .inl t_block)), (h_t_cost, .inl (cI, 3125, .inl t_cost)), (h_t_first, .inl (cI, 3125, .inl t_first))]) (w1 := [(h_t, .inr (10, [.ref h_t_s, .ref h_t_was, .ref h_t_begun, .int t_states, .ref h_t_text, .int t_typed, .ref h_t_wrong, .ref h_t_cost, .ref h_t_first, .ref h_t_block, .ref h_t_many, .ref h_t_stack, .int t_height, .ref h_t_written, .int t_length, .ref h_t_own, .ref h_t_levelAt, .ref h_t_itemAt, .ref h_t_times, .int t_at, .int t_ownLength, .int t_depth, .int t_deepest, .int t_letters, .int t_repeats, .int t_corrections, .int t_mostCorrections, .int t_place, .int t_reason])), (h_t_s, .inl (cI, 30, .inl t_s)), (h_t_wrong, .inl (cI, 15625, .inl o7))]) hP hD [0, 4, 5] [1, 2, 3] rfl rfl (by decide) (by decide) hk1 hFc hP1 hD1
  generalize H1 = H at hP hS ⊢
  have hP : va_P (dC, dI) vwCl [(h_t_block, .inl (cI, 3125, .inl t_block)), (h_t_cost, .inl (cI, 3125, .inl t_cost)), (h_t_first, .inl (cI, 3125, .inl t_first)), (h_t, .inr (10, [.ref h_t_s, .ref h_t_was, .ref h_t_begun, .int t_states, .ref h_t_text, .int t_typed, .ref h_t_wrong, .ref h_t_cost, .ref h_t_first, .ref h_t_block, .ref h_t_many, .ref h_t_stack, .int t_height, .ref h_t_written, .int t_length, .ref h_t_own, .ref h_t_levelAt, .ref h_t_itemAt, .ref h_t_times, .int t_at, .int t_ownLength, .int t_depth, .int t_deepest, .int t_letters, .int t_repeats, .int t_corrections, .int t_mostCorrections, .int t_place, .int t_reason])), (h_t_s, .inl (cI, 30, .inl t_s)), (h_t_wrong, .inl (cI, 15625, .inl o7))] H := hP
  have hD : va_D A [(h_t_block, .inl (cI, 3125, .inl t_block)), (h_t_cost, .inl (cI, 3125, .inl t_cost)), (h_t_first, .inl (cI, 3125, .inl t_first)), (h_t, .inr (10, [.ref h_t_s, .ref h_t_was, .ref h_t_begun, .int t_states, .ref h_t_text, .int t_typed, .ref h_t_wrong, .ref h_t_cost, .ref h_t_first, .ref h_t_block, .ref h_t_many, .ref h_t_stack, .int t_height, .ref h_t_written, .int t_length, .ref h_t_own, .ref h_t_levelAt, .ref h_t_itemAt, .ref h_t_times, .int t_at, .int t_ownLength, .int t_depth, .int t_deepest, .int t_letters, .int t_repeats, .int t_corrections, .int t_mostCorrections, .int t_place, .int t_reason])), (h_t_s, .inl (cI, 30, .inl t_s)), (h_t_wrong, .inl (cI, 15625, .inl o7))] := hD
  refine lv_iconst (v := (0 : Int32)) hx hb dX11_lays_4 (by decide) ?_
  refine lv_istore_n (lv' := [(1, .int (0 : Int32)), (0, .ref h_t)]) hx hb dX11_lays_5 rfl hl (by decide) rfl (fun ls hl => ?_)
  exact hL6 FU (0 : Int32) t_block t_cost t_first o7 H locs ls hres (hP.sub [3, 0, 1, 2, 4, 5] rfl) (hD.sub [3, 0, 1, 2, 4, 5] (by decide) rfl) hS (lv_sub hl [1, 0] rfl)

-- MD_costs
def fMD_costs (t_s : Nat → Int32) (t_block : Nat → Int32) (t_cost : Nat → Int32) (t_first : Nat → Int32) (t_wrong : Nat → Int32) : Option (Int32 × (Nat → Int32) × (Nat → Int32) × (Nat → Int32) × (Nat → Int32)) :=
  (fMD_lays t_s t_block t_cost t_first t_wrong).bind fun o1 =>
    (fMD_part (rd t_s (5 : Int32)) (0 : Int32) (rd t_s (0 : Int32))).bind fun o2 =>
      if bIn o2 3125 = true then
        some ((rd o1.2.1 o2), o1.1, o1.2.1, o1.2.2.1, o1.2.2.2)
      else none
theorem kMD_costs_X11_costs_0 : Cond.fieldLink RX11 26 "RepeatNestsModel" "cost" "[I" ∈ wsX11_costs := by decide +kernel
theorem iMD_costs_X11_costs_1 : ∀ w ∈ wsX110, w ∈ wsX11_costs := by decide +kernel
theorem kMD_costs_X11_costs_2 : Cond.fieldLink RX11 7 "RepeatNestsModel" "s" "[I" ∈ wsX11_costs := by decide +kernel
set_option maxHeartbeats 4000000 in
set_option maxRecDepth 100000 in
theorem cMD_costs (l : Launch) (dC : Nat → ClassId) (dI : Nat → Nat → Nat) (cI cJ cC cS : ClassId) (h_t h_t_s h_t_was h_t_begun h_t_text h_t_wrong h_t_cost h_t_first h_t_block h_t_many h_t_stack h_t_written h_t_own h_t_levelAt h_t_itemAt h_t_times : Nat) (sz : Nat) (t_states : Int32) (t_typed : Int32) (t_height : Int32) (t_length : Int32) (t_at : Int32) (t_ownLength : Int32) (t_depth : Int32) (t_deepest : Int32) (t_letters : Int32) (t_repeats : Int32) (t_corrections : Int32) (t_mostCorrections : Int32) (t_place : Int32) (t_reason : Int32) (t_block : Nat → Int32) (t_cost : Nat → Int32) (t_first : Nat → Int32) (t_s : Nat → Int32) (t_wrong : Nat → Int32) (r : Int32) (y_t_block : Nat → Int32) (y_t_cost : Nat → Int32) (y_t_first : Nat → Int32) (y_t_wrong : Nat → Int32) (hres : fMD_costs t_s t_block t_cost t_first t_wrong = some (r, y_t_block, y_t_cost, y_t_first, y_t_wrong)) :
    Met l yX11_costs wsX11_costs ({ frames := 3, cells := 0, slots := 0, locals := 74 } : Room) (va_Pc [.ref h_t] (fun (U : State) => U.heap.size = sz ∧ va_P (dC, dI) vwCl [(h_t, .inr (10, [.ref h_t_s, .ref h_t_was, .ref h_t_begun, .int t_states, .ref h_t_text, .int t_typed, .ref h_t_wrong, .ref h_t_cost, .ref h_t_first, .ref h_t_block, .ref h_t_many, .ref h_t_stack, .int t_height, .ref h_t_written, .int t_length, .ref h_t_own, .ref h_t_levelAt, .ref h_t_itemAt, .ref h_t_times, .int t_at, .int t_ownLength, .int t_depth, .int t_deepest, .int t_letters, .int t_repeats, .int t_corrections, .int t_mostCorrections, .int t_place, .int t_reason])), (h_t_block, .inl (cI, 3125, .inl t_block)), (h_t_cost, .inl (cI, 3125, .inl t_cost)), (h_t_first, .inl (cI, 3125, .inl t_first)), (h_t_s, .inl (cI, 30, .inl t_s)), (h_t_wrong, .inl (cI, 15625, .inl t_wrong))] U.heap ∧ va_K (dC, dI) vwCl (tyA cI cJ cC cS) U ∧ nwN U ∧ va_D (fun _ => True) [(h_t, .inr (10, [.ref h_t_s, .ref h_t_was, .ref h_t_begun, .int t_states, .ref h_t_text, .int t_typed, .ref h_t_wrong, .ref h_t_cost, .ref h_t_first, .ref h_t_block, .ref h_t_many, .ref h_t_stack, .int t_height, .ref h_t_written, .int t_length, .ref h_t_own, .ref h_t_levelAt, .ref h_t_itemAt, .ref h_t_times, .int t_at, .int t_ownLength, .int t_depth, .int t_deepest, .int t_letters, .int t_repeats, .int t_corrections, .int t_mostCorrections, .int t_place, .int t_reason])), (h_t_block, .inl (cI, 3125, .inl t_block)), (h_t_cost, .inl (cI, 3125, .inl t_cost)), (h_t_first, .inl (cI, 3125, .inl t_first)), (h_t_s, .inl (cI, 30, .inl t_s)), (h_t_wrong, .inl (cI, 15625, .inl t_wrong))])) (va_Qi (fun (r9 : Int32) (_ : Unit) => r9 = r) (fun (_ : Unit) (t : State) => va_P (dC, dI) vwCl [(h_t, .inr (10, [.ref h_t_s, .ref h_t_was, .ref h_t_begun, .int t_states, .ref h_t_text, .int t_typed, .ref h_t_wrong, .ref h_t_cost, .ref h_t_first, .ref h_t_block, .ref h_t_many, .ref h_t_stack, .int t_height, .ref h_t_written, .int t_length, .ref h_t_own, .ref h_t_levelAt, .ref h_t_itemAt, .ref h_t_times, .int t_at, .int t_ownLength, .int t_depth, .int t_deepest, .int t_letters, .int t_repeats, .int t_corrections, .int t_mostCorrections, .int t_place, .int t_reason])), (h_t_block, .inl (cI, 3125, .inl y_t_block)), (h_t_cost, .inl (cI, 3125, .inl y_t_cost)), (h_t_first, .inl (cI, 3125, .inl y_t_first)), (h_t_s, .inl (cI, 30, .inl t_s)), (h_t_wrong, .inl (cI, 15625, .inl y_t_wrong))] t.heap ∧ va_K (dC, dI) vwCl (tyA cI cJ cC cS) t ∧ va_D (va_A [(h_t, .inr (10, [.ref h_t_s, .ref h_t_was, .ref h_t_begun, .int t_states, .ref h_t_text, .int t_typed, .ref h_t_wrong, .ref h_t_cost, .ref h_t_first, .ref h_t_block, .ref h_t_many, .ref h_t_stack, .int t_height, .ref h_t_written, .int t_length, .ref h_t_own, .ref h_t_levelAt, .ref h_t_itemAt, .ref h_t_times, .int t_at, .int t_ownLength, .int t_depth, .int t_deepest, .int t_letters, .int t_repeats, .int t_corrections, .int t_mostCorrections, .int t_place, .int t_reason])), (h_t_block, .inl (cI, 3125, .inl t_block)), (h_t_cost, .inl (cI, 3125, .inl t_cost)), (h_t_first, .inl (cI, 3125, .inl t_first)), (h_t_s, .inl (cI, 30, .inl t_s)), (h_t_wrong, .inl (cI, 15625, .inl t_wrong))] sz) [(h_t, .inr (10, [.ref h_t_s, .ref h_t_was, .ref h_t_begun, .int t_states, .ref h_t_text, .int t_typed, .ref h_t_wrong, .ref h_t_cost, .ref h_t_first, .ref h_t_block, .ref h_t_many, .ref h_t_stack, .int t_height, .ref h_t_written, .int t_length, .ref h_t_own, .ref h_t_levelAt, .ref h_t_itemAt, .ref h_t_times, .int t_at, .int t_ownLength, .int t_depth, .int t_deepest, .int t_letters, .int t_repeats, .int t_corrections, .int t_mostCorrections, .int t_place, .int t_reason])), (h_t_block, .inl (cI, 3125, .inl y_t_block)), (h_t_cost, .inl (cI, 3125, .inl y_t_cost)), (h_t_first, .inl (cI, 3125, .inl y_t_first)), (h_t_s, .inl (cI, 30, .inl t_s)), (h_t_wrong, .inl (cI, 15625, .inl y_t_wrong))]) (va_A [(h_t, .inr (10, [.ref h_t_s, .ref h_t_was, .ref h_t_begun, .int t_states, .ref h_t_text, .int t_typed, .ref h_t_wrong, .ref h_t_cost, .ref h_t_first, .ref h_t_block, .ref h_t_many, .ref h_t_stack, .int t_height, .ref h_t_written, .int t_length, .ref h_t_own, .ref h_t_levelAt, .ref h_t_itemAt, .ref h_t_times, .int t_at, .int t_ownLength, .int t_depth, .int t_deepest, .int t_letters, .int t_repeats, .int t_corrections, .int t_mostCorrections, .int t_place, .int t_reason])), (h_t_block, .inl (cI, 3125, .inl t_block)), (h_t_cost, .inl (cI, 3125, .inl t_cost)), (h_t_first, .inl (cI, 3125, .inl t_first)), (h_t_s, .inl (cI, 30, .inl t_s)), (h_t_wrong, .inl (cI, 15625, .inl t_wrong))] sz)) 0 0 (va_A [(h_t, .inr (10, [.ref h_t_s, .ref h_t_was, .ref h_t_begun, .int t_states, .ref h_t_text, .int t_typed, .ref h_t_wrong, .ref h_t_cost, .ref h_t_first, .ref h_t_block, .ref h_t_many, .ref h_t_stack, .int t_height, .ref h_t_written, .int t_length, .ref h_t_own, .ref h_t_levelAt, .ref h_t_itemAt, .ref h_t_times, .int t_at, .int t_ownLength, .int t_depth, .int t_deepest, .int t_letters, .int t_repeats, .int t_corrections, .int t_mostCorrections, .int t_place, .int t_reason])), (h_t_block, .inl (cI, 3125, .inl t_block)), (h_t_cost, .inl (cI, 3125, .inl t_cost)), (h_t_first, .inl (cI, 3125, .inl t_first)), (h_t_s, .inl (cI, 30, .inl t_s)), (h_t_wrong, .inl (cI, 15625, .inl t_wrong))] sz) := by
  refine Met.ofW (cc := cX11_costs) (maxL := 1) (ret := (some .int)) (by decide) rfl ?_
  intro p e s m args below meth c s₁ B hml hv
  obtain ⟨hargs, hsz, hP, hK, hN, hD0⟩ := hv
  have hx := B.exec
  have hb := B.bytes
  have hr := B.returns
  have hts := atoms_spec (ws := wsX11_costs) B.pre
  have hown : s.vm.findClass RX11 = some m.cls := findClass_of_methodNamed B.named
  have hlocks := B.notSynchronized
  subst hsz
  have hD := hD0.self (sz := s.heap.size)
  generalize hAe : va_A [(h_t, .inr (10, [.ref h_t_s, .ref h_t_was, .ref h_t_begun, .int t_states, .ref h_t_text, .int t_typed, .ref h_t_wrong, .ref h_t_cost, .ref h_t_first, .ref h_t_block, .ref h_t_many, .ref h_t_stack, .int t_height, .ref h_t_written, .int t_length, .ref h_t_own, .ref h_t_levelAt, .ref h_t_itemAt, .ref h_t_times, .int t_at, .int t_ownLength, .int t_depth, .int t_deepest, .int t_letters, .int t_repeats, .int t_corrections, .int t_mostCorrections, .int t_place, .int t_reason])), (h_t_block, .inl (cI, 3125, .inl t_block)), (h_t_cost, .inl (cI, 3125, .inl t_cost)), (h_t_first, .inl (cI, 3125, .inl t_first)), (h_t_s, .inl (cI, 30, .inl t_s)), (h_t_wrong, .inl (cI, 15625, .inl t_wrong))] s.heap.size = A at hD ⊢
  have hA : ∀ q : Nat, s.heap.size ≤ q → A q := fun q h => by rw [← hAe]; exact Or.inr h
  have hS : va_S A s.heap s.heap [] := va_S.rf
  have hP : va_P (dC, dI) vwCl [(h_t, .inr (10, [.ref h_t_s, .ref h_t_was, .ref h_t_begun, .int t_states, .ref h_t_text, .int t_typed, .ref h_t_wrong, .ref h_t_cost, .ref h_t_first, .ref h_t_block, .ref h_t_many, .ref h_t_stack, .int t_height, .ref h_t_written, .int t_length, .ref h_t_own, .ref h_t_levelAt, .ref h_t_itemAt, .ref h_t_times, .int t_at, .int t_ownLength, .int t_depth, .int t_deepest, .int t_letters, .int t_repeats, .int t_corrections, .int t_mostCorrections, .int t_place, .int t_reason])), (h_t_block, .inl (cI, 3125, .inl t_block)), (h_t_cost, .inl (cI, 3125, .inl t_cost)), (h_t_first, .inl (cI, 3125, .inl t_first)), (h_t_s, .inl (cI, 30, .inl t_s)), (h_t_wrong, .inl (cI, 15625, .inl t_wrong))] s.heap := hP
  have hl := lv_entry [.ref h_t] (n := 1) (Nat.le_of_ble_eq_true rfl)
  rw [show entryFrame m args 1 = entryFrame m ([.ref h_t] : List Value).toArray 1 from by rw [hargs], lg_entry_eq]
  generalize (lg_sl [.ref h_t] ++ List.replicate (1 - (lg_sl [.ref h_t]).length) Slot.unset).toArray = ls at hl ⊢
  have hl : lv_has ls 1 [(0, .ref h_t)] := hl
  generalize hQQ : MQ below (va_Qi (fun (r9 : Int32) (_ : Unit) => r9 = r) (fun (_ : Unit) (t : State) => va_P (dC, dI) vwCl [(h_t, .inr (10, [.ref h_t_s, .ref h_t_was, .ref h_t_begun, .int t_states, .ref h_t_text, .int t_typed, .ref h_t_wrong, .ref h_t_cost, .ref h_t_first, .ref h_t_block, .ref h_t_many, .ref h_t_stack, .int t_height, .ref h_t_written, .int t_length, .ref h_t_own, .ref h_t_levelAt, .ref h_t_itemAt, .ref h_t_times, .int t_at, .int t_ownLength, .int t_depth, .int t_deepest, .int t_letters, .int t_repeats, .int t_corrections, .int t_mostCorrections, .int t_place, .int t_reason])), (h_t_block, .inl (cI, 3125, .inl y_t_block)), (h_t_cost, .inl (cI, 3125, .inl y_t_cost)), (h_t_first, .inl (cI, 3125, .inl y_t_first)), (h_t_s, .inl (cI, 30, .inl t_s)), (h_t_wrong, .inl (cI, 15625, .inl y_t_wrong))] t.heap ∧ va_K (dC, dI) vwCl (tyA cI cJ cC cS) t ∧ va_D A [(h_t, .inr (10, [.ref h_t_s, .ref h_t_was, .ref h_t_begun, .int t_states, .ref h_t_text, .int t_typed, .ref h_t_wrong, .ref h_t_cost, .ref h_t_first, .ref h_t_block, .ref h_t_many, .ref h_t_stack, .int t_height, .ref h_t_written, .int t_length, .ref h_t_own, .ref h_t_levelAt, .ref h_t_itemAt, .ref h_t_times, .int t_at, .int t_ownLength, .int t_depth, .int t_deepest, .int t_letters, .int t_repeats, .int t_corrections, .int t_mostCorrections, .int t_place, .int t_reason])), (h_t_block, .inl (cI, 3125, .inl y_t_block)), (h_t_cost, .inl (cI, 3125, .inl y_t_cost)), (h_t_first, .inl (cI, 3125, .inl y_t_first)), (h_t_s, .inl (cI, 30, .inl t_s)), (h_t_wrong, .inl (cI, 15625, .inl y_t_wrong))]) A) args s 0 0 A = QQ
  obtain ⟨H, hH⟩ : ∃ H : Heap, H = s.heap := ⟨_, rfl⟩
  obtain ⟨locs, hlocs⟩ : ∃ locs : List Loc, locs = [] := ⟨_, rfl⟩
  rw [← hH] at hP
  have hS : va_S A s.heap H locs := by rw [hH, hlocs]; exact hS
  suffices hZ : W p l e (headSpec wsX11_costs ({ frames := 3, cells := 0, slots := 0, locals := 74 } : Room)).room s m args below meth c H locs 0 0 QQ (F0 m 0 ls []) by rw [hH, hlocs] at hZ; exact hZ
  clear hH hlocs
  rw [fMD_costs] at hres
  refine lv_aload_n hx hb dX11_costs_0 rfl (lv_at hl 0 rfl) ?_
  obtain ⟨o1, ho1, hres⟩ := bd_of hres
  have hPc := hP.sub (ws' := [(h_t, .inr (10, [.ref h_t_s, .ref h_t_was, .ref h_t_begun, .int t_states, .ref h_t_text, .int t_typed, .ref h_t_wrong, .ref h_t_cost, .ref h_t_first, .ref h_t_block, .ref h_t_many, .ref h_t_stack, .int t_height, .ref h_t_written, .int t_length, .ref h_t_own, .ref h_t_levelAt, .ref h_t_itemAt, .ref h_t_times, .int t_at, .int t_ownLength, .int t_depth, .int t_deepest, .int t_letters, .int t_repeats, .int t_corrections, .int t_mostCorrections, .int t_place, .int t_reason])), (h_t_block, .inl (cI, 3125, .inl t_block)), (h_t_cost, .inl (cI, 3125, .inl t_cost)), (h_t_first, .inl (cI, 3125, .inl t_first)), (h_t_s, .inl (cI, 30, .inl t_s)), (h_t_wrong, .inl (cI, 15625, .inl t_wrong))]) [0, 1, 2, 3, 4, 5] rfl
  have hDc := hD.sub (ws' := [(h_t, .inr (10, [.ref h_t_s, .ref h_t_was, .ref h_t_begun, .int t_states, .ref h_t_text, .int t_typed, .ref h_t_wrong, .ref h_t_cost, .ref h_t_first, .ref h_t_block, .ref h_t_many, .ref h_t_stack, .int t_height, .ref h_t_written, .int t_length, .ref h_t_own, .ref h_t_levelAt, .ref h_t_itemAt, .ref h_t_times, .int t_at, .int t_ownLength, .int t_depth, .int t_deepest, .int t_letters, .int t_repeats, .int t_corrections, .int t_mostCorrections, .int t_place, .int t_reason])), (h_t_block, .inl (cI, 3125, .inl t_block)), (h_t_cost, .inl (cI, 3125, .inl t_cost)), (h_t_first, .inl (cI, 3125, .inl t_first)), (h_t_s, .inl (cI, 30, .inl t_s)), (h_t_wrong, .inl (cI, 15625, .inl t_wrong))]) [0, 1, 2, 3, 4, 5] (by decide) rfl
  have hFc := va_free (wc := [(h_t, .inr (10, [.ref h_t_s, .ref h_t_was, .ref h_t_begun, .int t_states, .ref h_t_text, .int t_typed, .ref h_t_wrong, .ref h_t_cost, .ref h_t_first, .ref h_t_block, .ref h_t_many, .ref h_t_stack, .int t_height, .ref h_t_written, .int t_length, .ref h_t_own, .ref h_t_levelAt, .ref h_t_itemAt, .ref h_t_times, .int t_at, .int t_ownLength, .int t_depth, .int t_deepest, .int t_letters, .int t_repeats, .int t_corrections, .int t_mostCorrections, .int t_place, .int t_reason])), (h_t_block, .inl (cI, 3125, .inl t_block)), (h_t_cost, .inl (cI, 3125, .inl t_cost)), (h_t_first, .inl (cI, 3125, .inl t_first)), (h_t_s, .inl (cI, 30, .inl t_s)), (h_t_wrong, .inl (cI, 15625, .inl t_wrong))]) hD hS hA [0, 1, 2, 3, 4, 5] rfl
  refine va_callv (va_runV (As := []) (rest := []) ⟨hx, hb, hml, hown, hts⟩ (cMD_lays l dC dI cI cJ cC cS h_t h_t_s h_t_was h_t_begun h_t_text h_t_wrong h_t_cost h_t_first h_t_block h_t_many h_t_stack h_t_written h_t_own h_t_levelAt h_t_itemAt h_t_times H.size t_states t_typed t_height t_length t_at t_ownLength t_depth t_deepest t_letters t_repeats t_corrections t_mostCorrections t_place t_reason t_block t_cost t_first t_s t_wrong o1.1 o1.2.1 o1.2.2.1 o1.2.2.2 ho1) (cwV 0 hts gX11_costs_X11_lays rfl rfl rfl (by decide +kernel) ⟨Nat.le_of_ble_eq_true rfl, Nat.le_of_ble_eq_true rfl⟩) ⟨fun a U g mk q => by obtain ⟨q0, q1, qP, qK, qN, qD⟩ := q; exact ⟨q0, q1, qP, va_K.moved (u := U) (U := U.calling g mk a) (Vm.Alike.refl U.vm) qK, nwS (u := U) (U := U.calling g mk a) rfl qN, qD⟩, va_recv hK hPc (ci := 10) (q0 := 0) rfl rfl, fun U hU hW => ⟨rfl, by rw [hU], by rw [hU]; exact hPc, va_K.moved hW.alike hK, nwW hW hN, hDc.weaken (fun _ _ _ _ => trivial)⟩⟩ rfl rfl hl.1 rfl (lv_room (Nat.le_of_ble_eq_true rfl)) dX11_costs_1 ⟨Nat.zero_le _, Nat.zero_le _⟩) hS (fun q _ h => hFc q h) hFc (fun u9 t H1 locs ht hvm hw hB hz1 hk1 hS => ?_)
  obtain ⟨hP1, hK1, hD1⟩ := hB
  rw [ht] at hP1
  obtain ⟨hP, hD⟩ := va_join (wr := []) (w1 := [(h_t, .inr (10, [.ref h_t_s, .ref h_t_was, .ref h_t_begun, .int t_states, .ref h_t_text, .int t_typed, .ref h_t_wrong, .ref h_t_cost, .ref h_t_first, .ref h_t_block, .ref h_t_many, .ref h_t_stack, .int t_height, .ref h_t_written, .int t_length, .ref h_t_own, .ref h_t_levelAt, .ref h_t_itemAt, .ref h_t_times, .int t_at, .int t_ownLength, .int t_depth, .int t_deepest, .int t_letters, .int t_repeats, .int t_corrections, .int t_mostCorrections, .int t_place, .int t_reason])), (h_t_block, .inl (cI, 3125, .inl o1.1)), (h_t_cost, .inl (cI, 3125, .inl o1.2.1)), (h_t_first, .inl (cI, 3125, .inl o1.2.2.1)), (h_t_s, .inl (cI, 30, .inl t_s)), (h_t_wrong, .inl (cI, 15625, .inl o1.2.2.2))]) hP hD [0, 1, 2, 3, 4, 5] [] rfl rfl (by decide) (by decide) hk1 hFc hP1 hD1
  generalize H1 = H at hP hS ⊢
  have hP : va_P (dC, dI) vwCl [(h_t, .inr (10, [.ref h_t_s, .ref h_t_was, .ref h_t_begun, .int t_states, .ref h_t_text, .int t_typed, .ref h_t_wrong, .ref h_t_cost, .ref h_t_first, .ref h_t_block, .ref h_t_many, .ref h_t_stack, .int t_height, .ref h_t_written, .int t_length, .ref h_t_own, .ref h_t_levelAt, .ref h_t_itemAt, .ref h_t_times, .int t_at, .int t_ownLength, .int t_depth, .int t_deepest, .int t_letters, .int t_repeats, .int t_corrections, .int t_mostCorrections, .int t_place, .int t_reason])), (h_t_block, .inl (cI, 3125, .inl o1.1)), (h_t_cost, .inl (cI, 3125, .inl o1.2.1)), (h_t_first, .inl (cI, 3125, .inl o1.2.2.1)), (h_t_s, .inl (cI, 30, .inl t_s)), (h_t_wrong, .inl (cI, 15625, .inl o1.2.2.2))] H := hP
  have hD : va_D A [(h_t, .inr (10, [.ref h_t_s, .ref h_t_was, .ref h_t_begun, .int t_states, .ref h_t_text, .int t_typed, .ref h_t_wrong, .ref h_t_cost, .ref h_t_first, .ref h_t_block, .ref h_t_many, .ref h_t_stack, .int t_height, .ref h_t_written, .int t_length, .ref h_t_own, .ref h_t_levelAt, .ref h_t_itemAt, .ref h_t_times, .int t_at, .int t_ownLength, .int t_depth, .int t_deepest, .int t_letters, .int t_repeats, .int t_corrections, .int t_mostCorrections, .int t_place, .int t_reason])), (h_t_block, .inl (cI, 3125, .inl o1.1)), (h_t_cost, .inl (cI, 3125, .inl o1.2.1)), (h_t_first, .inl (cI, 3125, .inl o1.2.2.1)), (h_t_s, .inl (cI, 30, .inl t_s)), (h_t_wrong, .inl (cI, 15625, .inl o1.2.2.2))] := hD
  refine lv_aload_n hx hb dX11_costs_4 rfl (lv_at hl 0 rfl) ?_
  refine va_get (D := (dC, dI)) (ci := 10) (v := .ref h_t_cost) (C := RX11) (T := TX11) (N := 29) hx hb hts iMD_costs_X11_costs_1 hown hK hP 0 rfl rfl 7 (by decide) (hts _ kMD_costs_X11_costs_0) (fun _ h9 => h9) rfl dX11_costs_5 ?_
  refine lv_aload_n hx hb dX11_costs_8 rfl (lv_at hl 0 rfl) ?_
  refine va_get (D := (dC, dI)) (ci := 10) (v := .ref h_t_s) (C := RX11) (T := TX11) (N := 29) hx hb hts iMD_costs_X11_costs_1 hown hK hP 0 rfl rfl 0 (by decide) (hts _ kMD_costs_X11_costs_2) (fun _ h9 => h9) rfl dX11_costs_9 ?_
  refine lv_iconst (v := (5 : Int32)) hx hb dX11_costs_12 (by decide) ?_
  refine va_iald hx hb hK hP 4 0 rfl rfl (vin (by decide)) dX11_costs_13 ?_
  refine lv_iconst (v := (0 : Int32)) hx hb dX11_costs_14 (by decide) ?_
  refine lv_aload_n hx hb dX11_costs_15 rfl (lv_at hl 0 rfl) ?_
  refine va_get (D := (dC, dI)) (ci := 10) (v := .ref h_t_s) (C := RX11) (T := TX11) (N := 29) hx hb hts iMD_costs_X11_costs_1 hown hK hP 0 rfl rfl 0 (by decide) (hts _ kMD_costs_X11_costs_2) (fun _ h9 => h9) rfl dX11_costs_16 ?_
  refine lv_iconst (v := (0 : Int32)) hx hb dX11_costs_19 (by decide) ?_
  refine va_iald hx hb hK hP 4 0 rfl rfl (vin (by decide)) dX11_costs_20 ?_
  obtain ⟨o2, ho2, hres⟩ := bd_of hres
  have hPc := hP.sub (ws' := []) [] rfl
  have hDc := hD.sub (ws' := []) [] (by decide) rfl
  have hFc := va_free (wc := []) hD hS hA [] rfl
  refine va_calli (va_runS (As := [.int (rd t_s (5 : Int32)), .int (0 : Int32), .int (rd t_s (0 : Int32))]) (rest := [.ref h_t_cost]) ⟨hx, hb, hml, hown, hts⟩ (cMD_part l dC dI cI cJ cC cS H.size (rd t_s (5 : Int32)) (0 : Int32) (rd t_s (0 : Int32)) o2 ho2) (va_cwS 3 hts gX11_costs_X11_part rfl rfl rfl (by decide +kernel) ⟨Nat.le_of_ble_eq_true rfl, Nat.le_of_ble_eq_true rfl⟩) ⟨fun a U g mk q => by obtain ⟨q0, q1, qP, qK, qN, qD⟩ := q; exact ⟨q0, q1, qP, va_K.moved (u := U) (U := U.calling g mk a) (Vm.Alike.refl U.vm) qK, nwS (u := U) (U := U.calling g mk a) rfl qN, qD⟩, fun U hU hW => ⟨rfl, by rw [hU], by rw [hU]; exact hPc, va_K.moved hW.alike hK, nwW hW hN, hDc.weaken (fun _ _ _ _ => trivial)⟩⟩ rfl rfl hl.1 rfl (lv_room (Nat.le_of_ble_eq_true rfl)) dX11_costs_21 ⟨Nat.zero_le _, Nat.zero_le _⟩) hS (fun q _ h => hFc q h) hFc (fun r9 u9 t H1 locs ht hvm hw hB hz1 hk1 hS => ?_)
  have hw := hw.symm
  subst hw
  obtain ⟨hP1, hK1, hD1⟩ := hB
  rw [ht] at hP1
  obtain ⟨hP, hD⟩ := va_join (wr := [(h_t, .inr (10, [.ref h_t_s, .ref h_t_was, .ref h_t_begun, .int t_states, .ref h_t_text, .int t_typed, .ref h_t_wrong, .ref h_t_cost, .ref h_t_first, .ref h_t_block, .ref h_t_many, .ref h_t_stack, .int t_height, .ref h_t_written, .int t_length, .ref h_t_own, .ref h_t_levelAt, .ref h_t_itemAt, .ref h_t_times, .int t_at, .int t_ownLength, .int t_depth, .int t_deepest, .int t_letters, .int t_repeats, .int t_corrections, .int t_mostCorrections, .int t_place, .int t_reason])), (h_t_block, .inl (cI, 3125, .inl o1.1)), (h_t_cost, .inl (cI, 3125, .inl o1.2.1)), (h_t_first, .inl (cI, 3125, .inl o1.2.2.1)), (h_t_s, .inl (cI, 30, .inl t_s)), (h_t_wrong, .inl (cI, 15625, .inl o1.2.2.2))]) (w1 := []) hP hD [] [0, 1, 2, 3, 4, 5] rfl rfl (by decide) (by decide) hk1 hFc hP1 hD1
  generalize H1 = H at hP hS ⊢
  have hP : va_P (dC, dI) vwCl [(h_t, .inr (10, [.ref h_t_s, .ref h_t_was, .ref h_t_begun, .int t_states, .ref h_t_text, .int t_typed, .ref h_t_wrong, .ref h_t_cost, .ref h_t_first, .ref h_t_block, .ref h_t_many, .ref h_t_stack, .int t_height, .ref h_t_written, .int t_length, .ref h_t_own, .ref h_t_levelAt, .ref h_t_itemAt, .ref h_t_times, .int t_at, .int t_ownLength, .int t_depth, .int t_deepest, .int t_letters, .int t_repeats, .int t_corrections, .int t_mostCorrections, .int t_place, .int t_reason])), (h_t_block, .inl (cI, 3125, .inl o1.1)), (h_t_cost, .inl (cI, 3125, .inl o1.2.1)), (h_t_first, .inl (cI, 3125, .inl o1.2.2.1)), (h_t_s, .inl (cI, 30, .inl t_s)), (h_t_wrong, .inl (cI, 15625, .inl o1.2.2.2))] H := hP
  have hD : va_D A [(h_t, .inr (10, [.ref h_t_s, .ref h_t_was, .ref h_t_begun, .int t_states, .ref h_t_text, .int t_typed, .ref h_t_wrong, .ref h_t_cost, .ref h_t_first, .ref h_t_block, .ref h_t_many, .ref h_t_stack, .int t_height, .ref h_t_written, .int t_length, .ref h_t_own, .ref h_t_levelAt, .ref h_t_itemAt, .ref h_t_times, .int t_at, .int t_ownLength, .int t_depth, .int t_deepest, .int t_letters, .int t_repeats, .int t_corrections, .int t_mostCorrections, .int t_place, .int t_reason])), (h_t_block, .inl (cI, 3125, .inl o1.1)), (h_t_cost, .inl (cI, 3125, .inl o1.2.1)), (h_t_first, .inl (cI, 3125, .inl o1.2.2.1)), (h_t_s, .inl (cI, 30, .inl t_s)), (h_t_wrong, .inl (cI, 15625, .inl o1.2.2.2))] := hD
  obtain ⟨c_3, hres⟩ := ck_of hres
  refine va_iald hx hb hK hP 2 0 rfl rfl c_3 dX11_costs_24 ?_
  obtain ⟨e9_0, e9_1, e9_2, e9_3, e9_4⟩ := tup5 hres
  subst e9_0
  subst e9_1
  subst e9_2
  subst e9_3
  subst e9_4
  rw [← hQQ]
  exact W.iret (v := (rd o1.2.1 o2)) hx hb hr (fun t ht hW => ⟨⟨(rd o1.2.1 o2), (), rfl, rfl, by rw [ht]; exact hP, va_K.moved hW.alike hK, hD⟩, hS.F ht⟩) hS.2.2 dX11_costs_25

-- MD_costsWith
def fMD_costsWith (t_block : Nat → Int32) (t_cost : Nat → Int32) (t_first : Nat → Int32) (t_s : Nat → Int32) (t_wrong : Nat → Int32) (x1 : Int32) (x2 : Int32) : Option (Int32 × (Nat → Int32) × (Nat → Int32) × (Nat → Int32) × (Nat → Int32) × (Nat → Int32)) :=
  if bIn ((6 : Int32) + x1) 30 = true then
    if bIn ((6 : Int32) + x1) 30 = true then
      (fMD_costs (wr t_s ((6 : Int32) + x1) x2) t_block t_cost t_first t_wrong).bind fun o3 =>
        if bIn ((6 : Int32) + x1) 30 = true then
          some (o3.1, o3.2.1, o3.2.2.1, o3.2.2.2.1, (wr (wr t_s ((6 : Int32) + x1) x2) ((6 : Int32) + x1) (rd t_s ((6 : Int32) + x1))), o3.2.2.2.2)
        else none
    else none
  else none
theorem kMD_costsWith_X11_costsWith_0 : Cond.fieldLink RX11 7 "RepeatNestsModel" "s" "[I" ∈ wsX11_costsWith := by decide +kernel
theorem iMD_costsWith_X11_costsWith_1 : ∀ w ∈ wsX110, w ∈ wsX11_costsWith := by decide +kernel
set_option maxHeartbeats 4000000 in
set_option maxRecDepth 100000 in
theorem cMD_costsWith (l : Launch) (dC : Nat → ClassId) (dI : Nat → Nat → Nat) (cI cJ cC cS : ClassId) (h_t h_t_s h_t_was h_t_begun h_t_text h_t_wrong h_t_cost h_t_first h_t_block h_t_many h_t_stack h_t_written h_t_own h_t_levelAt h_t_itemAt h_t_times : Nat) (sz : Nat) (t_states : Int32) (t_typed : Int32) (t_height : Int32) (t_length : Int32) (t_at : Int32) (t_ownLength : Int32) (t_depth : Int32) (t_deepest : Int32) (t_letters : Int32) (t_repeats : Int32) (t_corrections : Int32) (t_mostCorrections : Int32) (t_place : Int32) (t_reason : Int32) (t_block : Nat → Int32) (t_cost : Nat → Int32) (t_first : Nat → Int32) (t_s : Nat → Int32) (t_wrong : Nat → Int32) (x1 : Int32) (x2 : Int32) (r : Int32) (y_t_block : Nat → Int32) (y_t_cost : Nat → Int32) (y_t_first : Nat → Int32) (y_t_s : Nat → Int32) (y_t_wrong : Nat → Int32) (hres : fMD_costsWith t_block t_cost t_first t_s t_wrong x1 x2 = some (r, y_t_block, y_t_cost, y_t_first, y_t_s, y_t_wrong)) :
    Met l yX11_costsWith wsX11_costsWith ({ frames := 4, cells := 0, slots := 0, locals := 94 } : Room) (va_Pc [.ref h_t, .int x1, .int x2] (fun (U : State) => U.heap.size = sz ∧ va_P (dC, dI) vwCl [(h_t, .inr (10, [.ref h_t_s, .ref h_t_was, .ref h_t_begun, .int t_states, .ref h_t_text, .int t_typed, .ref h_t_wrong, .ref h_t_cost, .ref h_t_first, .ref h_t_block, .ref h_t_many, .ref h_t_stack, .int t_height, .ref h_t_written, .int t_length, .ref h_t_own, .ref h_t_levelAt, .ref h_t_itemAt, .ref h_t_times, .int t_at, .int t_ownLength, .int t_depth, .int t_deepest, .int t_letters, .int t_repeats, .int t_corrections, .int t_mostCorrections, .int t_place, .int t_reason])), (h_t_block, .inl (cI, 3125, .inl t_block)), (h_t_cost, .inl (cI, 3125, .inl t_cost)), (h_t_first, .inl (cI, 3125, .inl t_first)), (h_t_s, .inl (cI, 30, .inl t_s)), (h_t_wrong, .inl (cI, 15625, .inl t_wrong))] U.heap ∧ va_K (dC, dI) vwCl (tyA cI cJ cC cS) U ∧ nwN U ∧ va_D (fun _ => True) [(h_t, .inr (10, [.ref h_t_s, .ref h_t_was, .ref h_t_begun, .int t_states, .ref h_t_text, .int t_typed, .ref h_t_wrong, .ref h_t_cost, .ref h_t_first, .ref h_t_block, .ref h_t_many, .ref h_t_stack, .int t_height, .ref h_t_written, .int t_length, .ref h_t_own, .ref h_t_levelAt, .ref h_t_itemAt, .ref h_t_times, .int t_at, .int t_ownLength, .int t_depth, .int t_deepest, .int t_letters, .int t_repeats, .int t_corrections, .int t_mostCorrections, .int t_place, .int t_reason])), (h_t_block, .inl (cI, 3125, .inl t_block)), (h_t_cost, .inl (cI, 3125, .inl t_cost)), (h_t_first, .inl (cI, 3125, .inl t_first)), (h_t_s, .inl (cI, 30, .inl t_s)), (h_t_wrong, .inl (cI, 15625, .inl t_wrong))])) (va_Qi (fun (r9 : Int32) (_ : Unit) => r9 = r) (fun (_ : Unit) (t : State) => va_P (dC, dI) vwCl [(h_t, .inr (10, [.ref h_t_s, .ref h_t_was, .ref h_t_begun, .int t_states, .ref h_t_text, .int t_typed, .ref h_t_wrong, .ref h_t_cost, .ref h_t_first, .ref h_t_block, .ref h_t_many, .ref h_t_stack, .int t_height, .ref h_t_written, .int t_length, .ref h_t_own, .ref h_t_levelAt, .ref h_t_itemAt, .ref h_t_times, .int t_at, .int t_ownLength, .int t_depth, .int t_deepest, .int t_letters, .int t_repeats, .int t_corrections, .int t_mostCorrections, .int t_place, .int t_reason])), (h_t_block, .inl (cI, 3125, .inl y_t_block)), (h_t_cost, .inl (cI, 3125, .inl y_t_cost)), (h_t_first, .inl (cI, 3125, .inl y_t_first)), (h_t_s, .inl (cI, 30, .inl y_t_s)), (h_t_wrong, .inl (cI, 15625, .inl y_t_wrong))] t.heap ∧ va_K (dC, dI) vwCl (tyA cI cJ cC cS) t ∧ va_D (va_A [(h_t, .inr (10, [.ref h_t_s, .ref h_t_was, .ref h_t_begun, .int t_states, .ref h_t_text, .int t_typed, .ref h_t_wrong, .ref h_t_cost, .ref h_t_first, .ref h_t_block, .ref h_t_many, .ref h_t_stack, .int t_height, .ref h_t_written, .int t_length, .ref h_t_own, .ref h_t_levelAt, .ref h_t_itemAt, .ref h_t_times, .int t_at, .int t_ownLength, .int t_depth, .int t_deepest, .int t_letters, .int t_repeats, .int t_corrections, .int t_mostCorrections, .int t_place, .int t_reason])), (h_t_block, .inl (cI, 3125, .inl t_block)), (h_t_cost, .inl (cI, 3125, .inl t_cost)), (h_t_first, .inl (cI, 3125, .inl t_first)), (h_t_s, .inl (cI, 30, .inl t_s)), (h_t_wrong, .inl (cI, 15625, .inl t_wrong))] sz) [(h_t, .inr (10, [.ref h_t_s, .ref h_t_was, .ref h_t_begun, .int t_states, .ref h_t_text, .int t_typed, .ref h_t_wrong, .ref h_t_cost, .ref h_t_first, .ref h_t_block, .ref h_t_many, .ref h_t_stack, .int t_height, .ref h_t_written, .int t_length, .ref h_t_own, .ref h_t_levelAt, .ref h_t_itemAt, .ref h_t_times, .int t_at, .int t_ownLength, .int t_depth, .int t_deepest, .int t_letters, .int t_repeats, .int t_corrections, .int t_mostCorrections, .int t_place, .int t_reason])), (h_t_block, .inl (cI, 3125, .inl y_t_block)), (h_t_cost, .inl (cI, 3125, .inl y_t_cost)), (h_t_first, .inl (cI, 3125, .inl y_t_first)), (h_t_s, .inl (cI, 30, .inl y_t_s)), (h_t_wrong, .inl (cI, 15625, .inl y_t_wrong))]) (va_A [(h_t, .inr (10, [.ref h_t_s, .ref h_t_was, .ref h_t_begun, .int t_states, .ref h_t_text, .int t_typed, .ref h_t_wrong, .ref h_t_cost, .ref h_t_first, .ref h_t_block, .ref h_t_many, .ref h_t_stack, .int t_height, .ref h_t_written, .int t_length, .ref h_t_own, .ref h_t_levelAt, .ref h_t_itemAt, .ref h_t_times, .int t_at, .int t_ownLength, .int t_depth, .int t_deepest, .int t_letters, .int t_repeats, .int t_corrections, .int t_mostCorrections, .int t_place, .int t_reason])), (h_t_block, .inl (cI, 3125, .inl t_block)), (h_t_cost, .inl (cI, 3125, .inl t_cost)), (h_t_first, .inl (cI, 3125, .inl t_first)), (h_t_s, .inl (cI, 30, .inl t_s)), (h_t_wrong, .inl (cI, 15625, .inl t_wrong))] sz)) 0 0 (va_A [(h_t, .inr (10, [.ref h_t_s, .ref h_t_was, .ref h_t_begun, .int t_states, .ref h_t_text, .int t_typed, .ref h_t_wrong, .ref h_t_cost, .ref h_t_first, .ref h_t_block, .ref h_t_many, .ref h_t_stack, .int t_height, .ref h_t_written, .int t_length, .ref h_t_own, .ref h_t_levelAt, .ref h_t_itemAt, .ref h_t_times, .int t_at, .int t_ownLength, .int t_depth, .int t_deepest, .int t_letters, .int t_repeats, .int t_corrections, .int t_mostCorrections, .int t_place, .int t_reason])), (h_t_block, .inl (cI, 3125, .inl t_block)), (h_t_cost, .inl (cI, 3125, .inl t_cost)), (h_t_first, .inl (cI, 3125, .inl t_first)), (h_t_s, .inl (cI, 30, .inl t_s)), (h_t_wrong, .inl (cI, 15625, .inl t_wrong))] sz) := by
  refine Met.ofW (cc := cX11_costsWith) (maxL := 5) (ret := (some .int)) (by decide) rfl ?_
  intro p e s m args below meth c s₁ B hml hv
  obtain ⟨hargs, hsz, hP, hK, hN, hD0⟩ := hv
  have hx := B.exec
  have hb := B.bytes
  have hr := B.returns
  have hts := atoms_spec (ws := wsX11_costsWith) B.pre
  have hown : s.vm.findClass RX11 = some m.cls := findClass_of_methodNamed B.named
  have hlocks := B.notSynchronized
  subst hsz
  have hD := hD0.self (sz := s.heap.size)
  generalize hAe : va_A [(h_t, .inr (10, [.ref h_t_s, .ref h_t_was, .ref h_t_begun, .int t_states, .ref h_t_text, .int t_typed, .ref h_t_wrong, .ref h_t_cost, .ref h_t_first, .ref h_t_block, .ref h_t_many, .ref h_t_stack, .int t_height, .ref h_t_written, .int t_length, .ref h_t_own, .ref h_t_levelAt, .ref h_t_itemAt, .ref h_t_times, .int t_at, .int t_ownLength, .int t_depth, .int t_deepest, .int t_letters, .int t_repeats, .int t_corrections, .int t_mostCorrections, .int t_place, .int t_reason])), (h_t_block, .inl (cI, 3125, .inl t_block)), (h_t_cost, .inl (cI, 3125, .inl t_cost)), (h_t_first, .inl (cI, 3125, .inl t_first)), (h_t_s, .inl (cI, 30, .inl t_s)), (h_t_wrong, .inl (cI, 15625, .inl t_wrong))] s.heap.size = A at hD ⊢
  have hA : ∀ q : Nat, s.heap.size ≤ q → A q := fun q h => by rw [← hAe]; exact Or.inr h
  have hS : va_S A s.heap s.heap [] := va_S.rf
  have hP : va_P (dC, dI) vwCl [(h_t, .inr (10, [.ref h_t_s, .ref h_t_was, .ref h_t_begun, .int t_states, .ref h_t_text, .int t_typed, .ref h_t_wrong, .ref h_t_cost, .ref h_t_first, .ref h_t_block, .ref h_t_many, .ref h_t_stack, .int t_height, .ref h_t_written, .int t_length, .ref h_t_own, .ref h_t_levelAt, .ref h_t_itemAt, .ref h_t_times, .int t_at, .int t_ownLength, .int t_depth, .int t_deepest, .int t_letters, .int t_repeats, .int t_corrections, .int t_mostCorrections, .int t_place, .int t_reason])), (h_t_block, .inl (cI, 3125, .inl t_block)), (h_t_cost, .inl (cI, 3125, .inl t_cost)), (h_t_first, .inl (cI, 3125, .inl t_first)), (h_t_s, .inl (cI, 30, .inl t_s)), (h_t_wrong, .inl (cI, 15625, .inl t_wrong))] s.heap := hP
  have hl := lv_entry [.ref h_t, .int x1, .int x2] (n := 5) (Nat.le_of_ble_eq_true rfl)
  rw [show entryFrame m args 5 = entryFrame m ([.ref h_t, .int x1, .int x2] : List Value).toArray 5 from by rw [hargs], lg_entry_eq]
  generalize (lg_sl [.ref h_t, .int x1, .int x2] ++ List.replicate (5 - (lg_sl [.ref h_t, .int x1, .int x2]).length) Slot.unset).toArray = ls at hl ⊢
  have hl : lv_has ls 5 [(0, .ref h_t), (1, .int x1), (2, .int x2)] := hl
  generalize hQQ : MQ below (va_Qi (fun (r9 : Int32) (_ : Unit) => r9 = r) (fun (_ : Unit) (t : State) => va_P (dC, dI) vwCl [(h_t, .inr (10, [.ref h_t_s, .ref h_t_was, .ref h_t_begun, .int t_states, .ref h_t_text, .int t_typed, .ref h_t_wrong, .ref h_t_cost, .ref h_t_first, .ref h_t_block, .ref h_t_many, .ref h_t_stack, .int t_height, .ref h_t_written, .int t_length, .ref h_t_own, .ref h_t_levelAt, .ref h_t_itemAt, .ref h_t_times, .int t_at, .int t_ownLength, .int t_depth, .int t_deepest, .int t_letters, .int t_repeats, .int t_corrections, .int t_mostCorrections, .int t_place, .int t_reason])), (h_t_block, .inl (cI, 3125, .inl y_t_block)), (h_t_cost, .inl (cI, 3125, .inl y_t_cost)), (h_t_first, .inl (cI, 3125, .inl y_t_first)), (h_t_s, .inl (cI, 30, .inl y_t_s)), (h_t_wrong, .inl (cI, 15625, .inl y_t_wrong))] t.heap ∧ va_K (dC, dI) vwCl (tyA cI cJ cC cS) t ∧ va_D A [(h_t, .inr (10, [.ref h_t_s, .ref h_t_was, .ref h_t_begun, .int t_states, .ref h_t_text, .int t_typed, .ref h_t_wrong, .ref h_t_cost, .ref h_t_first, .ref h_t_block, .ref h_t_many, .ref h_t_stack, .int t_height, .ref h_t_written, .int t_length, .ref h_t_own, .ref h_t_levelAt, .ref h_t_itemAt, .ref h_t_times, .int t_at, .int t_ownLength, .int t_depth, .int t_deepest, .int t_letters, .int t_repeats, .int t_corrections, .int t_mostCorrections, .int t_place, .int t_reason])), (h_t_block, .inl (cI, 3125, .inl y_t_block)), (h_t_cost, .inl (cI, 3125, .inl y_t_cost)), (h_t_first, .inl (cI, 3125, .inl y_t_first)), (h_t_s, .inl (cI, 30, .inl y_t_s)), (h_t_wrong, .inl (cI, 15625, .inl y_t_wrong))]) A) args s 0 0 A = QQ
  obtain ⟨H, hH⟩ : ∃ H : Heap, H = s.heap := ⟨_, rfl⟩
  obtain ⟨locs, hlocs⟩ : ∃ locs : List Loc, locs = [] := ⟨_, rfl⟩
  rw [← hH] at hP
  have hS : va_S A s.heap H locs := by rw [hH, hlocs]; exact hS
  suffices hZ : W p l e (headSpec wsX11_costsWith ({ frames := 4, cells := 0, slots := 0, locals := 94 } : Room)).room s m args below meth c H locs 0 0 QQ (F0 m 0 ls []) by rw [hH, hlocs] at hZ; exact hZ
  clear hH hlocs
  rw [fMD_costsWith] at hres
  refine lv_aload_n hx hb dX11_costsWith_0 rfl (lv_at hl 0 rfl) ?_
  refine va_get (D := (dC, dI)) (ci := 10) (v := .ref h_t_s) (C := RX11) (T := TX11) (N := 29) hx hb hts iMD_costsWith_X11_costsWith_1 hown hK hP 0 rfl rfl 0 (by decide) (hts _ kMD_costsWith_X11_costsWith_0) (fun _ h9 => h9) rfl dX11_costsWith_1 ?_
  refine lv_bipush (v := (6 : Int32)) hx hb dX11_costsWith_4 (by decide) ?_
  refine lv_iload_n hx hb dX11_costsWith_6 rfl (lv_at hl 1 rfl) ?_
  refine lv_iadd hx hb dX11_costsWith_7 ?_
  obtain ⟨c_1, hres⟩ := ck_of hres
  refine va_iald hx hb hK hP 4 0 rfl rfl c_1 dX11_costsWith_8 ?_
  refine lv_istore_n (lv' := [(3, .int (rd t_s ((6 : Int32) + x1))), (0, .ref h_t), (1, .int x1), (2, .int x2)]) hx hb dX11_costsWith_9 rfl hl (by decide) rfl (fun ls hl => ?_)
  refine lv_aload_n hx hb dX11_costsWith_10 rfl (lv_at hl 1 rfl) ?_
  refine va_get (D := (dC, dI)) (ci := 10) (v := .ref h_t_s) (C := RX11) (T := TX11) (N := 29) hx hb hts iMD_costsWith_X11_costsWith_1 hown hK hP 0 rfl rfl 0 (by decide) (hts _ kMD_costsWith_X11_costsWith_0) (fun _ h9 => h9) rfl dX11_costsWith_11 ?_
  refine lv_bipush (v := (6 : Int32)) hx hb dX11_costsWith_14 (by decide) ?_
  refine lv_iload_n hx hb dX11_costsWith_16 rfl (lv_at hl 2 rfl) ?_
  refine lv_iadd hx hb dX11_costsWith_17 ?_
  refine lv_iload_n hx hb dX11_costsWith_18 rfl (lv_at hl 3 rfl) ?_
  obtain ⟨c_2, hres⟩ := ck_of hres
  refine va_iast hx hb hK hP hD hS 4 0 rfl rfl c_2 dX11_costsWith_19 (fun H locs hP hD hS => ?_)
  have hP : va_P (dC, dI) vwCl [(h_t, .inr (10, [.ref h_t_s, .ref h_t_was, .ref h_t_begun, .int t_states, .ref h_t_text, .int t_typed, .ref h_t_wrong, .ref h_t_cost, .ref h_t_first, .ref h_t_block, .ref h_t_many, .ref h_t_stack, .int t_height, .ref h_t_written, .int t_length, .ref h_t_own, .ref h_t_levelAt, .ref h_t_itemAt, .ref h_t_times, .int t_at, .int t_ownLength, .int t_depth, .int t_deepest, .int t_letters, .int t_repeats, .int t_corrections, .int t_mostCorrections, .int t_place, .int t_reason])), (h_t_block, .inl (cI, 3125, .inl t_block)), (h_t_cost, .inl (cI, 3125, .inl t_cost)), (h_t_first, .inl (cI, 3125, .inl t_first)), (h_t_s, .inl (cI, 30, .inl (wr t_s ((6 : Int32) + x1) x2))), (h_t_wrong, .inl (cI, 15625, .inl t_wrong))] H := hP
  have hD : va_D A [(h_t, .inr (10, [.ref h_t_s, .ref h_t_was, .ref h_t_begun, .int t_states, .ref h_t_text, .int t_typed, .ref h_t_wrong, .ref h_t_cost, .ref h_t_first, .ref h_t_block, .ref h_t_many, .ref h_t_stack, .int t_height, .ref h_t_written, .int t_length, .ref h_t_own, .ref h_t_levelAt, .ref h_t_itemAt, .ref h_t_times, .int t_at, .int t_ownLength, .int t_depth, .int t_deepest, .int t_letters, .int t_repeats, .int t_corrections, .int t_mostCorrections, .int t_place, .int t_reason])), (h_t_block, .inl (cI, 3125, .inl t_block)), (h_t_cost, .inl (cI, 3125, .inl t_cost)), (h_t_first, .inl (cI, 3125, .inl t_first)), (h_t_s, .inl (cI, 30, .inl (wr t_s ((6 : Int32) + x1) x2))), (h_t_wrong, .inl (cI, 15625, .inl t_wrong))] := hD
  refine lv_aload_n hx hb dX11_costsWith_20 rfl (lv_at hl 1 rfl) ?_
  obtain ⟨o3, ho3, hres⟩ := bd_of hres
  have hPc := hP.sub (ws' := [(h_t, .inr (10, [.ref h_t_s, .ref h_t_was, .ref h_t_begun, .int t_states, .ref h_t_text, .int t_typed, .ref h_t_wrong, .ref h_t_cost, .ref h_t_first, .ref h_t_block, .ref h_t_many, .ref h_t_stack, .int t_height, .ref h_t_written, .int t_length, .ref h_t_own, .ref h_t_levelAt, .ref h_t_itemAt, .ref h_t_times, .int t_at, .int t_ownLength, .int t_depth, .int t_deepest, .int t_letters, .int t_repeats, .int t_corrections, .int t_mostCorrections, .int t_place, .int t_reason])), (h_t_block, .inl (cI, 3125, .inl t_block)), (h_t_cost, .inl (cI, 3125, .inl t_cost)), (h_t_first, .inl (cI, 3125, .inl t_first)), (h_t_s, .inl (cI, 30, .inl (wr t_s ((6 : Int32) + x1) x2))), (h_t_wrong, .inl (cI, 15625, .inl t_wrong))]) [0, 1, 2, 3, 4, 5] rfl
  have hDc := hD.sub (ws' := [(h_t, .inr (10, [.ref h_t_s, .ref h_t_was, .ref h_t_begun, .int t_states, .ref h_t_text, .int t_typed, .ref h_t_wrong, .ref h_t_cost, .ref h_t_first, .ref h_t_block, .ref h_t_many, .ref h_t_stack, .int t_height, .ref h_t_written, .int t_length, .ref h_t_own, .ref h_t_levelAt, .ref h_t_itemAt, .ref h_t_times, .int t_at, .int t_ownLength, .int t_depth, .int t_deepest, .int t_letters, .int t_repeats, .int t_corrections, .int t_mostCorrections, .int t_place, .int t_reason])), (h_t_block, .inl (cI, 3125, .inl t_block)), (h_t_cost, .inl (cI, 3125, .inl t_cost)), (h_t_first, .inl (cI, 3125, .inl t_first)), (h_t_s, .inl (cI, 30, .inl (wr t_s ((6 : Int32) + x1) x2))), (h_t_wrong, .inl (cI, 15625, .inl t_wrong))]) [0, 1, 2, 3, 4, 5] (by decide) rfl
  have hFc := va_free (wc := [(h_t, .inr (10, [.ref h_t_s, .ref h_t_was, .ref h_t_begun, .int t_states, .ref h_t_text, .int t_typed, .ref h_t_wrong, .ref h_t_cost, .ref h_t_first, .ref h_t_block, .ref h_t_many, .ref h_t_stack, .int t_height, .ref h_t_written, .int t_length, .ref h_t_own, .ref h_t_levelAt, .ref h_t_itemAt, .ref h_t_times, .int t_at, .int t_ownLength, .int t_depth, .int t_deepest, .int t_letters, .int t_repeats, .int t_corrections, .int t_mostCorrections, .int t_place, .int t_reason])), (h_t_block, .inl (cI, 3125, .inl t_block)), (h_t_cost, .inl (cI, 3125, .inl t_cost)), (h_t_first, .inl (cI, 3125, .inl t_first)), (h_t_s, .inl (cI, 30, .inl (wr t_s ((6 : Int32) + x1) x2))), (h_t_wrong, .inl (cI, 15625, .inl t_wrong))]) hD hS hA [0, 1, 2, 3, 4, 5] rfl
  refine va_calli (va_runV (As := []) (rest := []) ⟨hx, hb, hml, hown, hts⟩ (cMD_costs l dC dI cI cJ cC cS h_t h_t_s h_t_was h_t_begun h_t_text h_t_wrong h_t_cost h_t_first h_t_block h_t_many h_t_stack h_t_written h_t_own h_t_levelAt h_t_itemAt h_t_times H.size t_states t_typed t_height t_length t_at t_ownLength t_depth t_deepest t_letters t_repeats t_corrections t_mostCorrections t_place t_reason t_block t_cost t_first (wr t_s ((6 : Int32) + x1) x2) t_wrong o3.1 o3.2.1 o3.2.2.1 o3.2.2.2.1 o3.2.2.2.2 ho3) (cwV 0 hts gX11_costsWith_X11_costs rfl rfl rfl (by decide +kernel) ⟨Nat.le_of_ble_eq_true rfl, Nat.le_of_ble_eq_true rfl⟩) ⟨fun a U g mk q => by obtain ⟨q0, q1, qP, qK, qN, qD⟩ := q; exact ⟨q0, q1, qP, va_K.moved (u := U) (U := U.calling g mk a) (Vm.Alike.refl U.vm) qK, nwS (u := U) (U := U.calling g mk a) rfl qN, qD⟩, va_recv hK hPc (ci := 10) (q0 := 0) rfl rfl, fun U hU hW => ⟨rfl, by rw [hU], by rw [hU]; exact hPc, va_K.moved hW.alike hK, nwW hW hN, hDc.weaken (fun _ _ _ _ => trivial)⟩⟩ rfl rfl hl.1 rfl (lv_room (Nat.le_of_ble_eq_true rfl)) dX11_costsWith_21 ⟨Nat.zero_le _, Nat.zero_le _⟩) hS (fun q _ h => hFc q h) hFc (fun r9 u9 t H1 locs ht hvm hw hB hz1 hk1 hS => ?_)
  have hw := hw.symm
  subst hw
  obtain ⟨hP1, hK1, hD1⟩ := hB
  rw [ht] at hP1
  obtain ⟨hP, hD⟩ := va_join (wr := []) (w1 := [(h_t, .inr (10, [.ref h_t_s, .ref h_t_was, .ref h_t_begun, .int t_states, .ref h_t_text, .int t_typed, .ref h_t_wrong, .ref h_t_cost, .ref h_t_first, .ref h_t_block, .ref h_t_many, .ref h_t_stack, .int t_height, .ref h_t_written, .int t_length, .ref h_t_own, .ref h_t_levelAt, .ref h_t_itemAt, .ref h_t_times, .int t_at, .int t_ownLength, .int t_depth, .int t_deepest, .int t_letters, .int t_repeats, .int t_corrections, .int t_mostCorrections, .int t_place, .int t_reason])), (h_t_block, .inl (cI, 3125, .inl o3.2.1)), (h_t_cost, .inl (cI, 3125, .inl o3.2.2.1)), (h_t_first, .inl (cI, 3125, .inl o3.2.2.2.1)), (h_t_s, .inl (cI, 30, .inl (wr t_s ((6 : Int32) + x1) x2))), (h_t_wrong, .inl (cI, 15625, .inl o3.2.2.2.2))]) hP hD [0, 1, 2, 3, 4, 5] [] rfl rfl (by decide) (by decide) hk1 hFc hP1 hD1
  generalize H1 = H at hP hS ⊢
  have hP : va_P (dC, dI) vwCl [(h_t, .inr (10, [.ref h_t_s, .ref h_t_was, .ref h_t_begun, .int t_states, .ref h_t_text, .int t_typed, .ref h_t_wrong, .ref h_t_cost, .ref h_t_first, .ref h_t_block, .ref h_t_many, .ref h_t_stack, .int t_height, .ref h_t_written, .int t_length, .ref h_t_own, .ref h_t_levelAt, .ref h_t_itemAt, .ref h_t_times, .int t_at, .int t_ownLength, .int t_depth, .int t_deepest, .int t_letters, .int t_repeats, .int t_corrections, .int t_mostCorrections, .int t_place, .int t_reason])), (h_t_block, .inl (cI, 3125, .inl o3.2.1)), (h_t_cost, .inl (cI, 3125, .inl o3.2.2.1)), (h_t_first, .inl (cI, 3125, .inl o3.2.2.2.1)), (h_t_s, .inl (cI, 30, .inl (wr t_s ((6 : Int32) + x1) x2))), (h_t_wrong, .inl (cI, 15625, .inl o3.2.2.2.2))] H := hP
  have hD : va_D A [(h_t, .inr (10, [.ref h_t_s, .ref h_t_was, .ref h_t_begun, .int t_states, .ref h_t_text, .int t_typed, .ref h_t_wrong, .ref h_t_cost, .ref h_t_first, .ref h_t_block, .ref h_t_many, .ref h_t_stack, .int t_height, .ref h_t_written, .int t_length, .ref h_t_own, .ref h_t_levelAt, .ref h_t_itemAt, .ref h_t_times, .int t_at, .int t_ownLength, .int t_depth, .int t_deepest, .int t_letters, .int t_repeats, .int t_corrections, .int t_mostCorrections, .int t_place, .int t_reason])), (h_t_block, .inl (cI, 3125, .inl o3.2.1)), (h_t_cost, .inl (cI, 3125, .inl o3.2.2.1)), (h_t_first, .inl (cI, 3125, .inl o3.2.2.2.1)), (h_t_s, .inl (cI, 30, .inl (wr t_s ((6 : Int32) + x1) x2))), (h_t_wrong, .inl (cI, 15625, .inl o3.2.2.2.2))] := hD
  refine lv_istore (lv' := [(4, .int o3.1), (3, .int (rd t_s ((6 : Int32) + x1))), (0, .ref h_t), (1, .int x1), (2, .int x2)]) hx hb dX11_costsWith_24 hl (by decide) rfl (fun ls hl => ?_)
  refine lv_aload_n hx hb dX11_costsWith_26 rfl (lv_at hl 2 rfl) ?_
  refine va_get (D := (dC, dI)) (ci := 10) (v := .ref h_t_s) (C := RX11) (T := TX11) (N := 29) hx hb hts iMD_costsWith_X11_costsWith_1 hown hK hP 0 rfl rfl 0 (by decide) (hts _ kMD_costsWith_X11_costsWith_0) (fun _ h9 => h9) rfl dX11_costsWith_27 ?_
  refine lv_bipush (v := (6 : Int32)) hx hb dX11_costsWith_30 (by decide) ?_
  refine lv_iload_n hx hb dX11_costsWith_32 rfl (lv_at hl 3 rfl) ?_
  refine lv_iadd hx hb dX11_costsWith_33 ?_
  refine lv_iload_n hx hb dX11_costsWith_34 rfl (lv_at hl 1 rfl) ?_
  obtain ⟨c_4, hres⟩ := ck_of hres
  refine va_iast hx hb hK hP hD hS 4 0 rfl rfl c_4 dX11_costsWith_35 (fun H locs hP hD hS => ?_)
  have hP : va_P (dC, dI) vwCl [(h_t, .inr (10, [.ref h_t_s, .ref h_t_was, .ref h_t_begun, .int t_states, .ref h_t_text, .int t_typed, .ref h_t_wrong, .ref h_t_cost, .ref h_t_first, .ref h_t_block, .ref h_t_many, .ref h_t_stack, .int t_height, .ref h_t_written, .int t_length, .ref h_t_own, .ref h_t_levelAt, .ref h_t_itemAt, .ref h_t_times, .int t_at, .int t_ownLength, .int t_depth, .int t_deepest, .int t_letters, .int t_repeats, .int t_corrections, .int t_mostCorrections, .int t_place, .int t_reason])), (h_t_block, .inl (cI, 3125, .inl o3.2.1)), (h_t_cost, .inl (cI, 3125, .inl o3.2.2.1)), (h_t_first, .inl (cI, 3125, .inl o3.2.2.2.1)), (h_t_s, .inl (cI, 30, .inl (wr (wr t_s ((6 : Int32) + x1) x2) ((6 : Int32) + x1) (rd t_s ((6 : Int32) + x1))))), (h_t_wrong, .inl (cI, 15625, .inl o3.2.2.2.2))] H := hP
  have hD : va_D A [(h_t, .inr (10, [.ref h_t_s, .ref h_t_was, .ref h_t_begun, .int t_states, .ref h_t_text, .int t_typed, .ref h_t_wrong, .ref h_t_cost, .ref h_t_first, .ref h_t_block, .ref h_t_many, .ref h_t_stack, .int t_height, .ref h_t_written, .int t_length, .ref h_t_own, .ref h_t_levelAt, .ref h_t_itemAt, .ref h_t_times, .int t_at, .int t_ownLength, .int t_depth, .int t_deepest, .int t_letters, .int t_repeats, .int t_corrections, .int t_mostCorrections, .int t_place, .int t_reason])), (h_t_block, .inl (cI, 3125, .inl o3.2.1)), (h_t_cost, .inl (cI, 3125, .inl o3.2.2.1)), (h_t_first, .inl (cI, 3125, .inl o3.2.2.2.1)), (h_t_s, .inl (cI, 30, .inl (wr (wr t_s ((6 : Int32) + x1) x2) ((6 : Int32) + x1) (rd t_s ((6 : Int32) + x1))))), (h_t_wrong, .inl (cI, 15625, .inl o3.2.2.2.2))] := hD
  refine lv_iload hx hb dX11_costsWith_36 (lv_at hl 0 rfl) ?_
  obtain ⟨e9_0, e9_1, e9_2, e9_3, e9_4, e9_5⟩ := tup6 hres
  subst e9_0
  subst e9_1
  subst e9_2
  subst e9_3
  subst e9_4
  subst e9_5
  rw [← hQQ]
  exact W.iret (v := o3.1) hx hb hr (fun t ht hW => ⟨⟨o3.1, (), rfl, rfl, by rw [ht]; exact hP, va_K.moved hW.alike hK, hD⟩, hS.F ht⟩) hS.2.2 dX11_costsWith_38

-- MD_bestChange
def fMD_bestChange_70 (k23 : Int32 → Int32 → Int32 → (Nat → Int32) → (Nat → Int32) → (Nat → Int32) → (Nat → Int32) → (Nat → Int32) → Option (Int32 × (Nat → Int32) × (Nat → Int32) × (Nat → Int32) × (Nat → Int32) × (Nat → Int32))) (k37 : Int32 → Int32 → Int32 → Int32 → (Nat → Int32) → (Nat → Int32) → (Nat → Int32) → (Nat → Int32) → (Nat → Int32) → Option (Int32 × (Nat → Int32) × (Nat → Int32) × (Nat → Int32) × (Nat → Int32) × (Nat → Int32))) (x2 : Int32) (x4 : Int32) (x5 : Int32) (x6 : Int32) (s0 : Int32) (t_block : Nat → Int32) (t_cost : Nat → Int32) (t_first : Nat → Int32) (t_s : Nat → Int32) (t_wrong : Nat → Int32) : Option (Int32 × (Nat → Int32) × (Nat → Int32) × (Nat → Int32) × (Nat → Int32) × (Nat → Int32)) :=
    if x2 ≤ x6 then
      k37 x2 s0 x4 (x5 + 1) t_block t_cost t_first t_s t_wrong
    else
      k37 x6 s0 x4 (x5 + 1) t_block t_cost t_first t_s t_wrong
def fMD_bestChange_37 (k23 : Int32 → Int32 → Int32 → (Nat → Int32) → (Nat → Int32) → (Nat → Int32) → (Nat → Int32) → (Nat → Int32) → Option (Int32 × (Nat → Int32) × (Nat → Int32) × (Nat → Int32) × (Nat → Int32) × (Nat → Int32))) : Nat → Int32 → Int32 → Int32 → Int32 → (Nat → Int32) → (Nat → Int32) → (Nat → Int32) → (Nat → Int32) → (Nat → Int32) → Option (Int32 × (Nat → Int32) × (Nat → Int32) × (Nat → Int32) × (Nat → Int32) × (Nat → Int32))
  | 0, _, _, _, _, _, _, _, _, _ => none
  | n + 1, x2, x3, x4, x5, t_block, t_cost, t_first, t_s, t_wrong =>
    if (4 : Int32) ≤ x5 then
      k23 x2 x3 (x4 + 1) t_block t_cost t_first t_s t_wrong
    else
      (fMD_costsWith t_block t_cost t_first t_s t_wrong x4 x5).bind fun o2 =>
        if x2 ≤ o2.1 then
          fMD_bestChange_70 k23 (fMD_bestChange_37 k23 n) x2 x4 x5 o2.1 x3 o2.2.1 o2.2.2.1 o2.2.2.2.1 o2.2.2.2.2.1 o2.2.2.2.2.2
        else
          fMD_bestChange_70 k23 (fMD_bestChange_37 k23 n) x2 x4 x5 o2.1 (((4 : Int32) * x4) + x5) o2.2.1 o2.2.2.1 o2.2.2.2.1 o2.2.2.2.2.1 o2.2.2.2.2.2
def fMD_bestChange_23 (x1 : Int32) : Nat → Int32 → Int32 → Int32 → (Nat → Int32) → (Nat → Int32) → (Nat → Int32) → (Nat → Int32) → (Nat → Int32) → Option (Int32 × (Nat → Int32) × (Nat → Int32) × (Nat → Int32) × (Nat → Int32) × (Nat → Int32))
  | 0, _, _, _, _, _, _, _, _ => none
  | n + 1, x2, x3, x4, t_block, t_cost, t_first, t_s, t_wrong =>
    if (rd t_s (0 : Int32)) ≤ x4 then
      if x3 = (-1000004 : Int32) then
        some ((-1000004 : Int32), t_block, t_cost, t_first, t_s, t_wrong)
      else
        if x1 = 0 then
          some ((x3 / (4 : Int32)), t_block, t_cost, t_first, t_s, t_wrong)
        else
          if x1 = (1 : Int32) then
            some ((x3 - x3 / (4 : Int32) * (4 : Int32)), t_block, t_cost, t_first, t_s, t_wrong)
          else
            some (x2, t_block, t_cost, t_first, t_s, t_wrong)
    else
      fMD_bestChange_37 (fMD_bestChange_23 x1 n) FU x2 x3 x4 (0 : Int32) t_block t_cost t_first t_s t_wrong
def fMD_bestChange (t_block : Nat → Int32) (t_cost : Nat → Int32) (t_first : Nat → Int32) (t_s : Nat → Int32) (t_wrong : Nat → Int32) (x1 : Int32) : Option (Int32 × (Nat → Int32) × (Nat → Int32) × (Nat → Int32) × (Nat → Int32) × (Nat → Int32)) :=
  (fMD_in x1 (0 : Int32) (2 : Int32)).bind fun o9 =>
    if o9 = 0 then
      some ((-1000001 : Int32), t_block, t_cost, t_first, t_s, t_wrong)
    else
      (fMD_costs t_s t_block t_cost t_first t_wrong).bind fun o11 =>
        fMD_bestChange_23 x1 FU o11.1 (-1000004 : Int32) (0 : Int32) o11.2.1 o11.2.2.1 o11.2.2.2.1 t_s o11.2.2.2.2
theorem kMD_bestChange_X11_bestChange_0 : Cond.fieldLink RX11 7 "RepeatNestsModel" "s" "[I" ∈ wsX11_bestChange := by decide +kernel
theorem iMD_bestChange_X11_bestChange_1 : ∀ w ∈ wsX110, w ∈ wsX11_bestChange := by decide +kernel
theorem kMD_bestChange_X11_bestChange_2 : Cond.constant RX11 79 (-1000004) ∈ wsX11_bestChange := by decide +kernel
theorem kMD_bestChange_X11_bestChange_3 : Cond.constant RX11 57 (-1000001) ∈ wsX11_bestChange := by decide +kernel
set_option maxHeartbeats 4000000 in
set_option maxRecDepth 100000 in
theorem cMD_bestChange (l : Launch) (dC : Nat → ClassId) (dI : Nat → Nat → Nat) (cI cJ cC cS : ClassId) (h_t h_t_s h_t_was h_t_begun h_t_text h_t_wrong h_t_cost h_t_first h_t_block h_t_many h_t_stack h_t_written h_t_own h_t_levelAt h_t_itemAt h_t_times : Nat) (sz : Nat) (t_states : Int32) (t_typed : Int32) (t_height : Int32) (t_length : Int32) (t_at : Int32) (t_ownLength : Int32) (t_depth : Int32) (t_deepest : Int32) (t_letters : Int32) (t_repeats : Int32) (t_corrections : Int32) (t_mostCorrections : Int32) (t_place : Int32) (t_reason : Int32) (t_block : Nat → Int32) (t_cost : Nat → Int32) (t_first : Nat → Int32) (t_s : Nat → Int32) (t_wrong : Nat → Int32) (x1 : Int32) (r : Int32) (y_t_block : Nat → Int32) (y_t_cost : Nat → Int32) (y_t_first : Nat → Int32) (y_t_s : Nat → Int32) (y_t_wrong : Nat → Int32) (hres : fMD_bestChange t_block t_cost t_first t_s t_wrong x1 = some (r, y_t_block, y_t_cost, y_t_first, y_t_s, y_t_wrong)) :
    Met l yX11_bestChange wsX11_bestChange ({ frames := 5, cells := 0, slots := 0, locals := 118 } : Room) (va_Pc [.ref h_t, .int x1] (fun (U : State) => U.heap.size = sz ∧ va_P (dC, dI) vwCl [(h_t, .inr (10, [.ref h_t_s, .ref h_t_was, .ref h_t_begun, .int t_states, .ref h_t_text, .int t_typed, .ref h_t_wrong, .ref h_t_cost, .ref h_t_first, .ref h_t_block, .ref h_t_many, .ref h_t_stack, .int t_height, .ref h_t_written, .int t_length, .ref h_t_own, .ref h_t_levelAt, .ref h_t_itemAt, .ref h_t_times, .int t_at, .int t_ownLength, .int t_depth, .int t_deepest, .int t_letters, .int t_repeats, .int t_corrections, .int t_mostCorrections, .int t_place, .int t_reason])), (h_t_block, .inl (cI, 3125, .inl t_block)), (h_t_cost, .inl (cI, 3125, .inl t_cost)), (h_t_first, .inl (cI, 3125, .inl t_first)), (h_t_s, .inl (cI, 30, .inl t_s)), (h_t_wrong, .inl (cI, 15625, .inl t_wrong))] U.heap ∧ va_K (dC, dI) vwCl (tyA cI cJ cC cS) U ∧ nwN U ∧ va_D (fun _ => True) [(h_t, .inr (10, [.ref h_t_s, .ref h_t_was, .ref h_t_begun, .int t_states, .ref h_t_text, .int t_typed, .ref h_t_wrong, .ref h_t_cost, .ref h_t_first, .ref h_t_block, .ref h_t_many, .ref h_t_stack, .int t_height, .ref h_t_written, .int t_length, .ref h_t_own, .ref h_t_levelAt, .ref h_t_itemAt, .ref h_t_times, .int t_at, .int t_ownLength, .int t_depth, .int t_deepest, .int t_letters, .int t_repeats, .int t_corrections, .int t_mostCorrections, .int t_place, .int t_reason])), (h_t_block, .inl (cI, 3125, .inl t_block)), (h_t_cost, .inl (cI, 3125, .inl t_cost)), (h_t_first, .inl (cI, 3125, .inl t_first)), (h_t_s, .inl (cI, 30, .inl t_s)), (h_t_wrong, .inl (cI, 15625, .inl t_wrong))])) (va_Qi (fun (r9 : Int32) (_ : Unit) => r9 = r) (fun (_ : Unit) (t : State) => va_P (dC, dI) vwCl [(h_t, .inr (10, [.ref h_t_s, .ref h_t_was, .ref h_t_begun, .int t_states, .ref h_t_text, .int t_typed, .ref h_t_wrong, .ref h_t_cost, .ref h_t_first, .ref h_t_block, .ref h_t_many, .ref h_t_stack, .int t_height, .ref h_t_written, .int t_length, .ref h_t_own, .ref h_t_levelAt, .ref h_t_itemAt, .ref h_t_times, .int t_at, .int t_ownLength, .int t_depth, .int t_deepest, .int t_letters, .int t_repeats, .int t_corrections, .int t_mostCorrections, .int t_place, .int t_reason])), (h_t_block, .inl (cI, 3125, .inl y_t_block)), (h_t_cost, .inl (cI, 3125, .inl y_t_cost)), (h_t_first, .inl (cI, 3125, .inl y_t_first)), (h_t_s, .inl (cI, 30, .inl y_t_s)), (h_t_wrong, .inl (cI, 15625, .inl y_t_wrong))] t.heap ∧ va_K (dC, dI) vwCl (tyA cI cJ cC cS) t ∧ va_D (va_A [(h_t, .inr (10, [.ref h_t_s, .ref h_t_was, .ref h_t_begun, .int t_states, .ref h_t_text, .int t_typed, .ref h_t_wrong, .ref h_t_cost, .ref h_t_first, .ref h_t_block, .ref h_t_many, .ref h_t_stack, .int t_height, .ref h_t_written, .int t_length, .ref h_t_own, .ref h_t_levelAt, .ref h_t_itemAt, .ref h_t_times, .int t_at, .int t_ownLength, .int t_depth, .int t_deepest, .int t_letters, .int t_repeats, .int t_corrections, .int t_mostCorrections, .int t_place, .int t_reason])), (h_t_block, .inl (cI, 3125, .inl t_block)), (h_t_cost, .inl (cI, 3125, .inl t_cost)), (h_t_first, .inl (cI, 3125, .inl t_first)), (h_t_s, .inl (cI, 30, .inl t_s)), (h_t_wrong, .inl (cI, 15625, .inl t_wrong))] sz) [(h_t, .inr (10, [.ref h_t_s, .ref h_t_was, .ref h_t_begun, .int t_states, .ref h_t_text, .int t_typed, .ref h_t_wrong, .ref h_t_cost, .ref h_t_first, .ref h_t_block, .ref h_t_many, .ref h_t_stack, .int t_height, .ref h_t_written, .int t_length, .ref h_t_own, .ref h_t_levelAt, .ref h_t_itemAt, .ref h_t_times, .int t_at, .int t_ownLength, .int t_depth, .int t_deepest, .int t_letters, .int t_repeats, .int t_corrections, .int t_mostCorrections, .int t_place, .int t_reason])), (h_t_block, .inl (cI, 3125, .inl y_t_block)), (h_t_cost, .inl (cI, 3125, .inl y_t_cost)), (h_t_first, .inl (cI, 3125, .inl y_t_first)), (h_t_s, .inl (cI, 30, .inl y_t_s)), (h_t_wrong, .inl (cI, 15625, .inl y_t_wrong))]) (va_A [(h_t, .inr (10, [.ref h_t_s, .ref h_t_was, .ref h_t_begun, .int t_states, .ref h_t_text, .int t_typed, .ref h_t_wrong, .ref h_t_cost, .ref h_t_first, .ref h_t_block, .ref h_t_many, .ref h_t_stack, .int t_height, .ref h_t_written, .int t_length, .ref h_t_own, .ref h_t_levelAt, .ref h_t_itemAt, .ref h_t_times, .int t_at, .int t_ownLength, .int t_depth, .int t_deepest, .int t_letters, .int t_repeats, .int t_corrections, .int t_mostCorrections, .int t_place, .int t_reason])), (h_t_block, .inl (cI, 3125, .inl t_block)), (h_t_cost, .inl (cI, 3125, .inl t_cost)), (h_t_first, .inl (cI, 3125, .inl t_first)), (h_t_s, .inl (cI, 30, .inl t_s)), (h_t_wrong, .inl (cI, 15625, .inl t_wrong))] sz)) 0 0 (va_A [(h_t, .inr (10, [.ref h_t_s, .ref h_t_was, .ref h_t_begun, .int t_states, .ref h_t_text, .int t_typed, .ref h_t_wrong, .ref h_t_cost, .ref h_t_first, .ref h_t_block, .ref h_t_many, .ref h_t_stack, .int t_height, .ref h_t_written, .int t_length, .ref h_t_own, .ref h_t_levelAt, .ref h_t_itemAt, .ref h_t_times, .int t_at, .int t_ownLength, .int t_depth, .int t_deepest, .int t_letters, .int t_repeats, .int t_corrections, .int t_mostCorrections, .int t_place, .int t_reason])), (h_t_block, .inl (cI, 3125, .inl t_block)), (h_t_cost, .inl (cI, 3125, .inl t_cost)), (h_t_first, .inl (cI, 3125, .inl t_first)), (h_t_s, .inl (cI, 30, .inl t_s)), (h_t_wrong, .inl (cI, 15625, .inl t_wrong))] sz) := by
  refine Met.ofW (cc := cX11_bestChange) (maxL := 7) (ret := (some .int)) (by decide) rfl ?_
  intro p e s m args below meth c s₁ B hml hv
  obtain ⟨hargs, hsz, hP, hK, hN, hD0⟩ := hv
  have hx := B.exec
  have hb := B.bytes
  have hr := B.returns
  have hts := atoms_spec (ws := wsX11_bestChange) B.pre
  have hown : s.vm.findClass RX11 = some m.cls := findClass_of_methodNamed B.named
  have hlocks := B.notSynchronized
  subst hsz
  have hD := hD0.self (sz := s.heap.size)
  generalize hAe : va_A [(h_t, .inr (10, [.ref h_t_s, .ref h_t_was, .ref h_t_begun, .int t_states, .ref h_t_text, .int t_typed, .ref h_t_wrong, .ref h_t_cost, .ref h_t_first, .ref h_t_block, .ref h_t_many, .ref h_t_stack, .int t_height, .ref h_t_written, .int t_length, .ref h_t_own, .ref h_t_levelAt, .ref h_t_itemAt, .ref h_t_times, .int t_at, .int t_ownLength, .int t_depth, .int t_deepest, .int t_letters, .int t_repeats, .int t_corrections, .int t_mostCorrections, .int t_place, .int t_reason])), (h_t_block, .inl (cI, 3125, .inl t_block)), (h_t_cost, .inl (cI, 3125, .inl t_cost)), (h_t_first, .inl (cI, 3125, .inl t_first)), (h_t_s, .inl (cI, 30, .inl t_s)), (h_t_wrong, .inl (cI, 15625, .inl t_wrong))] s.heap.size = A at hD ⊢
  have hA : ∀ q : Nat, s.heap.size ≤ q → A q := fun q h => by rw [← hAe]; exact Or.inr h
  have hS : va_S A s.heap s.heap [] := va_S.rf
  have hP : va_P (dC, dI) vwCl [(h_t, .inr (10, [.ref h_t_s, .ref h_t_was, .ref h_t_begun, .int t_states, .ref h_t_text, .int t_typed, .ref h_t_wrong, .ref h_t_cost, .ref h_t_first, .ref h_t_block, .ref h_t_many, .ref h_t_stack, .int t_height, .ref h_t_written, .int t_length, .ref h_t_own, .ref h_t_levelAt, .ref h_t_itemAt, .ref h_t_times, .int t_at, .int t_ownLength, .int t_depth, .int t_deepest, .int t_letters, .int t_repeats, .int t_corrections, .int t_mostCorrections, .int t_place, .int t_reason])), (h_t_block, .inl (cI, 3125, .inl t_block)), (h_t_cost, .inl (cI, 3125, .inl t_cost)), (h_t_first, .inl (cI, 3125, .inl t_first)), (h_t_s, .inl (cI, 30, .inl t_s)), (h_t_wrong, .inl (cI, 15625, .inl t_wrong))] s.heap := hP
  have hl := lv_entry [.ref h_t, .int x1] (n := 7) (Nat.le_of_ble_eq_true rfl)
  rw [show entryFrame m args 7 = entryFrame m ([.ref h_t, .int x1] : List Value).toArray 7 from by rw [hargs], lg_entry_eq]
  generalize (lg_sl [.ref h_t, .int x1] ++ List.replicate (7 - (lg_sl [.ref h_t, .int x1]).length) Slot.unset).toArray = ls at hl ⊢
  have hl : lv_has ls 7 [(0, .ref h_t), (1, .int x1)] := hl
  generalize hQQ : MQ below (va_Qi (fun (r9 : Int32) (_ : Unit) => r9 = r) (fun (_ : Unit) (t : State) => va_P (dC, dI) vwCl [(h_t, .inr (10, [.ref h_t_s, .ref h_t_was, .ref h_t_begun, .int t_states, .ref h_t_text, .int t_typed, .ref h_t_wrong, .ref h_t_cost, .ref h_t_first, .ref h_t_block, .ref h_t_many, .ref h_t_stack, .int t_height, .ref h_t_written, .int t_length, .ref h_t_own, .ref h_t_levelAt, .ref h_t_itemAt, .ref h_t_times, .int t_at, .int t_ownLength, .int t_depth, .int t_deepest, .int t_letters, .int t_repeats, .int t_corrections, .int t_mostCorrections, .int t_place, .int t_reason])), (h_t_block, .inl (cI, 3125, .inl y_t_block)), (h_t_cost, .inl (cI, 3125, .inl y_t_cost)), (h_t_first, .inl (cI, 3125, .inl y_t_first)), (h_t_s, .inl (cI, 30, .inl y_t_s)), (h_t_wrong, .inl (cI, 15625, .inl y_t_wrong))] t.heap ∧ va_K (dC, dI) vwCl (tyA cI cJ cC cS) t ∧ va_D A [(h_t, .inr (10, [.ref h_t_s, .ref h_t_was, .ref h_t_begun, .int t_states, .ref h_t_text, .int t_typed, .ref h_t_wrong, .ref h_t_cost, .ref h_t_first, .ref h_t_block, .ref h_t_many, .ref h_t_stack, .int t_height, .ref h_t_written, .int t_length, .ref h_t_own, .ref h_t_levelAt, .ref h_t_itemAt, .ref h_t_times, .int t_at, .int t_ownLength, .int t_depth, .int t_deepest, .int t_letters, .int t_repeats, .int t_corrections, .int t_mostCorrections, .int t_place, .int t_reason])), (h_t_block, .inl (cI, 3125, .inl y_t_block)), (h_t_cost, .inl (cI, 3125, .inl y_t_cost)), (h_t_first, .inl (cI, 3125, .inl y_t_first)), (h_t_s, .inl (cI, 30, .inl y_t_s)), (h_t_wrong, .inl (cI, 15625, .inl y_t_wrong))]) A) args s 0 0 A = QQ
  obtain ⟨H, hH⟩ : ∃ H : Heap, H = s.heap := ⟨_, rfl⟩
  obtain ⟨locs, hlocs⟩ : ∃ locs : List Loc, locs = [] := ⟨_, rfl⟩
  rw [← hH] at hP
  have hS : va_S A s.heap H locs := by rw [hH, hlocs]; exact hS
  suffices hZ : W p l e (headSpec wsX11_bestChange ({ frames := 5, cells := 0, slots := 0, locals := 118 } : Room)).room s m args below meth c H locs 0 0 QQ (F0 m 0 ls []) by rw [hH, hlocs] at hZ; exact hZ
  clear hH hlocs
  have hL23 : ∀ (n23 : Nat) , ∀ (x2 : Int32) (x3 : Int32) (x4 : Int32) (t_block : Nat → Int32) (t_cost : Nat → Int32) (t_first : Nat → Int32) (t_s : Nat → Int32) (t_wrong : Nat → Int32) (H : Heap) (locs : List Loc) (ls : Array Slot), fMD_bestChange_23 x1 n23 x2 x3 x4 t_block t_cost t_first t_s t_wrong = some (r, y_t_block, y_t_cost, y_t_first, y_t_s, y_t_wrong) → va_P (dC, dI) vwCl [(h_t, .inr (10, [.ref h_t_s, .ref h_t_was, .ref h_t_begun, .int t_states, .ref h_t_text, .int t_typed, .ref h_t_wrong, .ref h_t_cost, .ref h_t_first, .ref h_t_block, .ref h_t_many, .ref h_t_stack, .int t_height, .ref h_t_written, .int t_length, .ref h_t_own, .ref h_t_levelAt, .ref h_t_itemAt, .ref h_t_times, .int t_at, .int t_ownLength, .int t_depth, .int t_deepest, .int t_letters, .int t_repeats, .int t_corrections, .int t_mostCorrections, .int t_place, .int t_reason])), (h_t_block, .inl (cI, 3125, .inl t_block)), (h_t_cost, .inl (cI, 3125, .inl t_cost)), (h_t_first, .inl (cI, 3125, .inl t_first)), (h_t_s, .inl (cI, 30, .inl t_s)), (h_t_wrong, .inl (cI, 15625, .inl t_wrong))] H → va_D A [(h_t, .inr (10, [.ref h_t_s, .ref h_t_was, .ref h_t_begun, .int t_states, .ref h_t_text, .int t_typed, .ref h_t_wrong, .ref h_t_cost, .ref h_t_first, .ref h_t_block, .ref h_t_many, .ref h_t_stack, .int t_height, .ref h_t_written, .int t_length, .ref h_t_own, .ref h_t_levelAt, .ref h_t_itemAt, .ref h_t_times, .int t_at, .int t_ownLength, .int t_depth, .int t_deepest, .int t_letters, .int t_repeats, .int t_corrections, .int t_mostCorrections, .int t_place, .int t_reason])), (h_t_block, .inl (cI, 3125, .inl t_block)), (h_t_cost, .inl (cI, 3125, .inl t_cost)), (h_t_first, .inl (cI, 3125, .inl t_first)), (h_t_s, .inl (cI, 30, .inl t_s)), (h_t_wrong, .inl (cI, 15625, .inl t_wrong))] → va_S A s.heap H locs → lv_has ls 7 [(0, .ref h_t), (1, .int x1), (2, .int x2), (3, .int x3), (4, .int x4)] → W p l e (headSpec wsX11_bestChange ({ frames := 5, cells := 0, slots := 0, locals := 118 } : Room)).room s m args below meth c H locs 0 0 QQ (F0 m 23 ls []) := by
    intro n23
    induction n23 with
    | zero =>
      intro x2 x3 x4 t_block t_cost t_first t_s t_wrong H locs ls hres
      rw [fMD_bestChange_23] at hres
      cases hres
    | succ n23 ih23 =>
      have hL37 : ∀ (n37 : Nat) , ∀ (x2 : Int32) (x3 : Int32) (x4 : Int32) (x5 : Int32) (t_block : Nat → Int32) (t_cost : Nat → Int32) (t_first : Nat → Int32) (t_s : Nat → Int32) (t_wrong : Nat → Int32) (H : Heap) (locs : List Loc) (ls : Array Slot), fMD_bestChange_37 (fMD_bestChange_23 x1 n23) n37 x2 x3 x4 x5 t_block t_cost t_first t_s t_wrong = some (r, y_t_block, y_t_cost, y_t_first, y_t_s, y_t_wrong) → va_P (dC, dI) vwCl [(h_t, .inr (10, [.ref h_t_s, .ref h_t_was, .ref h_t_begun, .int t_states, .ref h_t_text, .int t_typed, .ref h_t_wrong, .ref h_t_cost, .ref h_t_first, .ref h_t_block, .ref h_t_many, .ref h_t_stack, .int t_height, .ref h_t_written, .int t_length, .ref h_t_own, .ref h_t_levelAt, .ref h_t_itemAt, .ref h_t_times, .int t_at, .int t_ownLength, .int t_depth, .int t_deepest, .int t_letters, .int t_repeats, .int t_corrections, .int t_mostCorrections, .int t_place, .int t_reason])), (h_t_block, .inl (cI, 3125, .inl t_block)), (h_t_cost, .inl (cI, 3125, .inl t_cost)), (h_t_first, .inl (cI, 3125, .inl t_first)), (h_t_s, .inl (cI, 30, .inl t_s)), (h_t_wrong, .inl (cI, 15625, .inl t_wrong))] H → va_D A [(h_t, .inr (10, [.ref h_t_s, .ref h_t_was, .ref h_t_begun, .int t_states, .ref h_t_text, .int t_typed, .ref h_t_wrong, .ref h_t_cost, .ref h_t_first, .ref h_t_block, .ref h_t_many, .ref h_t_stack, .int t_height, .ref h_t_written, .int t_length, .ref h_t_own, .ref h_t_levelAt, .ref h_t_itemAt, .ref h_t_times, .int t_at, .int t_ownLength, .int t_depth, .int t_deepest, .int t_letters, .int t_repeats, .int t_corrections, .int t_mostCorrections, .int t_place, .int t_reason])), (h_t_block, .inl (cI, 3125, .inl t_block)), (h_t_cost, .inl (cI, 3125, .inl t_cost)), (h_t_first, .inl (cI, 3125, .inl t_first)), (h_t_s, .inl (cI, 30, .inl t_s)), (h_t_wrong, .inl (cI, 15625, .inl t_wrong))] → va_S A s.heap H locs → lv_has ls 7 [(0, .ref h_t), (1, .int x1), (2, .int x2), (3, .int x3), (4, .int x4), (5, .int x5)] → W p l e (headSpec wsX11_bestChange ({ frames := 5, cells := 0, slots := 0, locals := 118 } : Room)).room s m args below meth c H locs 0 0 QQ (F0 m 37 ls []) := by
        intro n37
        induction n37 with
        | zero =>
          intro x2 x3 x4 x5 t_block t_cost t_first t_s t_wrong H locs ls hres
          rw [fMD_bestChange_37] at hres
          cases hres
        | succ n37 ih37 =>
          have hK70 : ∀ (x2 : Int32) (x4 : Int32) (x5 : Int32) (x6 : Int32) (s0 : Int32) (t_block : Nat → Int32) (t_cost : Nat → Int32) (t_first : Nat → Int32) (t_s : Nat → Int32) (t_wrong : Nat → Int32) (H : Heap) (locs : List Loc) (ls : Array Slot), fMD_bestChange_70 (fMD_bestChange_23 x1 n23) (fMD_bestChange_37 (fMD_bestChange_23 x1 n23) n37) x2 x4 x5 x6 s0 t_block t_cost t_first t_s t_wrong = some (r, y_t_block, y_t_cost, y_t_first, y_t_s, y_t_wrong) → va_P (dC, dI) vwCl [(h_t, .inr (10, [.ref h_t_s, .ref h_t_was, .ref h_t_begun, .int t_states, .ref h_t_text, .int t_typed, .ref h_t_wrong, .ref h_t_cost, .ref h_t_first, .ref h_t_block, .ref h_t_many, .ref h_t_stack, .int t_height, .ref h_t_written, .int t_length, .ref h_t_own, .ref h_t_levelAt, .ref h_t_itemAt, .ref h_t_times, .int t_at, .int t_ownLength, .int t_depth, .int t_deepest, .int t_letters, .int t_repeats, .int t_corrections, .int t_mostCorrections, .int t_place, .int t_reason])), (h_t_block, .inl (cI, 3125, .inl t_block)), (h_t_cost, .inl (cI, 3125, .inl t_cost)), (h_t_first, .inl (cI, 3125, .inl t_first)), (h_t_s, .inl (cI, 30, .inl t_s)), (h_t_wrong, .inl (cI, 15625, .inl t_wrong))] H → va_D A [(h_t, .inr (10, [.ref h_t_s, .ref h_t_was, .ref h_t_begun, .int t_states, .ref h_t_text, .int t_typed, .ref h_t_wrong, .ref h_t_cost, .ref h_t_first, .ref h_t_block, .ref h_t_many, .ref h_t_stack, .int t_height, .ref h_t_written, .int t_length, .ref h_t_own, .ref h_t_levelAt, .ref h_t_itemAt, .ref h_t_times, .int t_at, .int t_ownLength, .int t_depth, .int t_deepest, .int t_letters, .int t_repeats, .int t_corrections, .int t_mostCorrections, .int t_place, .int t_reason])), (h_t_block, .inl (cI, 3125, .inl t_block)), (h_t_cost, .inl (cI, 3125, .inl t_cost)), (h_t_first, .inl (cI, 3125, .inl t_first)), (h_t_s, .inl (cI, 30, .inl t_s)), (h_t_wrong, .inl (cI, 15625, .inl t_wrong))] → va_S A s.heap H locs → lv_has ls 7 [(0, .ref h_t), (1, .int x1), (2, .int x2), (4, .int x4), (5, .int x5), (6, .int x6)] → W p l e (headSpec wsX11_bestChange ({ frames := 5, cells := 0, slots := 0, locals := 118 } : Room)).room s m args below meth c H locs 0 0 QQ (F0 m 70 ls [.int s0]) := by
            intro x2 x4 x5 x6 s0 t_block t_cost t_first t_s t_wrong H locs ls hres hP hD hS hl
            rw [fMD_bestChange_70] at hres
            refine lv_istore_n (lv' := [(3, .int s0), (0, .ref h_t), (1, .int x1), (2, .int x2), (4, .int x4), (5, .int x5), (6, .int x6)]) hx hb dX11_bestChange_70 rfl hl (by decide) rfl (fun ls hl => ?_)
            refine lv_iload hx hb dX11_bestChange_71 (lv_at hl 6 rfl) ?_
            refine lv_iload_n hx hb dX11_bestChange_73 rfl (lv_at hl 3 rfl) ?_
            refine lv_icmp_ge (tgt := 82) hx hb dX11_bestChange_74 (by decide) (fun c_4 => ?_) (fun c_4 => ?_)
            · have hres := it_of hres c_4
              refine lv_iload_n hx hb dX11_bestChange_82 rfl (lv_at hl 3 rfl) ?_
              refine lv_istore_n (lv' := [(2, .int x2), (3, .int s0), (0, .ref h_t), (1, .int x1), (4, .int x4), (5, .int x5), (6, .int x6)]) hx hb dX11_bestChange_83 rfl hl (by decide) rfl (fun ls hl => ?_)
              refine lv_iinc (v := (x5 + 1)) (lv' := [(5, .int (x5 + 1)), (2, .int x2), (3, .int s0), (0, .ref h_t), (1, .int x1), (4, .int x4), (6, .int x6)]) hx hb dX11_bestChange_84 hl (k := 5) rfl rfl (by decide) rfl (fun ls hl => ?_)
              refine lv_goto (tgt := 37) hx hb dX11_bestChange_87 (by decide) ?_
              exact ih37 x2 s0 x4 (x5 + 1) t_block t_cost t_first t_s t_wrong H locs ls hres hP hD hS (lv_sub hl [3, 4, 1, 2, 5, 0] rfl)
            · have hres := ie_of hres c_4
              refine lv_iload hx hb dX11_bestChange_77 (lv_at hl 6 rfl) ?_
              refine lv_goto (tgt := 83) hx hb dX11_bestChange_79 (by decide) ?_
              refine lv_istore_n (lv' := [(2, .int x6), (3, .int s0), (0, .ref h_t), (1, .int x1), (4, .int x4), (5, .int x5), (6, .int x6)]) hx hb dX11_bestChange_83 rfl hl (by decide) rfl (fun ls hl => ?_)
              refine lv_iinc (v := (x5 + 1)) (lv' := [(5, .int (x5 + 1)), (2, .int x6), (3, .int s0), (0, .ref h_t), (1, .int x1), (4, .int x4), (6, .int x6)]) hx hb dX11_bestChange_84 hl (k := 5) rfl rfl (by decide) rfl (fun ls hl => ?_)
              refine lv_goto (tgt := 37) hx hb dX11_bestChange_87 (by decide) ?_
              exact ih37 x6 s0 x4 (x5 + 1) t_block t_cost t_first t_s t_wrong H locs ls hres hP hD hS (lv_sub hl [3, 4, 1, 2, 5, 0] rfl)
          intro x2 x3 x4 x5 t_block t_cost t_first t_s t_wrong H locs ls hres hP hD hS hl
          rw [fMD_bestChange_37] at hres
          refine lv_iload hx hb dX11_bestChange_37 (lv_at hl 5 rfl) ?_
          refine lv_iconst (v := (4 : Int32)) hx hb dX11_bestChange_39 (by decide) ?_
          refine lv_icmp_ge (tgt := 90) hx hb dX11_bestChange_40 (by decide) (fun c_1 => ?_) (fun c_1 => ?_)
          · have hres := it_of hres c_1
            refine lv_iinc (v := (x4 + 1)) (lv' := [(4, .int (x4 + 1)), (0, .ref h_t), (1, .int x1), (2, .int x2), (3, .int x3), (5, .int x5)]) hx hb dX11_bestChange_90 hl (k := 4) rfl rfl (by decide) rfl (fun ls hl => ?_)
            refine lv_goto (tgt := 23) hx hb dX11_bestChange_93 (by decide) ?_
            exact ih23 x2 x3 (x4 + 1) t_block t_cost t_first t_s t_wrong H locs ls hres hP hD hS (lv_sub hl [1, 2, 3, 4, 0] rfl)
          · have hres := ie_of hres c_1
            refine lv_aload_n hx hb dX11_bestChange_43 rfl (lv_at hl 0 rfl) ?_
            refine lv_iload hx hb dX11_bestChange_44 (lv_at hl 4 rfl) ?_
            refine lv_iload hx hb dX11_bestChange_46 (lv_at hl 5 rfl) ?_
            obtain ⟨o2, ho2, hres⟩ := bd_of hres
            have hPc := hP.sub (ws' := [(h_t, .inr (10, [.ref h_t_s, .ref h_t_was, .ref h_t_begun, .int t_states, .ref h_t_text, .int t_typed, .ref h_t_wrong, .ref h_t_cost, .ref h_t_first, .ref h_t_block, .ref h_t_many, .ref h_t_stack, .int t_height, .ref h_t_written, .int t_length, .ref h_t_own, .ref h_t_levelAt, .ref h_t_itemAt, .ref h_t_times, .int t_at, .int t_ownLength, .int t_depth, .int t_deepest, .int t_letters, .int t_repeats, .int t_corrections, .int t_mostCorrections, .int t_place, .int t_reason])), (h_t_block, .inl (cI, 3125, .inl t_block)), (h_t_cost, .inl (cI, 3125, .inl t_cost)), (h_t_first, .inl (cI, 3125, .inl t_first)), (h_t_s, .inl (cI, 30, .inl t_s)), (h_t_wrong, .inl (cI, 15625, .inl t_wrong))]) [0, 1, 2, 3, 4, 5] rfl
            have hDc := hD.sub (ws' := [(h_t, .inr (10, [.ref h_t_s, .ref h_t_was, .ref h_t_begun, .int t_states, .ref h_t_text, .int t_typed, .ref h_t_wrong, .ref h_t_cost, .ref h_t_first, .ref h_t_block, .ref h_t_many, .ref h_t_stack, .int t_height, .ref h_t_written, .int t_length, .ref h_t_own, .ref h_t_levelAt, .ref h_t_itemAt, .ref h_t_times, .int t_at, .int t_ownLength, .int t_depth, .int t_deepest, .int t_letters, .int t_repeats, .int t_corrections, .int t_mostCorrections, .int t_place, .int t_reason])), (h_t_block, .inl (cI, 3125, .inl t_block)), (h_t_cost, .inl (cI, 3125, .inl t_cost)), (h_t_first, .inl (cI, 3125, .inl t_first)), (h_t_s, .inl (cI, 30, .inl t_s)), (h_t_wrong, .inl (cI, 15625, .inl t_wrong))]) [0, 1, 2, 3, 4, 5] (by decide) rfl
            have hFc := va_free (wc := [(h_t, .inr (10, [.ref h_t_s, .ref h_t_was, .ref h_t_begun, .int t_states, .ref h_t_text, .int t_typed, .ref h_t_wrong, .ref h_t_cost, .ref h_t_first, .ref h_t_block, .ref h_t_many, .ref h_t_stack, .int t_height, .ref h_t_written, .int t_length, .ref h_t_own, .ref h_t_levelAt, .ref h_t_itemAt, .ref h_t_times, .int t_at, .int t_ownLength, .int t_depth, .int t_deepest, .int t_letters, .int t_repeats, .int t_corrections, .int t_mostCorrections, .int t_place, .int t_reason])), (h_t_block, .inl (cI, 3125, .inl t_block)), (h_t_cost, .inl (cI, 3125, .inl t_cost)), (h_t_first, .inl (cI, 3125, .inl t_first)), (h_t_s, .inl (cI, 30, .inl t_s)), (h_t_wrong, .inl (cI, 15625, .inl t_wrong))]) hD hS hA [0, 1, 2, 3, 4, 5] rfl
            refine va_calli (va_runV (As := [.int x4, .int x5]) (rest := []) ⟨hx, hb, hml, hown, hts⟩ (cMD_costsWith l dC dI cI cJ cC cS h_t h_t_s h_t_was h_t_begun h_t_text h_t_wrong h_t_cost h_t_first h_t_block h_t_many h_t_stack h_t_written h_t_own h_t_levelAt h_t_itemAt h_t_times H.size t_states t_typed t_height t_length t_at t_ownLength t_depth t_deepest t_letters t_repeats t_corrections t_mostCorrections t_place t_reason t_block t_cost t_first t_s t_wrong x4 x5 o2.1 o2.2.1 o2.2.2.1 o2.2.2.2.1 o2.2.2.2.2.1 o2.2.2.2.2.2 ho2) (cwV 2 hts gX11_bestChange_X11_costsWith rfl rfl rfl (by decide +kernel) ⟨Nat.le_of_ble_eq_true rfl, Nat.le_of_ble_eq_true rfl⟩) ⟨fun a U g mk q => by obtain ⟨q0, q1, qP, qK, qN, qD⟩ := q; exact ⟨q0, q1, qP, va_K.moved (u := U) (U := U.calling g mk a) (Vm.Alike.refl U.vm) qK, nwS (u := U) (U := U.calling g mk a) rfl qN, qD⟩, va_recv hK hPc (ci := 10) (q0 := 0) rfl rfl, fun U hU hW => ⟨rfl, by rw [hU], by rw [hU]; exact hPc, va_K.moved hW.alike hK, nwW hW hN, hDc.weaken (fun _ _ _ _ => trivial)⟩⟩ rfl rfl hl.1 rfl (lv_room (Nat.le_of_ble_eq_true rfl)) dX11_bestChange_48 ⟨Nat.zero_le _, Nat.zero_le _⟩) hS (fun q _ h => hFc q h) hFc (fun r9 u9 t H1 locs ht hvm hw hB hz1 hk1 hS => ?_)
            have hw := hw.symm
            subst hw
            obtain ⟨hP1, hK1, hD1⟩ := hB
            rw [ht] at hP1
            obtain ⟨hP, hD⟩ := va_join (wr := []) (w1 := [(h_t, .inr (10, [.ref h_t_s, .ref h_t_was, .ref h_t_begun, .int t_states, .ref h_t_text, .int t_typed, .ref h_t_wrong, .ref h_t_cost, .ref h_t_first, .ref h_t_block, .ref h_t_many, .ref h_t_stack, .int t_height, .ref h_t_written, .int t_length, .ref h_t_own, .ref h_t_levelAt, .ref h_t_itemAt, .ref h_t_times, .int t_at, .int t_ownLength, .int t_depth, .int t_deepest, .int t_letters, .int t_repeats, .int t_corrections, .int t_mostCorrections, .int t_place, .int t_reason])), (h_t_block, .inl (cI, 3125, .inl o2.2.1)), (h_t_cost, .inl (cI, 3125, .inl o2.2.2.1)), (h_t_first, .inl (cI, 3125, .inl o2.2.2.2.1)), (h_t_s, .inl (cI, 30, .inl o2.2.2.2.2.1)), (h_t_wrong, .inl (cI, 15625, .inl o2.2.2.2.2.2))]) hP hD [0, 1, 2, 3, 4, 5] [] rfl rfl (by decide) (by decide) hk1 hFc hP1 hD1
            generalize H1 = H at hP hS ⊢
            have hP : va_P (dC, dI) vwCl [(h_t, .inr (10, [.ref h_t_s, .ref h_t_was, .ref h_t_begun, .int t_states, .ref h_t_text, .int t_typed, .ref h_t_wrong, .ref h_t_cost, .ref h_t_first, .ref h_t_block, .ref h_t_many, .ref h_t_stack, .int t_height, .ref h_t_written, .int t_length, .ref h_t_own, .ref h_t_levelAt, .ref h_t_itemAt, .ref h_t_times, .int t_at, .int t_ownLength, .int t_depth, .int t_deepest, .int t_letters, .int t_repeats, .int t_corrections, .int t_mostCorrections, .int t_place, .int t_reason])), (h_t_block, .inl (cI, 3125, .inl o2.2.1)), (h_t_cost, .inl (cI, 3125, .inl o2.2.2.1)), (h_t_first, .inl (cI, 3125, .inl o2.2.2.2.1)), (h_t_s, .inl (cI, 30, .inl o2.2.2.2.2.1)), (h_t_wrong, .inl (cI, 15625, .inl o2.2.2.2.2.2))] H := hP
            have hD : va_D A [(h_t, .inr (10, [.ref h_t_s, .ref h_t_was, .ref h_t_begun, .int t_states, .ref h_t_text, .int t_typed, .ref h_t_wrong, .ref h_t_cost, .ref h_t_first, .ref h_t_block, .ref h_t_many, .ref h_t_stack, .int t_height, .ref h_t_written, .int t_length, .ref h_t_own, .ref h_t_levelAt, .ref h_t_itemAt, .ref h_t_times, .int t_at, .int t_ownLength, .int t_depth, .int t_deepest, .int t_letters, .int t_repeats, .int t_corrections, .int t_mostCorrections, .int t_place, .int t_reason])), (h_t_block, .inl (cI, 3125, .inl o2.2.1)), (h_t_cost, .inl (cI, 3125, .inl o2.2.2.1)), (h_t_first, .inl (cI, 3125, .inl o2.2.2.2.1)), (h_t_s, .inl (cI, 30, .inl o2.2.2.2.2.1)), (h_t_wrong, .inl (cI, 15625, .inl o2.2.2.2.2.2))] := hD
            refine lv_istore (lv' := [(6, .int o2.1), (0, .ref h_t), (1, .int x1), (2, .int x2), (3, .int x3), (4, .int x4), (5, .int x5)]) hx hb dX11_bestChange_51 hl (by decide) rfl (fun ls hl => ?_)
            refine lv_iload hx hb dX11_bestChange_53 (lv_at hl 0 rfl) ?_
            refine lv_iload_n hx hb dX11_bestChange_55 rfl (lv_at hl 3 rfl) ?_
            refine lv_icmp_ge (tgt := 69) hx hb dX11_bestChange_56 (by decide) (fun c_3 => ?_) (fun c_3 => ?_)
            · have hres := it_of hres c_3
              refine lv_iload_n hx hb dX11_bestChange_69 rfl (lv_at hl 4 rfl) ?_
              exact hK70 x2 x4 x5 o2.1 x3 o2.2.1 o2.2.2.1 o2.2.2.2.1 o2.2.2.2.2.1 o2.2.2.2.2.2 H locs ls hres hP hD hS (lv_sub hl [1, 2, 3, 5, 6, 0] rfl)
            · have hres := ie_of hres c_3
              refine lv_iconst (v := (4 : Int32)) hx hb dX11_bestChange_59 (by decide) ?_
              refine lv_iload hx hb dX11_bestChange_60 (lv_at hl 5 rfl) ?_
              refine lv_imul hx hb dX11_bestChange_62 ?_
              refine lv_iload hx hb dX11_bestChange_63 (lv_at hl 6 rfl) ?_
              refine lv_iadd hx hb dX11_bestChange_65 ?_
              refine lv_goto (tgt := 70) hx hb dX11_bestChange_66 (by decide) ?_
              exact hK70 x2 x4 x5 o2.1 (((4 : Int32) * x4) + x5) o2.2.1 o2.2.2.1 o2.2.2.2.1 o2.2.2.2.2.1 o2.2.2.2.2.2 H locs ls hres hP hD hS (lv_sub hl [1, 2, 3, 5, 6, 0] rfl)
      intro x2 x3 x4 t_block t_cost t_first t_s t_wrong H locs ls hres hP hD hS hl
      rw [fMD_bestChange_23] at hres
      refine lv_iload hx hb dX11_bestChange_23 (lv_at hl 4 rfl) ?_
      refine lv_aload_n hx hb dX11_bestChange_25 rfl (lv_at hl 0 rfl) ?_
      refine va_get (D := (dC, dI)) (ci := 10) (v := .ref h_t_s) (C := RX11) (T := TX11) (N := 29) hx hb hts iMD_bestChange_X11_bestChange_1 hown hK hP 0 rfl rfl 0 (by decide) (hts _ kMD_bestChange_X11_bestChange_0) (fun _ h9 => h9) rfl dX11_bestChange_26 ?_
      refine lv_iconst (v := (0 : Int32)) hx hb dX11_bestChange_29 (by decide) ?_
      refine va_iald hx hb hK hP 4 0 rfl rfl (vin (by decide)) dX11_bestChange_30 ?_
      refine lv_icmp_ge (tgt := 96) hx hb dX11_bestChange_31 (by decide) (fun c_5 => ?_) (fun c_5 => ?_)
      · have hres := it_of hres c_5
        refine lv_iload_n hx hb dX11_bestChange_96 rfl (lv_at hl 3 rfl) ?_
        refine lv_ldc (v := (-1000004 : Int32)) hx hb hown (hts _ kMD_bestChange_X11_bestChange_2) dX11_bestChange_97 ?_
        refine lv_icmp_ne (tgt := 107) hx hb dX11_bestChange_99 (by decide) (fun c_6 => ?_) (fun c_6 => ?_)
        · have hres := ie_of hres c_6
          refine lv_iload_n hx hb dX11_bestChange_107 rfl (lv_at hl 1 rfl) ?_
          refine lv_if_ne (tgt := 117) hx hb dX11_bestChange_108 (by decide) (fun c_7 => ?_) (fun c_7 => ?_)
          · have hres := ie_of hres c_7
            refine lv_iload_n hx hb dX11_bestChange_117 rfl (lv_at hl 1 rfl) ?_
            refine lv_iconst (v := (1 : Int32)) hx hb dX11_bestChange_118 (by decide) ?_
            refine lv_icmp_ne (tgt := 128) hx hb dX11_bestChange_119 (by decide) (fun c_8 => ?_) (fun c_8 => ?_)
            · have hres := ie_of hres c_8
              refine lv_iload_n hx hb dX11_bestChange_128 rfl (lv_at hl 2 rfl) ?_
              obtain ⟨e9_0, e9_1, e9_2, e9_3, e9_4, e9_5⟩ := tup6 hres
              subst e9_0
              subst e9_1
              subst e9_2
              subst e9_3
              subst e9_4
              subst e9_5
              rw [← hQQ]
              exact W.iret (v := x2) hx hb hr (fun t ht hW => ⟨⟨x2, (), rfl, rfl, by rw [ht]; exact hP, va_K.moved hW.alike hK, hD⟩, hS.F ht⟩) hS.2.2 dX11_bestChange_129
            · have hres := it_of hres c_8
              refine lv_iload_n hx hb dX11_bestChange_122 rfl (lv_at hl 3 rfl) ?_
              refine lv_iconst (v := (4 : Int32)) hx hb dX11_bestChange_123 (by decide) ?_
              refine lv_irem hx hb dX11_bestChange_124 (by decide) ?_
              refine lv_goto (tgt := 129) hx hb dX11_bestChange_125 (by decide) ?_
              obtain ⟨e9_0, e9_1, e9_2, e9_3, e9_4, e9_5⟩ := tup6 hres
              subst e9_0
              subst e9_1
              subst e9_2
              subst e9_3
              subst e9_4
              subst e9_5
              rw [← hQQ]
              exact W.iret (v := (x3 - x3 / (4 : Int32) * (4 : Int32))) hx hb hr (fun t ht hW => ⟨⟨(x3 - x3 / (4 : Int32) * (4 : Int32)), (), rfl, rfl, by rw [ht]; exact hP, va_K.moved hW.alike hK, hD⟩, hS.F ht⟩) hS.2.2 dX11_bestChange_129
          · have hres := it_of hres c_7
            refine lv_iload_n hx hb dX11_bestChange_111 rfl (lv_at hl 3 rfl) ?_
            refine lv_iconst (v := (4 : Int32)) hx hb dX11_bestChange_112 (by decide) ?_
            refine lv_idiv hx hb dX11_bestChange_113 (by decide) ?_
            refine lv_goto (tgt := 129) hx hb dX11_bestChange_114 (by decide) ?_
            obtain ⟨e9_0, e9_1, e9_2, e9_3, e9_4, e9_5⟩ := tup6 hres
            subst e9_0
            subst e9_1
            subst e9_2
            subst e9_3
            subst e9_4
            subst e9_5
            rw [← hQQ]
            exact W.iret (v := (x3 / (4 : Int32))) hx hb hr (fun t ht hW => ⟨⟨(x3 / (4 : Int32)), (), rfl, rfl, by rw [ht]; exact hP, va_K.moved hW.alike hK, hD⟩, hS.F ht⟩) hS.2.2 dX11_bestChange_129
        · have hres := it_of hres c_6
          refine lv_ldc (v := (-1000004 : Int32)) hx hb hown (hts _ kMD_bestChange_X11_bestChange_2) dX11_bestChange_102 ?_
          refine lv_goto (tgt := 129) hx hb dX11_bestChange_104 (by decide) ?_
          obtain ⟨e9_0, e9_1, e9_2, e9_3, e9_4, e9_5⟩ := tup6 hres
          subst e9_0
          subst e9_1
          subst e9_2
          subst e9_3
          subst e9_4
          subst e9_5
          rw [← hQQ]
          exact W.iret (v := (-1000004 : Int32)) hx hb hr (fun t ht hW => ⟨⟨(-1000004 : Int32), (), rfl, rfl, by rw [ht]; exact hP, va_K.moved hW.alike hK, hD⟩, hS.F ht⟩) hS.2.2 dX11_bestChange_129
      · have hres := ie_of hres c_5
        refine lv_iconst (v := (0 : Int32)) hx hb dX11_bestChange_34 (by decide) ?_
        refine lv_istore (lv' := [(5, .int (0 : Int32)), (0, .ref h_t), (1, .int x1), (2, .int x2), (3, .int x3), (4, .int x4)]) hx hb dX11_bestChange_35 hl (by decide) rfl (fun ls hl => ?_)
        exact hL37 FU x2 x3 x4 (0 : Int32) t_block t_cost t_first t_s t_wrong H locs ls hres hP hD hS (lv_sub hl [1, 2, 3, 4, 5, 0] rfl)
  rw [fMD_bestChange] at hres
  refine lv_iload_n hx hb dX11_bestChange_0 rfl (lv_at hl 1 rfl) ?_
  refine lv_iconst (v := (0 : Int32)) hx hb dX11_bestChange_1 (by decide) ?_
  refine lv_iconst (v := (2 : Int32)) hx hb dX11_bestChange_2 (by decide) ?_
  obtain ⟨o9, ho9, hres⟩ := bd_of hres
  have hPc := hP.sub (ws' := []) [] rfl
  have hDc := hD.sub (ws' := []) [] (by decide) rfl
  have hFc := va_free (wc := []) hD hS hA [] rfl
  refine va_calli (va_runS (As := [.int x1, .int (0 : Int32), .int (2 : Int32)]) (rest := []) ⟨hx, hb, hml, hown, hts⟩ (cMD_in l dC dI cI cJ cC cS H.size x1 (0 : Int32) (2 : Int32) o9 ho9) (va_cwS 3 hts gX11_bestChange_X11_in rfl rfl rfl (by decide +kernel) ⟨Nat.le_of_ble_eq_true rfl, Nat.le_of_ble_eq_true rfl⟩) ⟨fun a U g mk q => by obtain ⟨q0, q1, qP, qK, qN, qD⟩ := q; exact ⟨q0, q1, qP, va_K.moved (u := U) (U := U.calling g mk a) (Vm.Alike.refl U.vm) qK, nwS (u := U) (U := U.calling g mk a) rfl qN, qD⟩, fun U hU hW => ⟨rfl, by rw [hU], by rw [hU]; exact hPc, va_K.moved hW.alike hK, nwW hW hN, hDc.weaken (fun _ _ _ _ => trivial)⟩⟩ rfl rfl hl.1 rfl (lv_room (Nat.le_of_ble_eq_true rfl)) dX11_bestChange_3 ⟨Nat.zero_le _, Nat.zero_le _⟩) hS (fun q _ h => hFc q h) hFc (fun r9 u9 t H1 locs ht hvm hw hB hz1 hk1 hS => ?_)
  have hw := hw.symm
  subst hw
  obtain ⟨hP1, hK1, hD1⟩ := hB
  rw [ht] at hP1
  obtain ⟨hP, hD⟩ := va_join (wr := [(h_t, .inr (10, [.ref h_t_s, .ref h_t_was, .ref h_t_begun, .int t_states, .ref h_t_text, .int t_typed, .ref h_t_wrong, .ref h_t_cost, .ref h_t_first, .ref h_t_block, .ref h_t_many, .ref h_t_stack, .int t_height, .ref h_t_written, .int t_length, .ref h_t_own, .ref h_t_levelAt, .ref h_t_itemAt, .ref h_t_times, .int t_at, .int t_ownLength, .int t_depth, .int t_deepest, .int t_letters, .int t_repeats, .int t_corrections, .int t_mostCorrections, .int t_place, .int t_reason])), (h_t_block, .inl (cI, 3125, .inl t_block)), (h_t_cost, .inl (cI, 3125, .inl t_cost)), (h_t_first, .inl (cI, 3125, .inl t_first)), (h_t_s, .inl (cI, 30, .inl t_s)), (h_t_wrong, .inl (cI, 15625, .inl t_wrong))]) (w1 := []) hP hD [] [0, 1, 2, 3, 4, 5] rfl rfl (by decide) (by decide) hk1 hFc hP1 hD1
  generalize H1 = H at hP hS ⊢
  have hP : va_P (dC, dI) vwCl [(h_t, .inr (10, [.ref h_t_s, .ref h_t_was, .ref h_t_begun, .int t_states, .ref h_t_text, .int t_typed, .ref h_t_wrong, .ref h_t_cost, .ref h_t_first, .ref h_t_block, .ref h_t_many, .ref h_t_stack, .int t_height, .ref h_t_written, .int t_length, .ref h_t_own, .ref h_t_levelAt, .ref h_t_itemAt, .ref h_t_times, .int t_at, .int t_ownLength, .int t_depth, .int t_deepest, .int t_letters, .int t_repeats, .int t_corrections, .int t_mostCorrections, .int t_place, .int t_reason])), (h_t_block, .inl (cI, 3125, .inl t_block)), (h_t_cost, .inl (cI, 3125, .inl t_cost)), (h_t_first, .inl (cI, 3125, .inl t_first)), (h_t_s, .inl (cI, 30, .inl t_s)), (h_t_wrong, .inl (cI, 15625, .inl t_wrong))] H := hP
  have hD : va_D A [(h_t, .inr (10, [.ref h_t_s, .ref h_t_was, .ref h_t_begun, .int t_states, .ref h_t_text, .int t_typed, .ref h_t_wrong, .ref h_t_cost, .ref h_t_first, .ref h_t_block, .ref h_t_many, .ref h_t_stack, .int t_height, .ref h_t_written, .int t_length, .ref h_t_own, .ref h_t_levelAt, .ref h_t_itemAt, .ref h_t_times, .int t_at, .int t_ownLength, .int t_depth, .int t_deepest, .int t_letters, .int t_repeats, .int t_corrections, .int t_mostCorrections, .int t_place, .int t_reason])), (h_t_block, .inl (cI, 3125, .inl t_block)), (h_t_cost, .inl (cI, 3125, .inl t_cost)), (h_t_first, .inl (cI, 3125, .inl t_first)), (h_t_s, .inl (cI, 30, .inl t_s)), (h_t_wrong, .inl (cI, 15625, .inl t_wrong))] := hD
  refine lv_if_ne (tgt := 12) hx hb dX11_bestChange_6 (by decide) (fun c_10 => ?_) (fun c_10 => ?_)
  · have hres := ie_of hres c_10
    refine lv_aload_n hx hb dX11_bestChange_12 rfl (lv_at hl 0 rfl) ?_
    obtain ⟨o11, ho11, hres⟩ := bd_of hres
    have hPc := hP.sub (ws' := [(h_t, .inr (10, [.ref h_t_s, .ref h_t_was, .ref h_t_begun, .int t_states, .ref h_t_text, .int t_typed, .ref h_t_wrong, .ref h_t_cost, .ref h_t_first, .ref h_t_block, .ref h_t_many, .ref h_t_stack, .int t_height, .ref h_t_written, .int t_length, .ref h_t_own, .ref h_t_levelAt, .ref h_t_itemAt, .ref h_t_times, .int t_at, .int t_ownLength, .int t_depth, .int t_deepest, .int t_letters, .int t_repeats, .int t_corrections, .int t_mostCorrections, .int t_place, .int t_reason])), (h_t_block, .inl (cI, 3125, .inl t_block)), (h_t_cost, .inl (cI, 3125, .inl t_cost)), (h_t_first, .inl (cI, 3125, .inl t_first)), (h_t_s, .inl (cI, 30, .inl t_s)), (h_t_wrong, .inl (cI, 15625, .inl t_wrong))]) [0, 1, 2, 3, 4, 5] rfl
    have hDc := hD.sub (ws' := [(h_t, .inr (10, [.ref h_t_s, .ref h_t_was, .ref h_t_begun, .int t_states, .ref h_t_text, .int t_typed, .ref h_t_wrong, .ref h_t_cost, .ref h_t_first, .ref h_t_block, .ref h_t_many, .ref h_t_stack, .int t_height, .ref h_t_written, .int t_length, .ref h_t_own, .ref h_t_levelAt, .ref h_t_itemAt, .ref h_t_times, .int t_at, .int t_ownLength, .int t_depth, .int t_deepest, .int t_letters, .int t_repeats, .int t_corrections, .int t_mostCorrections, .int t_place, .int t_reason])), (h_t_block, .inl (cI, 3125, .inl t_block)), (h_t_cost, .inl (cI, 3125, .inl t_cost)), (h_t_first, .inl (cI, 3125, .inl t_first)), (h_t_s, .inl (cI, 30, .inl t_s)), (h_t_wrong, .inl (cI, 15625, .inl t_wrong))]) [0, 1, 2, 3, 4, 5] (by decide) rfl
    have hFc := va_free (wc := [(h_t, .inr (10, [.ref h_t_s, .ref h_t_was, .ref h_t_begun, .int t_states, .ref h_t_text, .int t_typed, .ref h_t_wrong, .ref h_t_cost, .ref h_t_first, .ref h_t_block, .ref h_t_many, .ref h_t_stack, .int t_height, .ref h_t_written, .int t_length, .ref h_t_own, .ref h_t_levelAt, .ref h_t_itemAt, .ref h_t_times, .int t_at, .int t_ownLength, .int t_depth, .int t_deepest, .int t_letters, .int t_repeats, .int t_corrections, .int t_mostCorrections, .int t_place, .int t_reason])), (h_t_block, .inl (cI, 3125, .inl t_block)), (h_t_cost, .inl (cI, 3125, .inl t_cost)), (h_t_first, .inl (cI, 3125, .inl t_first)), (h_t_s, .inl (cI, 30, .inl t_s)), (h_t_wrong, .inl (cI, 15625, .inl t_wrong))]) hD hS hA [0, 1, 2, 3, 4, 5] rfl
    refine va_calli (va_runV (As := []) (rest := []) ⟨hx, hb, hml, hown, hts⟩ (cMD_costs l dC dI cI cJ cC cS h_t h_t_s h_t_was h_t_begun h_t_text h_t_wrong h_t_cost h_t_first h_t_block h_t_many h_t_stack h_t_written h_t_own h_t_levelAt h_t_itemAt h_t_times H.size t_states t_typed t_height t_length t_at t_ownLength t_depth t_deepest t_letters t_repeats t_corrections t_mostCorrections t_place t_reason t_block t_cost t_first t_s t_wrong o11.1 o11.2.1 o11.2.2.1 o11.2.2.2.1 o11.2.2.2.2 ho11) (cwV 0 hts gX11_bestChange_X11_costs rfl rfl rfl (by decide +kernel) ⟨Nat.le_of_ble_eq_true rfl, Nat.le_of_ble_eq_true rfl⟩) ⟨fun a U g mk q => by obtain ⟨q0, q1, qP, qK, qN, qD⟩ := q; exact ⟨q0, q1, qP, va_K.moved (u := U) (U := U.calling g mk a) (Vm.Alike.refl U.vm) qK, nwS (u := U) (U := U.calling g mk a) rfl qN, qD⟩, va_recv hK hPc (ci := 10) (q0 := 0) rfl rfl, fun U hU hW => ⟨rfl, by rw [hU], by rw [hU]; exact hPc, va_K.moved hW.alike hK, nwW hW hN, hDc.weaken (fun _ _ _ _ => trivial)⟩⟩ rfl rfl hl.1 rfl (lv_room (Nat.le_of_ble_eq_true rfl)) dX11_bestChange_13 ⟨Nat.zero_le _, Nat.zero_le _⟩) hS (fun q _ h => hFc q h) hFc (fun r9 u9 t H1 locs ht hvm hw hB hz1 hk1 hS => ?_)
    have hw := hw.symm
    subst hw
    obtain ⟨hP1, hK1, hD1⟩ := hB
    rw [ht] at hP1
    obtain ⟨hP, hD⟩ := va_join (wr := []) (w1 := [(h_t, .inr (10, [.ref h_t_s, .ref h_t_was, .ref h_t_begun, .int t_states, .ref h_t_text, .int t_typed, .ref h_t_wrong, .ref h_t_cost, .ref h_t_first, .ref h_t_block, .ref h_t_many, .ref h_t_stack, .int t_height, .ref h_t_written, .int t_length, .ref h_t_own, .ref h_t_levelAt, .ref h_t_itemAt, .ref h_t_times, .int t_at, .int t_ownLength, .int t_depth, .int t_deepest, .int t_letters, .int t_repeats, .int t_corrections, .int t_mostCorrections, .int t_place, .int t_reason])), (h_t_block, .inl (cI, 3125, .inl o11.2.1)), (h_t_cost, .inl (cI, 3125, .inl o11.2.2.1)), (h_t_first, .inl (cI, 3125, .inl o11.2.2.2.1)), (h_t_s, .inl (cI, 30, .inl t_s)), (h_t_wrong, .inl (cI, 15625, .inl o11.2.2.2.2))]) hP hD [0, 1, 2, 3, 4, 5] [] rfl rfl (by decide) (by decide) hk1 hFc hP1 hD1
    generalize H1 = H at hP hS ⊢
    have hP : va_P (dC, dI) vwCl [(h_t, .inr (10, [.ref h_t_s, .ref h_t_was, .ref h_t_begun, .int t_states, .ref h_t_text, .int t_typed, .ref h_t_wrong, .ref h_t_cost, .ref h_t_first, .ref h_t_block, .ref h_t_many, .ref h_t_stack, .int t_height, .ref h_t_written, .int t_length, .ref h_t_own, .ref h_t_levelAt, .ref h_t_itemAt, .ref h_t_times, .int t_at, .int t_ownLength, .int t_depth, .int t_deepest, .int t_letters, .int t_repeats, .int t_corrections, .int t_mostCorrections, .int t_place, .int t_reason])), (h_t_block, .inl (cI, 3125, .inl o11.2.1)), (h_t_cost, .inl (cI, 3125, .inl o11.2.2.1)), (h_t_first, .inl (cI, 3125, .inl o11.2.2.2.1)), (h_t_s, .inl (cI, 30, .inl t_s)), (h_t_wrong, .inl (cI, 15625, .inl o11.2.2.2.2))] H := hP
    have hD : va_D A [(h_t, .inr (10, [.ref h_t_s, .ref h_t_was, .ref h_t_begun, .int t_states, .ref h_t_text, .int t_typed, .ref h_t_wrong, .ref h_t_cost, .ref h_t_first, .ref h_t_block, .ref h_t_many, .ref h_t_stack, .int t_height, .ref h_t_written, .int t_length, .ref h_t_own, .ref h_t_levelAt, .ref h_t_itemAt, .ref h_t_times, .int t_at, .int t_ownLength, .int t_depth, .int t_deepest, .int t_letters, .int t_repeats, .int t_corrections, .int t_mostCorrections, .int t_place, .int t_reason])), (h_t_block, .inl (cI, 3125, .inl o11.2.1)), (h_t_cost, .inl (cI, 3125, .inl o11.2.2.1)), (h_t_first, .inl (cI, 3125, .inl o11.2.2.2.1)), (h_t_s, .inl (cI, 30, .inl t_s)), (h_t_wrong, .inl (cI, 15625, .inl o11.2.2.2.2))] := hD
    refine lv_istore_n (lv' := [(2, .int o11.1), (0, .ref h_t), (1, .int x1)]) hx hb dX11_bestChange_16 rfl hl (by decide) rfl (fun ls hl => ?_)
    refine lv_ldc (v := (-1000004 : Int32)) hx hb hown (hts _ kMD_bestChange_X11_bestChange_2) dX11_bestChange_17 ?_
    refine lv_istore_n (lv' := [(3, .int (-1000004 : Int32)), (2, .int o11.1), (0, .ref h_t), (1, .int x1)]) hx hb dX11_bestChange_19 rfl hl (by decide) rfl (fun ls hl => ?_)
    refine lv_iconst (v := (0 : Int32)) hx hb dX11_bestChange_20 (by decide) ?_
    refine lv_istore (lv' := [(4, .int (0 : Int32)), (3, .int (-1000004 : Int32)), (2, .int o11.1), (0, .ref h_t), (1, .int x1)]) hx hb dX11_bestChange_21 hl (by decide) rfl (fun ls hl => ?_)
    exact hL23 FU o11.1 (-1000004 : Int32) (0 : Int32) o11.2.1 o11.2.2.1 o11.2.2.2.1 t_s o11.2.2.2.2 H locs ls hres hP hD hS (lv_sub hl [3, 4, 2, 1, 0] rfl)
  · have hres := it_of hres c_10
    refine lv_ldc (v := (-1000001 : Int32)) hx hb hown (hts _ kMD_bestChange_X11_bestChange_3) dX11_bestChange_9 ?_
    obtain ⟨e9_0, e9_1, e9_2, e9_3, e9_4, e9_5⟩ := tup6 hres
    subst e9_0
    subst e9_1
    subst e9_2
    subst e9_3
    subst e9_4
    subst e9_5
    rw [← hQQ]
    exact W.iret (v := (-1000001 : Int32)) hx hb hr (fun t ht hW => ⟨⟨(-1000001 : Int32), (), rfl, rfl, by rw [ht]; exact hP, va_K.moved hW.alike hK, hD⟩, hS.F ht⟩) hS.2.2 dX11_bestChange_11

-- MD_change
def fMD_change (t_states : Int32) (t_begun : Nat → Int32) (t_s : Nat → Int32) (t_was : Nat → Int32) (x1 : Int32) (x2 : Int32) : Option (Int32 × Int32 × (Nat → Int32) × (Nat → Int32) × (Nat → Int32)) :=
  (fMD_in x1 (0 : Int32) ((rd t_s (0 : Int32)) - (1 : Int32))).bind fun o1 =>
    if o1 = 0 then
      some ((-1000001 : Int32), t_states, t_begun, t_s, t_was)
    else
      (fMD_in x2 (0 : Int32) (3 : Int32)).bind fun o3 =>
        if o3 = 0 then
          some ((-1000001 : Int32), t_states, t_begun, t_s, t_was)
        else
          (fMD_keeps t_s t_begun).bind fun o5 =>
            if bIn ((6 : Int32) + x1) 30 = true then
              if bIn ((6 : Int32) + x1) 30 = true then
                (fMD_acted o5 t_states t_was (rd t_s ((6 : Int32) + x1))).bind fun o8 =>
                  some (o8.1, o8.2.1, o5, (wr t_s ((6 : Int32) + x1) x2), o8.2.2)
              else none
            else none
theorem kMD_change_X11_change_0 : Cond.fieldLink RX11 7 "RepeatNestsModel" "s" "[I" ∈ wsX11_change := by decide +kernel
theorem iMD_change_X11_change_1 : ∀ w ∈ wsX110, w ∈ wsX11_change := by decide +kernel
theorem kMD_change_X11_change_2 : Cond.constant RX11 57 (-1000001) ∈ wsX11_change := by decide +kernel
set_option maxHeartbeats 4000000 in
set_option maxRecDepth 100000 in
theorem cMD_change (l : Launch) (dC : Nat → ClassId) (dI : Nat → Nat → Nat) (cI cJ cC cS : ClassId) (h_t h_t_s h_t_was h_t_begun h_t_text h_t_wrong h_t_cost h_t_first h_t_block h_t_many h_t_stack h_t_written h_t_own h_t_levelAt h_t_itemAt h_t_times : Nat) (sz : Nat) (t_states : Int32) (t_typed : Int32) (t_height : Int32) (t_length : Int32) (t_at : Int32) (t_ownLength : Int32) (t_depth : Int32) (t_deepest : Int32) (t_letters : Int32) (t_repeats : Int32) (t_corrections : Int32) (t_mostCorrections : Int32) (t_place : Int32) (t_reason : Int32) (t_begun : Nat → Int32) (t_s : Nat → Int32) (t_was : Nat → Int32) (x1 : Int32) (x2 : Int32) (r : Int32) (y_t_states : Int32) (y_t_begun : Nat → Int32) (y_t_s : Nat → Int32) (y_t_was : Nat → Int32) (hres : fMD_change t_states t_begun t_s t_was x1 x2 = some (r, y_t_states, y_t_begun, y_t_s, y_t_was)) :
    Met l yX11_change wsX11_change ({ frames := 1, cells := 0, slots := 0, locals := 22 } : Room) (va_Pc [.ref h_t, .int x1, .int x2] (fun (U : State) => U.heap.size = sz ∧ va_P (dC, dI) vwCl [(h_t, .inr (10, [.ref h_t_s, .ref h_t_was, .ref h_t_begun, .int t_states, .ref h_t_text, .int t_typed, .ref h_t_wrong, .ref h_t_cost, .ref h_t_first, .ref h_t_block, .ref h_t_many, .ref h_t_stack, .int t_height, .ref h_t_written, .int t_length, .ref h_t_own, .ref h_t_levelAt, .ref h_t_itemAt, .ref h_t_times, .int t_at, .int t_ownLength, .int t_depth, .int t_deepest, .int t_letters, .int t_repeats, .int t_corrections, .int t_mostCorrections, .int t_place, .int t_reason])), (h_t_begun, .inl (cI, 30, .inl t_begun)), (h_t_s, .inl (cI, 30, .inl t_s)), (h_t_was, .inl (cI, 120, .inl t_was))] U.heap ∧ va_K (dC, dI) vwCl (tyA cI cJ cC cS) U ∧ nwN U ∧ va_D (fun _ => True) [(h_t, .inr (10, [.ref h_t_s, .ref h_t_was, .ref h_t_begun, .int t_states, .ref h_t_text, .int t_typed, .ref h_t_wrong, .ref h_t_cost, .ref h_t_first, .ref h_t_block, .ref h_t_many, .ref h_t_stack, .int t_height, .ref h_t_written, .int t_length, .ref h_t_own, .ref h_t_levelAt, .ref h_t_itemAt, .ref h_t_times, .int t_at, .int t_ownLength, .int t_depth, .int t_deepest, .int t_letters, .int t_repeats, .int t_corrections, .int t_mostCorrections, .int t_place, .int t_reason])), (h_t_begun, .inl (cI, 30, .inl t_begun)), (h_t_s, .inl (cI, 30, .inl t_s)), (h_t_was, .inl (cI, 120, .inl t_was))])) (va_Qi (fun (r9 : Int32) (_ : Unit) => r9 = r) (fun (_ : Unit) (t : State) => va_P (dC, dI) vwCl [(h_t, .inr (10, [.ref h_t_s, .ref h_t_was, .ref h_t_begun, .int y_t_states, .ref h_t_text, .int t_typed, .ref h_t_wrong, .ref h_t_cost, .ref h_t_first, .ref h_t_block, .ref h_t_many, .ref h_t_stack, .int t_height, .ref h_t_written, .int t_length, .ref h_t_own, .ref h_t_levelAt, .ref h_t_itemAt, .ref h_t_times, .int t_at, .int t_ownLength, .int t_depth, .int t_deepest, .int t_letters, .int t_repeats, .int t_corrections, .int t_mostCorrections, .int t_place, .int t_reason])), (h_t_begun, .inl (cI, 30, .inl y_t_begun)), (h_t_s, .inl (cI, 30, .inl y_t_s)), (h_t_was, .inl (cI, 120, .inl y_t_was))] t.heap ∧ va_K (dC, dI) vwCl (tyA cI cJ cC cS) t ∧ va_D (va_A [(h_t, .inr (10, [.ref h_t_s, .ref h_t_was, .ref h_t_begun, .int t_states, .ref h_t_text, .int t_typed, .ref h_t_wrong, .ref h_t_cost, .ref h_t_first, .ref h_t_block, .ref h_t_many, .ref h_t_stack, .int t_height, .ref h_t_written, .int t_length, .ref h_t_own, .ref h_t_levelAt, .ref h_t_itemAt, .ref h_t_times, .int t_at, .int t_ownLength, .int t_depth, .int t_deepest, .int t_letters, .int t_repeats, .int t_corrections, .int t_mostCorrections, .int t_place, .int t_reason])), (h_t_begun, .inl (cI, 30, .inl t_begun)), (h_t_s, .inl (cI, 30, .inl t_s)), (h_t_was, .inl (cI, 120, .inl t_was))] sz) [(h_t, .inr (10, [.ref h_t_s, .ref h_t_was, .ref h_t_begun, .int y_t_states, .ref h_t_text, .int t_typed, .ref h_t_wrong, .ref h_t_cost, .ref h_t_first, .ref h_t_block, .ref h_t_many, .ref h_t_stack, .int t_height, .ref h_t_written, .int t_length, .ref h_t_own, .ref h_t_levelAt, .ref h_t_itemAt, .ref h_t_times, .int t_at, .int t_ownLength, .int t_depth, .int t_deepest, .int t_letters, .int t_repeats, .int t_corrections, .int t_mostCorrections, .int t_place, .int t_reason])), (h_t_begun, .inl (cI, 30, .inl y_t_begun)), (h_t_s, .inl (cI, 30, .inl y_t_s)), (h_t_was, .inl (cI, 120, .inl y_t_was))]) (va_A [(h_t, .inr (10, [.ref h_t_s, .ref h_t_was, .ref h_t_begun, .int t_states, .ref h_t_text, .int t_typed, .ref h_t_wrong, .ref h_t_cost, .ref h_t_first, .ref h_t_block, .ref h_t_many, .ref h_t_stack, .int t_height, .ref h_t_written, .int t_length, .ref h_t_own, .ref h_t_levelAt, .ref h_t_itemAt, .ref h_t_times, .int t_at, .int t_ownLength, .int t_depth, .int t_deepest, .int t_letters, .int t_repeats, .int t_corrections, .int t_mostCorrections, .int t_place, .int t_reason])), (h_t_begun, .inl (cI, 30, .inl t_begun)), (h_t_s, .inl (cI, 30, .inl t_s)), (h_t_was, .inl (cI, 120, .inl t_was))] sz)) 0 0 (va_A [(h_t, .inr (10, [.ref h_t_s, .ref h_t_was, .ref h_t_begun, .int t_states, .ref h_t_text, .int t_typed, .ref h_t_wrong, .ref h_t_cost, .ref h_t_first, .ref h_t_block, .ref h_t_many, .ref h_t_stack, .int t_height, .ref h_t_written, .int t_length, .ref h_t_own, .ref h_t_levelAt, .ref h_t_itemAt, .ref h_t_times, .int t_at, .int t_ownLength, .int t_depth, .int t_deepest, .int t_letters, .int t_repeats, .int t_corrections, .int t_mostCorrections, .int t_place, .int t_reason])), (h_t_begun, .inl (cI, 30, .inl t_begun)), (h_t_s, .inl (cI, 30, .inl t_s)), (h_t_was, .inl (cI, 120, .inl t_was))] sz) := by
  refine Met.ofW (cc := cX11_change) (maxL := 4) (ret := (some .int)) (by decide) rfl ?_
  intro p e s m args below meth c s₁ B hml hv
  obtain ⟨hargs, hsz, hP, hK, hN, hD0⟩ := hv
  have hx := B.exec
  have hb := B.bytes
  have hr := B.returns
  have hts := atoms_spec (ws := wsX11_change) B.pre
  have hown : s.vm.findClass RX11 = some m.cls := findClass_of_methodNamed B.named
  have hlocks := B.notSynchronized
  subst hsz
  have hD := hD0.self (sz := s.heap.size)
  generalize hAe : va_A [(h_t, .inr (10, [.ref h_t_s, .ref h_t_was, .ref h_t_begun, .int t_states, .ref h_t_text, .int t_typed, .ref h_t_wrong, .ref h_t_cost, .ref h_t_first, .ref h_t_block, .ref h_t_many, .ref h_t_stack, .int t_height, .ref h_t_written, .int t_length, .ref h_t_own, .ref h_t_levelAt, .ref h_t_itemAt, .ref h_t_times, .int t_at, .int t_ownLength, .int t_depth, .int t_deepest, .int t_letters, .int t_repeats, .int t_corrections, .int t_mostCorrections, .int t_place, .int t_reason])), (h_t_begun, .inl (cI, 30, .inl t_begun)), (h_t_s, .inl (cI, 30, .inl t_s)), (h_t_was, .inl (cI, 120, .inl t_was))] s.heap.size = A at hD ⊢
  have hA : ∀ q : Nat, s.heap.size ≤ q → A q := fun q h => by rw [← hAe]; exact Or.inr h
  have hS : va_S A s.heap s.heap [] := va_S.rf
  have hP : va_P (dC, dI) vwCl [(h_t, .inr (10, [.ref h_t_s, .ref h_t_was, .ref h_t_begun, .int t_states, .ref h_t_text, .int t_typed, .ref h_t_wrong, .ref h_t_cost, .ref h_t_first, .ref h_t_block, .ref h_t_many, .ref h_t_stack, .int t_height, .ref h_t_written, .int t_length, .ref h_t_own, .ref h_t_levelAt, .ref h_t_itemAt, .ref h_t_times, .int t_at, .int t_ownLength, .int t_depth, .int t_deepest, .int t_letters, .int t_repeats, .int t_corrections, .int t_mostCorrections, .int t_place, .int t_reason])), (h_t_begun, .inl (cI, 30, .inl t_begun)), (h_t_s, .inl (cI, 30, .inl t_s)), (h_t_was, .inl (cI, 120, .inl t_was))] s.heap := hP
  have hl := lv_entry [.ref h_t, .int x1, .int x2] (n := 4) (Nat.le_of_ble_eq_true rfl)
  rw [show entryFrame m args 4 = entryFrame m ([.ref h_t, .int x1, .int x2] : List Value).toArray 4 from by rw [hargs], lg_entry_eq]
  generalize (lg_sl [.ref h_t, .int x1, .int x2] ++ List.replicate (4 - (lg_sl [.ref h_t, .int x1, .int x2]).length) Slot.unset).toArray = ls at hl ⊢
  have hl : lv_has ls 4 [(0, .ref h_t), (1, .int x1), (2, .int x2)] := hl
  generalize hQQ : MQ below (va_Qi (fun (r9 : Int32) (_ : Unit) => r9 = r) (fun (_ : Unit) (t : State) => va_P (dC, dI) vwCl [(h_t, .inr (10, [.ref h_t_s, .ref h_t_was, .ref h_t_begun, .int y_t_states, .ref h_t_text, .int t_typed, .ref h_t_wrong, .ref h_t_cost, .ref h_t_first, .ref h_t_block, .ref h_t_many, .ref h_t_stack, .int t_height, .ref h_t_written, .int t_length, .ref h_t_own, .ref h_t_levelAt, .ref h_t_itemAt, .ref h_t_times, .int t_at, .int t_ownLength, .int t_depth, .int t_deepest, .int t_letters, .int t_repeats, .int t_corrections, .int t_mostCorrections, .int t_place, .int t_reason])), (h_t_begun, .inl (cI, 30, .inl y_t_begun)), (h_t_s, .inl (cI, 30, .inl y_t_s)), (h_t_was, .inl (cI, 120, .inl y_t_was))] t.heap ∧ va_K (dC, dI) vwCl (tyA cI cJ cC cS) t ∧ va_D A [(h_t, .inr (10, [.ref h_t_s, .ref h_t_was, .ref h_t_begun, .int y_t_states, .ref h_t_text, .int t_typed, .ref h_t_wrong, .ref h_t_cost, .ref h_t_first, .ref h_t_block, .ref h_t_many, .ref h_t_stack, .int t_height, .ref h_t_written, .int t_length, .ref h_t_own, .ref h_t_levelAt, .ref h_t_itemAt, .ref h_t_times, .int t_at, .int t_ownLength, .int t_depth, .int t_deepest, .int t_letters, .int t_repeats, .int t_corrections, .int t_mostCorrections, .int t_place, .int t_reason])), (h_t_begun, .inl (cI, 30, .inl y_t_begun)), (h_t_s, .inl (cI, 30, .inl y_t_s)), (h_t_was, .inl (cI, 120, .inl y_t_was))]) A) args s 0 0 A = QQ
  obtain ⟨H, hH⟩ : ∃ H : Heap, H = s.heap := ⟨_, rfl⟩
  obtain ⟨locs, hlocs⟩ : ∃ locs : List Loc, locs = [] := ⟨_, rfl⟩
  rw [← hH] at hP
  have hS : va_S A s.heap H locs := by rw [hH, hlocs]; exact hS
  suffices hZ : W p l e (headSpec wsX11_change ({ frames := 1, cells := 0, slots := 0, locals := 22 } : Room)).room s m args below meth c H locs 0 0 QQ (F0 m 0 ls []) by rw [hH, hlocs] at hZ; exact hZ
  clear hH hlocs
  rw [fMD_change] at hres
  refine lv_iload_n hx hb dX11_change_0 rfl (lv_at hl 1 rfl) ?_
  refine lv_iconst (v := (0 : Int32)) hx hb dX11_change_1 (by decide) ?_
  refine lv_aload_n hx hb dX11_change_2 rfl (lv_at hl 0 rfl) ?_
  refine va_get (D := (dC, dI)) (ci := 10) (v := .ref h_t_s) (C := RX11) (T := TX11) (N := 29) hx hb hts iMD_change_X11_change_1 hown hK hP 0 rfl rfl 0 (by decide) (hts _ kMD_change_X11_change_0) (fun _ h9 => h9) rfl dX11_change_3 ?_
  refine lv_iconst (v := (0 : Int32)) hx hb dX11_change_6 (by decide) ?_
  refine va_iald hx hb hK hP 2 0 rfl rfl (vin (by decide)) dX11_change_7 ?_
  refine lv_iconst (v := (1 : Int32)) hx hb dX11_change_8 (by decide) ?_
  refine lv_isub hx hb dX11_change_9 ?_
  obtain ⟨o1, ho1, hres⟩ := bd_of hres
  have hPc := hP.sub (ws' := []) [] rfl
  have hDc := hD.sub (ws' := []) [] (by decide) rfl
  have hFc := va_free (wc := []) hD hS hA [] rfl
  refine va_calli (va_runS (As := [.int x1, .int (0 : Int32), .int ((rd t_s (0 : Int32)) - (1 : Int32))]) (rest := []) ⟨hx, hb, hml, hown, hts⟩ (cMD_in l dC dI cI cJ cC cS H.size x1 (0 : Int32) ((rd t_s (0 : Int32)) - (1 : Int32)) o1 ho1) (va_cwS 3 hts gX11_change_X11_in rfl rfl rfl (by decide +kernel) ⟨Nat.le_of_ble_eq_true rfl, Nat.le_of_ble_eq_true rfl⟩) ⟨fun a U g mk q => by obtain ⟨q0, q1, qP, qK, qN, qD⟩ := q; exact ⟨q0, q1, qP, va_K.moved (u := U) (U := U.calling g mk a) (Vm.Alike.refl U.vm) qK, nwS (u := U) (U := U.calling g mk a) rfl qN, qD⟩, fun U hU hW => ⟨rfl, by rw [hU], by rw [hU]; exact hPc, va_K.moved hW.alike hK, nwW hW hN, hDc.weaken (fun _ _ _ _ => trivial)⟩⟩ rfl rfl hl.1 rfl (lv_room (Nat.le_of_ble_eq_true rfl)) dX11_change_10 ⟨Nat.zero_le _, Nat.zero_le _⟩) hS (fun q _ h => hFc q h) hFc (fun r9 u9 t H1 locs ht hvm hw hB hz1 hk1 hS => ?_)
  have hw := hw.symm
  subst hw
  obtain ⟨hP1, hK1, hD1⟩ := hB
  rw [ht] at hP1
  obtain ⟨hP, hD⟩ := va_join (wr := [(h_t, .inr (10, [.ref h_t_s, .ref h_t_was, .ref h_t_begun, .int t_states, .ref h_t_text, .int t_typed, .ref h_t_wrong, .ref h_t_cost, .ref h_t_first, .ref h_t_block, .ref h_t_many, .ref h_t_stack, .int t_height, .ref h_t_written, .int t_length, .ref h_t_own, .ref h_t_levelAt, .ref h_t_itemAt, .ref h_t_times, .int t_at, .int t_ownLength, .int t_depth, .int t_deepest, .int t_letters, .int t_repeats, .int t_corrections, .int t_mostCorrections, .int t_place, .int t_reason])), (h_t_begun, .inl (cI, 30, .inl t_begun)), (h_t_s, .inl (cI, 30, .inl t_s)), (h_t_was, .inl (cI, 120, .inl t_was))]) (w1 := []) hP hD [] [0, 1, 2, 3] rfl rfl (by decide) (by decide) hk1 hFc hP1 hD1
  generalize H1 = H at hP hS ⊢
  have hP : va_P (dC, dI) vwCl [(h_t, .inr (10, [.ref h_t_s, .ref h_t_was, .ref h_t_begun, .int t_states, .ref h_t_text, .int t_typed, .ref h_t_wrong, .ref h_t_cost, .ref h_t_first, .ref h_t_block, .ref h_t_many, .ref h_t_stack, .int t_height, .ref h_t_written, .int t_length, .ref h_t_own, .ref h_t_levelAt, .ref h_t_itemAt, .ref h_t_times, .int t_at, .int t_ownLength, .int t_depth, .int t_deepest, .int t_letters, .int t_repeats, .int t_corrections, .int t_mostCorrections, .int t_place, .int t_reason])), (h_t_begun, .inl (cI, 30, .inl t_begun)), (h_t_s, .inl (cI, 30, .inl t_s)), (h_t_was, .inl (cI, 120, .inl t_was))] H := hP
  have hD : va_D A [(h_t, .inr (10, [.ref h_t_s, .ref h_t_was, .ref h_t_begun, .int t_states, .ref h_t_text, .int t_typed, .ref h_t_wrong, .ref h_t_cost, .ref h_t_first, .ref h_t_block, .ref h_t_many, .ref h_t_stack, .int t_height, .ref h_t_written, .int t_length, .ref h_t_own, .ref h_t_levelAt, .ref h_t_itemAt, .ref h_t_times, .int t_at, .int t_ownLength, .int t_depth, .int t_deepest, .int t_letters, .int t_repeats, .int t_corrections, .int t_mostCorrections, .int t_place, .int t_reason])), (h_t_begun, .inl (cI, 30, .inl t_begun)), (h_t_s, .inl (cI, 30, .inl t_s)), (h_t_was, .inl (cI, 120, .inl t_was))] := hD
  refine lv_if_eq (tgt := 25) hx hb dX11_change_13 (by decide) (fun c_2 => ?_) (fun c_2 => ?_)
  · have hres := it_of hres c_2
    refine lv_ldc (v := (-1000001 : Int32)) hx hb hown (hts _ kMD_change_X11_change_2) dX11_change_25 ?_
    obtain ⟨e9_0, e9_1, e9_2, e9_3, e9_4⟩ := tup5 hres
    subst e9_0
    subst e9_1
    subst e9_2
    subst e9_3
    subst e9_4
    rw [← hQQ]
    exact W.iret (v := (-1000001 : Int32)) hx hb hr (fun t ht hW => ⟨⟨(-1000001 : Int32), (), rfl, rfl, by rw [ht]; exact hP, va_K.moved hW.alike hK, hD⟩, hS.F ht⟩) hS.2.2 dX11_change_27
  · have hres := ie_of hres c_2
    refine lv_iload_n hx hb dX11_change_16 rfl (lv_at hl 2 rfl) ?_
    refine lv_iconst (v := (0 : Int32)) hx hb dX11_change_17 (by decide) ?_
    refine lv_iconst (v := (3 : Int32)) hx hb dX11_change_18 (by decide) ?_
    obtain ⟨o3, ho3, hres⟩ := bd_of hres
    have hPc := hP.sub (ws' := []) [] rfl
    have hDc := hD.sub (ws' := []) [] (by decide) rfl
    have hFc := va_free (wc := []) hD hS hA [] rfl
    refine va_calli (va_runS (As := [.int x2, .int (0 : Int32), .int (3 : Int32)]) (rest := []) ⟨hx, hb, hml, hown, hts⟩ (cMD_in l dC dI cI cJ cC cS H.size x2 (0 : Int32) (3 : Int32) o3 ho3) (va_cwS 3 hts gX11_change_X11_in rfl rfl rfl (by decide +kernel) ⟨Nat.le_of_ble_eq_true rfl, Nat.le_of_ble_eq_true rfl⟩) ⟨fun a U g mk q => by obtain ⟨q0, q1, qP, qK, qN, qD⟩ := q; exact ⟨q0, q1, qP, va_K.moved (u := U) (U := U.calling g mk a) (Vm.Alike.refl U.vm) qK, nwS (u := U) (U := U.calling g mk a) rfl qN, qD⟩, fun U hU hW => ⟨rfl, by rw [hU], by rw [hU]; exact hPc, va_K.moved hW.alike hK, nwW hW hN, hDc.weaken (fun _ _ _ _ => trivial)⟩⟩ rfl rfl hl.1 rfl (lv_room (Nat.le_of_ble_eq_true rfl)) dX11_change_19 ⟨Nat.zero_le _, Nat.zero_le _⟩) hS (fun q _ h => hFc q h) hFc (fun r9 u9 t H1 locs ht hvm hw hB hz1 hk1 hS => ?_)
    have hw := hw.symm
    subst hw
    obtain ⟨hP1, hK1, hD1⟩ := hB
    rw [ht] at hP1
    obtain ⟨hP, hD⟩ := va_join (wr := [(h_t, .inr (10, [.ref h_t_s, .ref h_t_was, .ref h_t_begun, .int t_states, .ref h_t_text, .int t_typed, .ref h_t_wrong, .ref h_t_cost, .ref h_t_first, .ref h_t_block, .ref h_t_many, .ref h_t_stack, .int t_height, .ref h_t_written, .int t_length, .ref h_t_own, .ref h_t_levelAt, .ref h_t_itemAt, .ref h_t_times, .int t_at, .int t_ownLength, .int t_depth, .int t_deepest, .int t_letters, .int t_repeats, .int t_corrections, .int t_mostCorrections, .int t_place, .int t_reason])), (h_t_begun, .inl (cI, 30, .inl t_begun)), (h_t_s, .inl (cI, 30, .inl t_s)), (h_t_was, .inl (cI, 120, .inl t_was))]) (w1 := []) hP hD [] [0, 1, 2, 3] rfl rfl (by decide) (by decide) hk1 hFc hP1 hD1
    generalize H1 = H at hP hS ⊢
    have hP : va_P (dC, dI) vwCl [(h_t, .inr (10, [.ref h_t_s, .ref h_t_was, .ref h_t_begun, .int t_states, .ref h_t_text, .int t_typed, .ref h_t_wrong, .ref h_t_cost, .ref h_t_first, .ref h_t_block, .ref h_t_many, .ref h_t_stack, .int t_height, .ref h_t_written, .int t_length, .ref h_t_own, .ref h_t_levelAt, .ref h_t_itemAt, .ref h_t_times, .int t_at, .int t_ownLength, .int t_depth, .int t_deepest, .int t_letters, .int t_repeats, .int t_corrections, .int t_mostCorrections, .int t_place, .int t_reason])), (h_t_begun, .inl (cI, 30, .inl t_begun)), (h_t_s, .inl (cI, 30, .inl t_s)), (h_t_was, .inl (cI, 120, .inl t_was))] H := hP
    have hD : va_D A [(h_t, .inr (10, [.ref h_t_s, .ref h_t_was, .ref h_t_begun, .int t_states, .ref h_t_text, .int t_typed, .ref h_t_wrong, .ref h_t_cost, .ref h_t_first, .ref h_t_block, .ref h_t_many, .ref h_t_stack, .int t_height, .ref h_t_written, .int t_length, .ref h_t_own, .ref h_t_levelAt, .ref h_t_itemAt, .ref h_t_times, .int t_at, .int t_ownLength, .int t_depth, .int t_deepest, .int t_letters, .int t_repeats, .int t_corrections, .int t_mostCorrections, .int t_place, .int t_reason])), (h_t_begun, .inl (cI, 30, .inl t_begun)), (h_t_s, .inl (cI, 30, .inl t_s)), (h_t_was, .inl (cI, 120, .inl t_was))] := hD
    refine lv_if_ne (tgt := 28) hx hb dX11_change_22 (by decide) (fun c_4 => ?_) (fun c_4 => ?_)
    · have hres := ie_of hres c_4
      refine lv_aload_n hx hb dX11_change_28 rfl (lv_at hl 0 rfl) ?_
      obtain ⟨o5, ho5, hres⟩ := bd_of hres
      have hPc := hP.sub (ws' := [(h_t, .inr (10, [.ref h_t_s, .ref h_t_was, .ref h_t_begun, .int t_states, .ref h_t_text, .int t_typed, .ref h_t_wrong, .ref h_t_cost, .ref h_t_first, .ref h_t_block, .ref h_t_many, .ref h_t_stack, .int t_height, .ref h_t_written, .int t_length, .ref h_t_own, .ref h_t_levelAt, .ref h_t_itemAt, .ref h_t_times, .int t_at, .int t_ownLength, .int t_depth, .int t_deepest, .int t_letters, .int t_repeats, .int t_corrections, .int t_mostCorrections, .int t_place, .int t_reason])), (h_t_begun, .inl (cI, 30, .inl t_begun)), (h_t_s, .inl (cI, 30, .inl t_s))]) [0, 1, 2] rfl
      have hDc := hD.sub (ws' := [(h_t, .inr (10, [.ref h_t_s, .ref h_t_was, .ref h_t_begun, .int t_states, .ref h_t_text, .int t_typed, .ref h_t_wrong, .ref h_t_cost, .ref h_t_first, .ref h_t_block, .ref h_t_many, .ref h_t_stack, .int t_height, .ref h_t_written, .int t_length, .ref h_t_own, .ref h_t_levelAt, .ref h_t_itemAt, .ref h_t_times, .int t_at, .int t_ownLength, .int t_depth, .int t_deepest, .int t_letters, .int t_repeats, .int t_corrections, .int t_mostCorrections, .int t_place, .int t_reason])), (h_t_begun, .inl (cI, 30, .inl t_begun)), (h_t_s, .inl (cI, 30, .inl t_s))]) [0, 1, 2] (by decide) rfl
      have hFc := va_free (wc := [(h_t, .inr (10, [.ref h_t_s, .ref h_t_was, .ref h_t_begun, .int t_states, .ref h_t_text, .int t_typed, .ref h_t_wrong, .ref h_t_cost, .ref h_t_first, .ref h_t_block, .ref h_t_many, .ref h_t_stack, .int t_height, .ref h_t_written, .int t_length, .ref h_t_own, .ref h_t_levelAt, .ref h_t_itemAt, .ref h_t_times, .int t_at, .int t_ownLength, .int t_depth, .int t_deepest, .int t_letters, .int t_repeats, .int t_corrections, .int t_mostCorrections, .int t_place, .int t_reason])), (h_t_begun, .inl (cI, 30, .inl t_begun)), (h_t_s, .inl (cI, 30, .inl t_s))]) hD hS hA [0, 1, 2] rfl
      refine va_callv (va_runV (As := []) (rest := []) ⟨hx, hb, hml, hown, hts⟩ (cMD_keeps l dC dI cI cJ cC cS h_t h_t_s h_t_was h_t_begun h_t_text h_t_wrong h_t_cost h_t_first h_t_block h_t_many h_t_stack h_t_written h_t_own h_t_levelAt h_t_itemAt h_t_times H.size t_states t_typed t_height t_length t_at t_ownLength t_depth t_deepest t_letters t_repeats t_corrections t_mostCorrections t_place t_reason t_begun t_s o5 ho5) (cwV 0 hts gX11_change_X11_keeps rfl rfl rfl (by decide +kernel) ⟨Nat.le_of_ble_eq_true rfl, Nat.le_of_ble_eq_true rfl⟩) ⟨fun a U g mk q => by obtain ⟨q0, q1, qP, qK, qN, qD⟩ := q; exact ⟨q0, q1, qP, va_K.moved (u := U) (U := U.calling g mk a) (Vm.Alike.refl U.vm) qK, nwS (u := U) (U := U.calling g mk a) rfl qN, qD⟩, va_recv hK hPc (ci := 10) (q0 := 0) rfl rfl, fun U hU hW => ⟨rfl, by rw [hU], by rw [hU]; exact hPc, va_K.moved hW.alike hK, nwW hW hN, hDc.weaken (fun _ _ _ _ => trivial)⟩⟩ rfl rfl hl.1 rfl (lv_room (Nat.le_of_ble_eq_true rfl)) dX11_change_29 ⟨Nat.zero_le _, Nat.zero_le _⟩) hS (fun q _ h => hFc q h) hFc (fun u9 t H1 locs ht hvm hw hB hz1 hk1 hS => ?_)
      obtain ⟨hP1, hK1, hD1⟩ := hB
      rw [ht] at hP1
      obtain ⟨hP, hD⟩ := va_join (wr := [(h_t_was, .inl (cI, 120, .inl t_was))]) (w1 := [(h_t, .inr (10, [.ref h_t_s, .ref h_t_was, .ref h_t_begun, .int t_states, .ref h_t_text, .int t_typed, .ref h_t_wrong, .ref h_t_cost, .ref h_t_first, .ref h_t_block, .ref h_t_many, .ref h_t_stack, .int t_height, .ref h_t_written, .int t_length, .ref h_t_own, .ref h_t_levelAt, .ref h_t_itemAt, .ref h_t_times, .int t_at, .int t_ownLength, .int t_depth, .int t_deepest, .int t_letters, .int t_repeats, .int t_corrections, .int t_mostCorrections, .int t_place, .int t_reason])), (h_t_begun, .inl (cI, 30, .inl o5)), (h_t_s, .inl (cI, 30, .inl t_s))]) hP hD [0, 1, 2] [3] rfl rfl (by decide) (by decide) hk1 hFc hP1 hD1
      generalize H1 = H at hP hS ⊢
      have hP : va_P (dC, dI) vwCl [(h_t_was, .inl (cI, 120, .inl t_was)), (h_t, .inr (10, [.ref h_t_s, .ref h_t_was, .ref h_t_begun, .int t_states, .ref h_t_text, .int t_typed, .ref h_t_wrong, .ref h_t_cost, .ref h_t_first, .ref h_t_block, .ref h_t_many, .ref h_t_stack, .int t_height, .ref h_t_written, .int t_length, .ref h_t_own, .ref h_t_levelAt, .ref h_t_itemAt, .ref h_t_times, .int t_at, .int t_ownLength, .int t_depth, .int t_deepest, .int t_letters, .int t_repeats, .int t_corrections, .int t_mostCorrections, .int t_place, .int t_reason])), (h_t_begun, .inl (cI, 30, .inl o5)), (h_t_s, .inl (cI, 30, .inl t_s))] H := hP
      have hD : va_D A [(h_t_was, .inl (cI, 120, .inl t_was)), (h_t, .inr (10, [.ref h_t_s, .ref h_t_was, .ref h_t_begun, .int t_states, .ref h_t_text, .int t_typed, .ref h_t_wrong, .ref h_t_cost, .ref h_t_first, .ref h_t_block, .ref h_t_many, .ref h_t_stack, .int t_height, .ref h_t_written, .int t_length, .ref h_t_own, .ref h_t_levelAt, .ref h_t_itemAt, .ref h_t_times, .int t_at, .int t_ownLength, .int t_depth, .int t_deepest, .int t_letters, .int t_repeats, .int t_corrections, .int t_mostCorrections, .int t_place, .int t_reason])), (h_t_begun, .inl (cI, 30, .inl o5)), (h_t_s, .inl (cI, 30, .inl t_s))] := hD
      refine lv_aload_n hx hb dX11_change_32 rfl (lv_at hl 0 rfl) ?_
      refine va_get (D := (dC, dI)) (ci := 10) (v := .ref h_t_s) (C := RX11) (T := TX11) (N := 29) hx hb hts iMD_change_X11_change_1 hown hK hP 1 rfl rfl 0 (by decide) (hts _ kMD_change_X11_change_0) (fun _ h9 => h9) rfl dX11_change_33 ?_
      refine lv_bipush (v := (6 : Int32)) hx hb dX11_change_36 (by decide) ?_
      refine lv_iload_n hx hb dX11_change_38 rfl (lv_at hl 1 rfl) ?_
      refine lv_iadd hx hb dX11_change_39 ?_
      obtain ⟨c_6, hres⟩ := ck_of hres
      refine va_iald hx hb hK hP 3 0 rfl rfl c_6 dX11_change_40 ?_
      refine lv_istore_n (lv' := [(3, .int (rd t_s ((6 : Int32) + x1))), (0, .ref h_t), (1, .int x1), (2, .int x2)]) hx hb dX11_change_41 rfl hl (by decide) rfl (fun ls hl => ?_)
      refine lv_aload_n hx hb dX11_change_42 rfl (lv_at hl 1 rfl) ?_
      refine va_get (D := (dC, dI)) (ci := 10) (v := .ref h_t_s) (C := RX11) (T := TX11) (N := 29) hx hb hts iMD_change_X11_change_1 hown hK hP 1 rfl rfl 0 (by decide) (hts _ kMD_change_X11_change_0) (fun _ h9 => h9) rfl dX11_change_43 ?_
      refine lv_bipush (v := (6 : Int32)) hx hb dX11_change_46 (by decide) ?_
      refine lv_iload_n hx hb dX11_change_48 rfl (lv_at hl 2 rfl) ?_
      refine lv_iadd hx hb dX11_change_49 ?_
      refine lv_iload_n hx hb dX11_change_50 rfl (lv_at hl 3 rfl) ?_
      obtain ⟨c_7, hres⟩ := ck_of hres
      refine va_iast hx hb hK hP hD hS 3 0 rfl rfl c_7 dX11_change_51 (fun H locs hP hD hS => ?_)
      have hP : va_P (dC, dI) vwCl [(h_t_was, .inl (cI, 120, .inl t_was)), (h_t, .inr (10, [.ref h_t_s, .ref h_t_was, .ref h_t_begun, .int t_states, .ref h_t_text, .int t_typed, .ref h_t_wrong, .ref h_t_cost, .ref h_t_first, .ref h_t_block, .ref h_t_many, .ref h_t_stack, .int t_height, .ref h_t_written, .int t_length, .ref h_t_own, .ref h_t_levelAt, .ref h_t_itemAt, .ref h_t_times, .int t_at, .int t_ownLength, .int t_depth, .int t_deepest, .int t_letters, .int t_repeats, .int t_corrections, .int t_mostCorrections, .int t_place, .int t_reason])), (h_t_begun, .inl (cI, 30, .inl o5)), (h_t_s, .inl (cI, 30, .inl (wr t_s ((6 : Int32) + x1) x2)))] H := hP
      have hD : va_D A [(h_t_was, .inl (cI, 120, .inl t_was)), (h_t, .inr (10, [.ref h_t_s, .ref h_t_was, .ref h_t_begun, .int t_states, .ref h_t_text, .int t_typed, .ref h_t_wrong, .ref h_t_cost, .ref h_t_first, .ref h_t_block, .ref h_t_many, .ref h_t_stack, .int t_height, .ref h_t_written, .int t_length, .ref h_t_own, .ref h_t_levelAt, .ref h_t_itemAt, .ref h_t_times, .int t_at, .int t_ownLength, .int t_depth, .int t_deepest, .int t_letters, .int t_repeats, .int t_corrections, .int t_mostCorrections, .int t_place, .int t_reason])), (h_t_begun, .inl (cI, 30, .inl o5)), (h_t_s, .inl (cI, 30, .inl (wr t_s ((6 : Int32) + x1) x2)))] := hD
      refine lv_aload_n hx hb dX11_change_52 rfl (lv_at hl 1 rfl) ?_
      refine lv_iload_n hx hb dX11_change_53 rfl (lv_at hl 0 rfl) ?_
      obtain ⟨o8, ho8, hres⟩ := bd_of hres
      have hPc := hP.sub (ws' := [(h_t, .inr (10, [.ref h_t_s, .ref h_t_was, .ref h_t_begun, .int t_states, .ref h_t_text, .int t_typed, .ref h_t_wrong, .ref h_t_cost, .ref h_t_first, .ref h_t_block, .ref h_t_many, .ref h_t_stack, .int t_height, .ref h_t_written, .int t_length, .ref h_t_own, .ref h_t_levelAt, .ref h_t_itemAt, .ref h_t_times, .int t_at, .int t_ownLength, .int t_depth, .int t_deepest, .int t_letters, .int t_repeats, .int t_corrections, .int t_mostCorrections, .int t_place, .int t_reason])), (h_t_begun, .inl (cI, 30, .inl o5)), (h_t_was, .inl (cI, 120, .inl t_was))]) [1, 2, 0] rfl
      have hDc := hD.sub (ws' := [(h_t, .inr (10, [.ref h_t_s, .ref h_t_was, .ref h_t_begun, .int t_states, .ref h_t_text, .int t_typed, .ref h_t_wrong, .ref h_t_cost, .ref h_t_first, .ref h_t_block, .ref h_t_many, .ref h_t_stack, .int t_height, .ref h_t_written, .int t_length, .ref h_t_own, .ref h_t_levelAt, .ref h_t_itemAt, .ref h_t_times, .int t_at, .int t_ownLength, .int t_depth, .int t_deepest, .int t_letters, .int t_repeats, .int t_corrections, .int t_mostCorrections, .int t_place, .int t_reason])), (h_t_begun, .inl (cI, 30, .inl o5)), (h_t_was, .inl (cI, 120, .inl t_was))]) [1, 2, 0] (by decide) rfl
      have hFc := va_free (wc := [(h_t, .inr (10, [.ref h_t_s, .ref h_t_was, .ref h_t_begun, .int t_states, .ref h_t_text, .int t_typed, .ref h_t_wrong, .ref h_t_cost, .ref h_t_first, .ref h_t_block, .ref h_t_many, .ref h_t_stack, .int t_height, .ref h_t_written, .int t_length, .ref h_t_own, .ref h_t_levelAt, .ref h_t_itemAt, .ref h_t_times, .int t_at, .int t_ownLength, .int t_depth, .int t_deepest, .int t_letters, .int t_repeats, .int t_corrections, .int t_mostCorrections, .int t_place, .int t_reason])), (h_t_begun, .inl (cI, 30, .inl o5)), (h_t_was, .inl (cI, 120, .inl t_was))]) hD hS hA [1, 2, 0] rfl
      refine va_calli (va_runV (As := [.int (rd t_s ((6 : Int32) + x1))]) (rest := []) ⟨hx, hb, hml, hown, hts⟩ (cMD_acted l dC dI cI cJ cC cS h_t h_t_s h_t_was h_t_begun h_t_text h_t_wrong h_t_cost h_t_first h_t_block h_t_many h_t_stack h_t_written h_t_own h_t_levelAt h_t_itemAt h_t_times H.size t_states t_typed t_height t_length t_at t_ownLength t_depth t_deepest t_letters t_repeats t_corrections t_mostCorrections t_place t_reason o5 t_was (rd t_s ((6 : Int32) + x1)) o8.1 o8.2.1 o8.2.2 ho8) (cwV 1 hts gX11_change_X11_acted rfl rfl rfl (by decide +kernel) ⟨Nat.le_of_ble_eq_true rfl, Nat.le_of_ble_eq_true rfl⟩) ⟨fun a U g mk q => by obtain ⟨q0, q1, qP, qK, qN, qD⟩ := q; exact ⟨q0, q1, qP, va_K.moved (u := U) (U := U.calling g mk a) (Vm.Alike.refl U.vm) qK, nwS (u := U) (U := U.calling g mk a) rfl qN, qD⟩, va_recv hK hPc (ci := 10) (q0 := 0) rfl rfl, fun U hU hW => ⟨rfl, by rw [hU], by rw [hU]; exact hPc, va_K.moved hW.alike hK, nwW hW hN, hDc.weaken (fun _ _ _ _ => trivial)⟩⟩ rfl rfl hl.1 rfl (lv_room (Nat.le_of_ble_eq_true rfl)) dX11_change_54 ⟨Nat.zero_le _, Nat.zero_le _⟩) hS (fun q _ h => hFc q h) hFc (fun r9 u9 t H1 locs ht hvm hw hB hz1 hk1 hS => ?_)
      have hw := hw.symm
      subst hw
      obtain ⟨hP1, hK1, hD1⟩ := hB
      rw [ht] at hP1
      obtain ⟨hP, hD⟩ := va_join (wr := [(h_t_s, .inl (cI, 30, .inl (wr t_s ((6 : Int32) + x1) x2)))]) (w1 := [(h_t, .inr (10, [.ref h_t_s, .ref h_t_was, .ref h_t_begun, .int o8.2.1, .ref h_t_text, .int t_typed, .ref h_t_wrong, .ref h_t_cost, .ref h_t_first, .ref h_t_block, .ref h_t_many, .ref h_t_stack, .int t_height, .ref h_t_written, .int t_length, .ref h_t_own, .ref h_t_levelAt, .ref h_t_itemAt, .ref h_t_times, .int t_at, .int t_ownLength, .int t_depth, .int t_deepest, .int t_letters, .int t_repeats, .int t_corrections, .int t_mostCorrections, .int t_place, .int t_reason])), (h_t_begun, .inl (cI, 30, .inl o5)), (h_t_was, .inl (cI, 120, .inl o8.2.2))]) hP hD [1, 2, 0] [3] rfl rfl (by decide) (by decide) hk1 hFc hP1 hD1
      generalize H1 = H at hP hS ⊢
      have hP : va_P (dC, dI) vwCl [(h_t_s, .inl (cI, 30, .inl (wr t_s ((6 : Int32) + x1) x2))), (h_t, .inr (10, [.ref h_t_s, .ref h_t_was, .ref h_t_begun, .int o8.2.1, .ref h_t_text, .int t_typed, .ref h_t_wrong, .ref h_t_cost, .ref h_t_first, .ref h_t_block, .ref h_t_many, .ref h_t_stack, .int t_height, .ref h_t_written, .int t_length, .ref h_t_own, .ref h_t_levelAt, .ref h_t_itemAt, .ref h_t_times, .int t_at, .int t_ownLength, .int t_depth, .int t_deepest, .int t_letters, .int t_repeats, .int t_corrections, .int t_mostCorrections, .int t_place, .int t_reason])), (h_t_begun, .inl (cI, 30, .inl o5)), (h_t_was, .inl (cI, 120, .inl o8.2.2))] H := hP
      have hD : va_D A [(h_t_s, .inl (cI, 30, .inl (wr t_s ((6 : Int32) + x1) x2))), (h_t, .inr (10, [.ref h_t_s, .ref h_t_was, .ref h_t_begun, .int o8.2.1, .ref h_t_text, .int t_typed, .ref h_t_wrong, .ref h_t_cost, .ref h_t_first, .ref h_t_block, .ref h_t_many, .ref h_t_stack, .int t_height, .ref h_t_written, .int t_length, .ref h_t_own, .ref h_t_levelAt, .ref h_t_itemAt, .ref h_t_times, .int t_at, .int t_ownLength, .int t_depth, .int t_deepest, .int t_letters, .int t_repeats, .int t_corrections, .int t_mostCorrections, .int t_place, .int t_reason])), (h_t_begun, .inl (cI, 30, .inl o5)), (h_t_was, .inl (cI, 120, .inl o8.2.2))] := hD
      obtain ⟨e9_0, e9_1, e9_2, e9_3, e9_4⟩ := tup5 hres
      subst e9_0
      subst e9_1
      subst e9_2
      subst e9_3
      subst e9_4
      rw [← hQQ]
      exact W.iret (v := o8.1) hx hb hr (fun t ht hW => ⟨⟨o8.1, (), rfl, rfl, by rw [ht]; exact hP.sub [1, 2, 0, 3] rfl, va_K.moved hW.alike hK, hD.sub [1, 2, 0, 3] (by decide) rfl⟩, hS.F ht⟩) hS.2.2 dX11_change_57
    · have hres := it_of hres c_4
      refine lv_ldc (v := (-1000001 : Int32)) hx hb hown (hts _ kMD_change_X11_change_2) dX11_change_25 ?_
      obtain ⟨e9_0, e9_1, e9_2, e9_3, e9_4⟩ := tup5 hres
      subst e9_0
      subst e9_1
      subst e9_2
      subst e9_3
      subst e9_4
      rw [← hQQ]
      exact W.iret (v := (-1000001 : Int32)) hx hb hr (fun t ht hW => ⟨⟨(-1000001 : Int32), (), rfl, rfl, by rw [ht]; exact hP, va_K.moved hW.alike hK, hD⟩, hS.F ht⟩) hS.2.2 dX11_change_27
