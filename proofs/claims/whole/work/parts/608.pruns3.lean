/-! runOf of the model -/
def ansR (L : Nat → Int32) (x : Nat) (q : Nat × Nat) : Int32 := if x = 0 then nI q.1 else if x = 1 then nI q.2 else nI (lpf L q.1 q.2)
theorem pMD_runOf34 {n len x : Nat} {L s : Nat → Int32} (hn : n ≤ 24) (hx : x ≤ 2) (hm : s 0 = nI n) (hs : ∀ i, i < n → s (6 + i) = L i) (hl : 1 ≤ len) (K : Int32 → Int32 → Option Int32) : ∀ (k a r m : Nat), a + k + len = n + 1 → k < m → r < 2 ^ 31 → fMD_runOf_34 s (nI x) K m (nI r) (nI len) (nI a) = ((rowR L n len a k)[r]?).elim (K (nI (r - (rowR L n len a k).length)) (nI (len - 1))) (fun q => some (ansR L x q)) := by
  intro k
  induction k with
  | zero =>
    intro a r m h1 h2 h3
    obtain ⟨m, rfl⟩ : ∃ q, m = q + 1 := ⟨m - 1, by omega⟩
    have e : (([] : List (Nat × Nat))[r]?).elim (K (nI (r - ([] : List (Nat × Nat)).length)) (nI (len - 1))) (fun q => some (ansR L x q)) = K (nI r) (nI (len - 1)) := by simp
    rw [rowR, e]
    simp (disch := omega) only [fMD_runOf_34, hm, li0, li1, li2, li3, li4, li5, li6, li24, li25, nI_ltI, nI_leI, nI_eq, nI_add, pk_sub, pk_mul, pk_div, rd, rdL, wr, wrL, wrC, nI_clamp, bIn_nI, if_true, if_false, or_true, true_or, Option.bind_some, if_pos, if_neg, ↓pk_rem, nI_m1']
  | succ k ih =>
    intro a r m h1 h2 h3
    obtain ⟨m, rfl⟩ : ∃ q, m = q + 1 := ⟨m - 1, by omega⟩
    have hr := pMD_isRun hn hm hs (a := a) (b := a + len) (by omega) (by omega)
    have hle := pMD_least hn (show a + len ≤ n by omega) (show a < a + len by omega) hs (lpf_ok (by omega))
    simp (disch := omega) only [fMD_runOf_34, hm, li0, li1, nI_ltI, nI_leI, nI_eq, nI_add, pk_sub, pk_mul, pk_div, rd, rdL, wr, wrL, wrC, nI_clamp, bIn_nI, if_true, if_false, or_true, true_or, Option.bind_some, if_pos, if_neg, ↓pk_rem, hr]
    by_cases q : isRn L n a (a + len) = true
    · rw [if_pos q, rowR, if_pos q]
      cases r with
      | zero =>
        simp (disch := omega) only [li0, li1, nI_ltI, nI_leI, nI_eq, nI_add, pk_sub, pk_mul, pk_div, rd, rdL, wr, wrL, wrC, nI_clamp, bIn_nI, if_true, if_false, or_true, true_or, Option.bind_some, if_pos, if_neg, ↓pk_rem, List.getElem?_cons_zero, Option.elim_some]
        unfold ansR
        rcases (show x = 0 ∨ x = 1 ∨ x = 2 by omega) with rfl | rfl | rfl
        · simp (disch := omega) only [li0, li1, nI_ltI, nI_leI, nI_eq, nI_add, pk_sub, pk_mul, pk_div, rd, rdL, wr, wrL, wrC, nI_clamp, bIn_nI, if_true, if_false, or_true, true_or, Option.bind_some, if_pos, if_neg, ↓pk_rem]
        · simp (disch := omega) only [li0, li1, nI_ltI, nI_leI, nI_eq, nI_add, pk_sub, pk_mul, pk_div, rd, rdL, wr, wrL, wrC, nI_clamp, bIn_nI, if_true, if_false, or_true, true_or, Option.bind_some, if_pos, if_neg, ↓pk_rem]
        · simp (disch := omega) only [li0, li1, nI_ltI, nI_leI, nI_eq, nI_add, pk_sub, pk_mul, pk_div, rd, rdL, wr, wrL, wrC, nI_clamp, bIn_nI, if_true, if_false, or_true, true_or, Option.bind_some, if_pos, if_neg, ↓pk_rem, hle]
      | succ r =>
        simp (disch := omega) only [li0, li1, nI_ltI, nI_leI, nI_eq, nI_add, pk_sub, pk_mul, pk_div, rd, rdL, wr, wrL, wrC, nI_clamp, bIn_nI, if_true, if_false, or_true, true_or, Option.bind_some, if_pos, if_neg, ↓pk_rem, fMD_runOf_104, List.getElem?_cons_succ, List.length_cons]
        rw [Nat.add_sub_cancel, ih (a + 1) r m (by omega) (by omega) (by omega), Nat.add_sub_add_right]
    · rw [if_neg q, rowR, if_neg q]
      simp (disch := omega) only [li0, li1, nI_ltI, nI_leI, nI_eq, nI_add, pk_sub, pk_mul, pk_div, rd, rdL, wr, wrL, wrC, nI_clamp, bIn_nI, if_true, if_false, or_true, true_or, Option.bind_some, if_pos, if_neg, ↓pk_rem, fMD_runOf_104]
      rw [Nat.sub_zero]
      exact ih (a + 1) r m (by omega) (by omega) h3
theorem pMD_runOf26 {n x : Nat} {L s : Nat → Int32} (hn : n ≤ 24) (hx : x ≤ 2) (hm : s 0 = nI n) (hs : ∀ i, i < n → s (6 + i) = L i) : ∀ (len r m : Nat), len ≤ n → len < m → r < 2 ^ 31 → fMD_runOf_26 s (nI x) m (nI r) (nI len) = some (((rall L n len)[r]?).elim (-1000004) (ansR L x)) := by
  intro len
  induction len with
  | zero =>
    intro r m h1 h2 h3
    obtain ⟨m, rfl⟩ : ∃ q, m = q + 1 := ⟨m - 1, by omega⟩
    have e : ((rall L n 0)[r]?).elim (-1000004) (ansR L x) = -1000004 := by simp [rall]
    rw [e]
    simp (disch := omega) only [fMD_runOf_26, li0, li1, nI_ltI, nI_leI, nI_eq, nI_add, pk_sub, pk_mul, pk_div, rd, rdL, wr, wrL, wrC, nI_clamp, bIn_nI, if_true, if_false, or_true, true_or, Option.bind_some, if_pos, if_neg, ↓pk_rem]
  | succ len ih =>
    intro r m h1 h2 h3
    obtain ⟨m, rfl⟩ : ∃ q, m = q + 1 := ⟨m - 1, by omega⟩
    have h34 := pMD_runOf34 (len := len + 1) (x := x) hn hx hm hs (by omega) (fMD_runOf_26 s (nI x) m) (n - len) 0 r FU (by omega) (by show _ < 1000000; omega) h3
    simp (disch := omega) only [fMD_runOf_26, li0, li1, nI_ltI, nI_leI, nI_eq, nI_add, pk_sub, pk_mul, pk_div, rd, rdL, wr, wrL, wrC, nI_clamp, bIn_nI, if_true, if_false, or_true, true_or, Option.bind_some, if_pos, if_neg, ↓pk_rem, h34]
    rw [rall]
    by_cases c : r < (rowR L n (len + 1) 0 (n - len)).length
    · rw [List.getElem?_append_left c, List.getElem?_eq_getElem c]
      rfl
    · rw [List.getElem?_append_right (by omega), List.getElem?_eq_none (by omega)]
      show fMD_runOf_26 s (nI x) m (nI (r - (rowR L n (len + 1) 0 (n - len)).length)) (nI (len + 1 - 1)) = _
      rw [Nat.add_sub_cancel]
      exact ih _ m (by omega) (by omega) (by omega)
