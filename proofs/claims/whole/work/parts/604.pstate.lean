/-! State: what its methods do on numbers -/
theorem pSt_letter_in {n p : Nat} {L : Nat → Int32} (hn : n ≤ 24) (h : p < n) : fSt_letter (nI n) L (nI p) = some (L p) := by
  simp (disch := omega) only [fSt_letter, li0, li1, li2, li3, li4, li5, li6, li24, li25, nI_ltI, nI_leI, nI_eq, nI_add, pk_sub, pk_mul, pk_div, rd, rdL, wr, wrL, wrC, nI_clamp, bIn_nI, if_true, if_false, or_true, true_or, Option.bind_some, if_pos, if_neg, ↓pk_rem]
theorem pSt_letter_out {n p : Nat} {L : Nat → Int32} (hn : n ≤ 24) (h : n ≤ p) (hp : p < 2 ^ 31) : fSt_letter (nI n) L (nI p) = some (-1) := by
  simp (disch := omega) only [fSt_letter, li0, li1, li2, li3, li4, li5, li6, li24, li25, nI_ltI, nI_leI, nI_eq, nI_add, pk_sub, pk_mul, pk_div, rd, rdL, wr, wrL, wrC, nI_clamp, bIn_nI, if_true, if_false, or_true, true_or, Option.bind_some, if_pos, if_neg, ↓pk_rem]
theorem pSt_letter_neg {z x : Int32} {L : Nat → Int32} (h : x < 0) : fSt_letter z L x = some (-1) := by
  rw [fSt_letter, if_pos h]
theorem pSt_setting {k : Nat} {S : Nat → Int32} (h : k < 5) : fSt_setting S (nI k) = some (S k) := by
  simp (disch := omega) only [fSt_setting, li0, li1, li2, li3, li4, li5, li6, li24, li25, nI_ltI, nI_leI, nI_eq, nI_add, pk_sub, pk_mul, pk_div, rd, rdL, wr, wrL, wrC, nI_clamp, bIn_nI, if_true, if_false, or_true, true_or, Option.bind_some, if_pos, if_neg, ↓pk_rem]
theorem pSt_putSetting {k : Nat} {S : Nat → Int32} {x : Int32} (h : k < 5) : fSt_putSetting S (nI k) x = some (upd S k x) := by
  simp (disch := omega) only [fSt_putSetting, li0, li1, li2, li3, li4, li5, li6, li24, li25, nI_ltI, nI_leI, nI_eq, nI_add, pk_sub, pk_mul, pk_div, rd, rdL, wr, wrL, wrC, nI_clamp, bIn_nI, if_true, if_false, or_true, true_or, Option.bind_some, if_pos, if_neg, ↓pk_rem]
theorem pSt_putLetter {n p : Nat} {L : Nat → Int32} {x : Int32} (hn : n ≤ 24) (h : p < n) : fSt_putLetter (nI n) L (nI p) x = some (upd L p x) := by
  simp (disch := omega) only [fSt_putLetter, li0, li1, li2, li3, li4, li5, li6, li24, li25, nI_ltI, nI_leI, nI_eq, nI_add, pk_sub, pk_mul, pk_div, rd, rdL, wr, wrL, wrC, nI_clamp, bIn_nI, if_true, if_false, or_true, true_or, Option.bind_some, if_pos, if_neg, ↓pk_rem]
theorem pSt_addLetter {n : Nat} {L : Nat → Int32} {x : Int32} (hn : n < 24) : fSt_addLetter (nI n) L x = some (nI (n + 1), upd L n x) := by
  simp (disch := omega) only [fSt_addLetter, li0, li1, li2, li3, li4, li5, li6, li24, li25, nI_ltI, nI_leI, nI_eq, nI_add, pk_sub, pk_mul, pk_div, rd, rdL, wr, wrL, wrC, nI_clamp, bIn_nI, if_true, if_false, or_true, true_or, Option.bind_some, if_pos, if_neg, ↓pk_rem]
theorem pSt_hasPlace {n : Nat} {x : Int32} (hn : n ≤ 24) : (∃ p : Nat, p < n ∧ x = nI p ∧ fSt_hasPlace (nI n) x = some 1) ∨ ((∀ p : Nat, p < n → x ≠ nI p) ∧ fSt_hasPlace (nI n) x = some 0) := by
  rcases i_cases x with h | ⟨j, hj, rfl⟩
  · right
    refine ⟨fun p hp e => ?_, by rw [fSt_hasPlace, if_pos h]⟩
    rw [e] at h
    exact nI_pos (by omega) h
  · by_cases c : j < n
    · left
      refine ⟨j, c, rfl, ?_⟩
      simp (disch := omega) only [fSt_hasPlace, li0, nI_ltI, nI_leI, nI_eq, nI_add, pk_sub, pk_mul, pk_div, rd, rdL, wr, wrL, wrC, nI_clamp, bIn_nI, if_true, if_false, or_true, true_or, Option.bind_some, if_pos, if_neg, ↓pk_rem]
    · right
      refine ⟨fun p hp e => ?_, ?_⟩
      · rw [nI_eq (by omega) (by omega)] at e; omega
      · simp (disch := omega) only [fSt_hasPlace, li0, nI_ltI, nI_leI, nI_eq, nI_add, pk_sub, pk_mul, pk_div, rd, rdL, wr, wrL, wrC, nI_clamp, bIn_nI, if_true, if_false, or_true, true_or, Option.bind_some, if_pos, if_neg, ↓pk_rem]
theorem pSt_copy28 (us : Int32) (uS z : Int32) (L S U : Nat → Int32) : ∀ (k i m : Nat), i + k = 5 → k < m → fSt_copyFrom_28 us U m (nI i) z L (fl U S i) = some (us, L, fl U S 5) := by
  intro k
  induction k with
  | zero =>
    intro i m h1 h2
    obtain ⟨m, rfl⟩ : ∃ q, m = q + 1 := ⟨m - 1, by omega⟩
    have : i = 5 := by omega
    subst this
    simp (disch := omega) only [fSt_copyFrom_28, li0, li1, li2, li3, li4, li5, li6, li24, li25, nI_ltI, nI_leI, nI_eq, nI_add, pk_sub, pk_mul, pk_div, rd, rdL, wr, wrL, wrC, nI_clamp, bIn_nI, if_true, if_false, or_true, true_or, Option.bind_some, if_pos, if_neg, ↓pk_rem]
  | succ k ih =>
    intro i m h1 h2
    obtain ⟨m, rfl⟩ : ∃ q, m = q + 1 := ⟨m - 1, by omega⟩
    simp (disch := omega) only [fSt_copyFrom_28, li0, li1, li2, li3, li4, li5, li6, li24, li25, nI_ltI, nI_leI, nI_eq, nI_add, pk_sub, pk_mul, pk_div, rd, rdL, wr, wrL, wrC, nI_clamp, bIn_nI, if_true, if_false, or_true, true_or, Option.bind_some, if_pos, if_neg, ↓pk_rem]
    rw [fl_s]
    exact ih (i + 1) m (by omega) (by omega)
theorem pSt_copy2 (us z : Int32) (L S U V : Nat → Int32) : ∀ (k i m : Nat), i + k = 24 → k < m → fSt_copyFrom_2 us V U m (nI i) z (fl V L i) S = some (us, fl V L 24, fl U S 5) := by
  intro k
  induction k with
  | zero =>
    intro i m h1 h2
    obtain ⟨m, rfl⟩ : ∃ q, m = q + 1 := ⟨m - 1, by omega⟩
    have : i = 24 := by omega
    subst this
    simp (disch := omega) only [fSt_copyFrom_2, li0, li1, li2, li3, li4, li5, li6, li24, li25, nI_ltI, nI_leI, nI_eq, nI_add, pk_sub, pk_mul, pk_div, rd, rdL, wr, wrL, wrC, nI_clamp, bIn_nI, if_true, if_false, or_true, true_or, Option.bind_some, if_pos, if_neg, ↓pk_rem]
    have h := pSt_copy28 us 0 z (fl V L 24) S U 5 0 FU (by omega) (by decide)
    rw [fl_0] at h
    exact h
  | succ k ih =>
    intro i m h1 h2
    obtain ⟨m, rfl⟩ : ∃ q, m = q + 1 := ⟨m - 1, by omega⟩
    simp (disch := omega) only [fSt_copyFrom_2, li0, li1, li2, li3, li4, li5, li6, li24, li25, nI_ltI, nI_leI, nI_eq, nI_add, pk_sub, pk_mul, pk_div, rd, rdL, wr, wrL, wrC, nI_clamp, bIn_nI, if_true, if_false, or_true, true_or, Option.bind_some, if_pos, if_neg, ↓pk_rem]
    rw [fl_s]
    exact ih (i + 1) m (by omega) (by omega)
theorem pSt_copyFrom (us z : Int32) (L S U V : Nat → Int32) : fSt_copyFrom us V U z L S = some (us, fl V L 24, fl U S 5) := by
  unfold fSt_copyFrom
  have h := pSt_copy2 us z L S U V 24 0 FU (by omega) (by decide)
  rw [fl_0] at h
  exact h
def unl (L : Nat → Int32) (per : Nat) (s k : Nat) : Nat := cn (fun j => L j ≠ L (j - per)) (fun _ => inferInstance) s k
theorem pSt_unl8 {n to per : Nat} {L : Nat → Int32} (hn : n ≤ 24) (hto : to ≤ n) : ∀ (k c q m : Nat), q + k = to → per ≤ q → k < m → c + k < 100 → fSt_unlikeLetters_8 (nI n) L (nI to) (nI per) m (nI c) (nI q) = some (nI (c + unl L per q k)) := by
  intro k
  induction k with
  | zero =>
    intro c q m h1 h2 h3 h4
    obtain ⟨m, rfl⟩ : ∃ q, m = q + 1 := ⟨m - 1, by omega⟩
    simp (disch := omega) only [fSt_unlikeLetters_8, li0, li1, li2, li3, li4, li5, li6, li24, li25, nI_ltI, nI_leI, nI_eq, nI_add, pk_sub, pk_mul, pk_div, rd, rdL, wr, wrL, wrC, nI_clamp, bIn_nI, if_true, if_false, or_true, true_or, Option.bind_some, if_pos, if_neg, ↓pk_rem]
    rfl
  | succ k ih =>
    intro c q m h1 h2 h3 h4
    obtain ⟨m, rfl⟩ : ∃ q, m = q + 1 := ⟨m - 1, by omega⟩
    simp (disch := omega) only [fSt_unlikeLetters_8, li0, li1, li2, li3, li4, li5, li6, li24, li25, nI_ltI, nI_leI, nI_eq, nI_add, pk_sub, pk_mul, pk_div, rd, rdL, wr, wrL, wrC, nI_clamp, bIn_nI, if_true, if_false, or_true, true_or, Option.bind_some, if_pos, if_neg, ↓pk_rem, pSt_letter_in]
    unfold unl cn
    by_cases e : L q = L (q - per)
    · rw [if_pos e, ih c (q + 1) m (by omega) (by omega) (by omega) (by omega), if_neg (by simpa using e)]
      simp [unl]
    · rw [if_neg e, ih (c + 1) (q + 1) m (by omega) (by omega) (by omega) (by omega), if_pos (by simpa using e), Nat.add_assoc]
      rfl
/-- unlikeLetters of a part that the row has -/
theorem pSt_unlikeLetters {n fr to per : Nat} {L : Nat → Int32} (hn : n ≤ 24) (hto : to ≤ n) (hper : per ≤ 24) (hf : fr ≤ to) : fSt_unlikeLetters (nI n) L (nI fr) (nI to) (nI per) = some (nI (unl L per (fr + per) (to - (fr + per)))) := by
  unfold fSt_unlikeLetters
  rw [nI_add, li0]
  by_cases c : fr + per ≤ to
  · have h := pSt_unl8 (L := L) (per := per) hn hto (to - (fr + per)) 0 (fr + per) FU (by omega) (by omega) (by show _ < 1000000; omega) (by omega)
    rw [Nat.zero_add] at h
    exact h
  · have e : to - (fr + per) = 0 := by omega
    rw [e]
    obtain ⟨m, hm⟩ := FU_s
    rw [hm]
    simp (disch := omega) only [fSt_unlikeLetters_8, li0, li1, li2, li3, li4, li5, li6, li24, li25, nI_ltI, nI_leI, nI_eq, nI_add, pk_sub, pk_mul, pk_div, rd, rdL, wr, wrL, wrC, nI_clamp, bIn_nI, if_true, if_false, or_true, true_or, Option.bind_some, if_pos, if_neg, ↓pk_rem]
    rfl
/-- the least period, by trying -/
theorem pSt_lp2 {n fr to : Nat} {L : Nat → Int32} (hn : n ≤ 24) (hto : to ≤ n) (hf : fr < to) : ∀ (k d m : Nat), d + k = to - fr → 1 ≤ d → k < m → (∀ q, 1 ≤ q → q < d → unl L q (fr + q) (to - (fr + q)) ≠ 0) → ∃ p, fSt_leastPeriod_2 (nI n) L (nI fr) (nI to) m (nI d) = some (nI p) ∧ 1 ≤ p ∧ p ≤ to - fr ∧ unl L p (fr + p) (to - (fr + p)) = 0 ∧ ∀ q, 1 ≤ q → q < p → unl L q (fr + q) (to - (fr + q)) ≠ 0 := by
  intro k
  induction k with
  | zero =>
    intro d m h1 h2 h3 h4
    obtain ⟨m, rfl⟩ : ∃ q, m = q + 1 := ⟨m - 1, by omega⟩
    refine ⟨to - fr, ?_, by omega, Nat.le_refl _, ?_, fun q a b => h4 q a (by omega)⟩
    · simp (disch := omega) only [fSt_leastPeriod_2, li0, li1, li2, li3, li4, li5, li6, li24, li25, nI_ltI, nI_leI, nI_eq, nI_add, pk_sub, pk_mul, pk_div, rd, rdL, wr, wrL, wrC, nI_clamp, bIn_nI, if_true, if_false, or_true, true_or, Option.bind_some, if_pos, if_neg, ↓pk_rem]
    · rw [show to - (fr + (to - fr)) = 0 by omega]; rfl
  | succ k ih =>
    intro d m h1 h2 h3 h4
    obtain ⟨m, rfl⟩ : ∃ q, m = q + 1 := ⟨m - 1, by omega⟩
    have hu : unl L d (fr + d) (to - (fr + d)) ≤ 24 := Nat.le_trans (cn_le _ _ _ _) (by omega)
    simp (disch := omega) only [fSt_leastPeriod_2, li0, li1, li2, li3, li4, li5, li6, li24, li25, nI_ltI, nI_leI, nI_eq, nI_add, pk_sub, pk_mul, pk_div, rd, rdL, wr, wrL, wrC, nI_clamp, bIn_nI, if_true, if_false, or_true, true_or, Option.bind_some, if_pos, if_neg, ↓pk_rem, pSt_unlikeLetters]
    by_cases e : unl L d (fr + d) (to - (fr + d)) = 0
    · rw [if_pos e]
      exact ⟨d, rfl, h2, by omega, e, h4⟩
    · rw [if_neg e]
      refine ih (d + 1) m (by omega) (by omega) (by omega) (fun q a b => ?_)
      by_cases c : q = d
      · rw [c]; exact e
      · exact h4 q a (by omega)
/-- p is the least period of the part -/
def LPer (L : Nat → Int32) (fr to p : Nat) : Prop := 1 ≤ p ∧ p ≤ to - fr ∧ unl L p (fr + p) (to - (fr + p)) = 0 ∧ ∀ q, 1 ≤ q → q < p → unl L q (fr + q) (to - (fr + q)) ≠ 0
theorem LPer_one {L : Nat → Int32} {fr to p q : Nat} (h : LPer L fr to p) (h2 : LPer L fr to q) : p = q := by
  obtain ⟨a1, a2, a3, a4⟩ := h
  obtain ⟨b1, b2, b3, b4⟩ := h2
  rcases Nat.lt_trichotomy p q with c | c | c
  · exact absurd a3 (b4 p a1 c)
  · exact c
  · exact absurd b3 (a4 q b1 c)
theorem pSt_leastPeriod {n fr to : Nat} {L : Nat → Int32} (hn : n ≤ 24) (hto : to ≤ n) (hf : fr < to) : ∃ p, fSt_leastPeriod (nI n) L (nI fr) (nI to) = some (nI p) ∧ LPer L fr to p := by
  unfold fSt_leastPeriod
  rw [li1]
  obtain ⟨p, h1, h2⟩ := pSt_lp2 (L := L) hn hto hf (to - fr - 1) 1 FU (by omega) (Nat.le_refl _) (by show _ < 1000000; omega) (fun q a b => absurd b (by omega))
  exact ⟨p, h1, h2⟩
