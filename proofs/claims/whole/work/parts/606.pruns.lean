/-! runs: the list that the class keeps, the model's walk -/
def lps (L : Nat → Int32) (a b : Nat) : Nat → Nat → Nat
  | 0, d => d
  | k + 1, d => if unl L d (a + d) (b - (a + d)) = 0 then d else lps L a b k (d + 1)
/-- the least period -/
def lpf (L : Nat → Int32) (a b : Nat) : Nat := lps L a b (b - a - 1) 1
theorem lps_ok {L : Nat → Int32} {a b : Nat} (hab : a < b) : ∀ k d, d + k = b - a → 1 ≤ d → (∀ q, 1 ≤ q → q < d → unl L q (a + q) (b - (a + q)) ≠ 0) → LPer L a b (lps L a b k d) := by
  intro k
  induction k with
  | zero =>
    intro d h1 h2 h3
    refine ⟨h2, by show d ≤ _; omega, ?_, h3⟩
    show unl L d (a + d) (b - (a + d)) = 0
    rw [show b - (a + d) = 0 by omega]
    rfl
  | succ k ih =>
    intro d h1 h2 h3
    unfold lps
    by_cases c : unl L d (a + d) (b - (a + d)) = 0
    · rw [if_pos c]
      exact ⟨h2, by omega, c, h3⟩
    · rw [if_neg c]
      refine ih (d + 1) (by omega) (by omega) (fun q a1 a2 => ?_)
      by_cases e : q = d
      · rw [e]; exact c
      · exact h3 q a1 (by omega)
theorem lpf_ok {L : Nat → Int32} {a b : Nat} (hab : a < b) : LPer L a b (lpf L a b) := lps_ok hab (b - a - 1) 1 (by omega) (Nat.le_refl _) (fun q a b => absurd b (by omega))
theorem pSt_lpf {n a b : Nat} {L : Nat → Int32} (hn : n ≤ 24) (hb : b ≤ n) (hab : a < b) : fSt_leastPeriod (nI n) L (nI a) (nI b) = some (nI (lpf L a b)) := by
  obtain ⟨p, e, hp⟩ := pSt_leastPeriod (L := L) hn hb hab
  rw [e, LPer_one hp (lpf_ok hab)]
def isRn (L : Nat → Int32) (n a b : Nat) : Bool := decide (2 * lpf L a b ≤ b - a) && (decide (a = 0 ∨ L (a - 1) ≠ L (a - 1 + lpf L a b)) && decide (b = n ∨ L b ≠ L (b - lpf L a b)))
theorem isRn_iff {L : Nat → Int32} {n a b : Nat} : isRn L n a b = true ↔ 2 * lpf L a b ≤ b - a ∧ (a = 0 ∨ L (a - 1) ≠ L (a - 1 + lpf L a b)) ∧ (b = n ∨ L b ≠ L (b - lpf L a b)) := by
  unfold isRn
  simp only [Bool.and_eq_true, decide_eq_true_eq]
theorem pRu_goesOn {n a b p : Nat} {L : Nat → Int32} (hn : n ≤ 24) (hb : b ≤ n) (hab : a < b) (hp : 1 ≤ p) (hp2 : p ≤ b - a) : fRu_goesOn (nI n) L (nI a) (nI b) (nI p) = some (if (a = 0 ∨ L (a - 1) ≠ L (a - 1 + p)) ∧ (b = n ∨ L b ≠ L (b - p)) then nI 0 else nI 1) := by
  have h23 : fRu_goesOn_23 (nI n) L (nI b) (nI p) = some (if b = n ∨ L b ≠ L (b - p) then nI 0 else nI 1) := by
    by_cases c : b = n
    · subst c
      simp (disch := omega) only [fRu_goesOn_23, li0, li1, li2, li3, li4, li5, li6, li24, li25, nI_ltI, nI_leI, nI_eq, nI_add, pk_sub, pk_mul, pk_div, rd, rdL, wr, wrL, wrC, nI_clamp, bIn_nI, if_true, if_false, or_true, true_or, Option.bind_some, if_pos, if_neg, ↓pk_rem]
    · simp (disch := omega) only [fRu_goesOn_23, li0, li1, li2, li3, li4, li5, li6, li24, li25, nI_ltI, nI_leI, nI_eq, nI_add, pk_sub, pk_mul, pk_div, rd, rdL, wr, wrL, wrC, nI_clamp, bIn_nI, if_true, if_false, or_true, true_or, Option.bind_some, if_pos, if_neg, ↓pk_rem, pSt_letter_in]
      by_cases e : L b = L (b - p)
      · rw [if_pos e, if_neg (by simp [c, e])]
      · rw [if_neg e, if_pos (Or.inr e)]
  by_cases c : a = 0
  · subst c
    simp (disch := omega) only [fRu_goesOn, li0, li1, li2, li3, li4, li5, li6, li24, li25, nI_ltI, nI_leI, nI_eq, nI_add, pk_sub, pk_mul, pk_div, rd, rdL, wr, wrL, wrC, nI_clamp, bIn_nI, if_true, if_false, or_true, true_or, Option.bind_some, if_pos, if_neg, ↓pk_rem]
    rw [h23]
    congr 1
    by_cases q : b = n ∨ L b ≠ L (b - p)
    · rw [if_pos q, if_pos ⟨trivial, q⟩]
    · rw [if_neg q, if_neg (fun z => q z.2)]
  · simp (disch := omega) only [fRu_goesOn, li0, li1, li2, li3, li4, li5, li6, li24, li25, nI_ltI, nI_leI, nI_eq, nI_add, pk_sub, pk_mul, pk_div, rd, rdL, wr, wrL, wrC, nI_clamp, bIn_nI, if_true, if_false, or_true, true_or, Option.bind_some, if_pos, if_neg, ↓pk_rem, pSt_letter_in]
    by_cases e : L (a - 1) = L (a - 1 + p)
    · rw [if_pos e, if_neg (fun z => z.1.elim (fun z => c z) (fun z => z e))]
    · rw [if_neg e, h23]
      congr 1
      by_cases q : b = n ∨ L b ≠ L (b - p)
      · rw [if_pos q, if_pos ⟨Or.inr e, q⟩]
      · rw [if_neg q, if_neg (fun z => q z.2)]
theorem pRu_look {n a b c : Nat} {L F P T : Nat → Int32} (hn : n ≤ 24) (hb : b ≤ n) (hab : a < b) (hc : isRn L n a b = true → c < 24) (hc2 : c ≤ 24) : fRu_look (nI n) L (nI c) F P T (nI a) (nI b) = some (if isRn L n a b = true then (nI (c + 1), upd F c (nI a), upd P c (nI (lpf L a b)), upd T c (nI b)) else (nI c, F, P, T)) := by
  have hlp := lpf_ok (L := L) hab
  have hl1 := hlp.1
  have hl2 := hlp.2.1
  unfold fRu_look
  rw [pSt_lpf hn hb hab, Option.bind_some]
  by_cases h2 : 2 * lpf L a b ≤ b - a
  · simp (disch := omega) only [li0, li1, li2, li3, li4, li5, li6, li24, li25, nI_ltI, nI_leI, nI_eq, nI_add, pk_sub, pk_mul, pk_div, rd, rdL, wr, wrL, wrC, nI_clamp, bIn_nI, if_true, if_false, or_true, true_or, Option.bind_some, if_pos, if_neg, ↓pk_rem, pRu_goesOn]
    by_cases q : (a = 0 ∨ L (a - 1) ≠ L (a - 1 + lpf L a b)) ∧ (b = n ∨ L b ≠ L (b - lpf L a b))
    · have hr : isRn L n a b = true := isRn_iff.mpr ⟨h2, q⟩
      have hc3 := hc hr
      rw [if_pos q, if_pos hr]
      simp (disch := omega) only [li0, li1, li2, li3, li4, li5, li6, li24, li25, nI_ltI, nI_leI, nI_eq, nI_add, pk_sub, pk_mul, pk_div, rd, rdL, wr, wrL, wrC, nI_clamp, bIn_nI, if_true, if_false, or_true, true_or, Option.bind_some, if_pos, if_neg, ↓pk_rem]
    · have hr : ¬ isRn L n a b = true := fun z => q (isRn_iff.mp z).2
      rw [if_neg q, if_neg hr]
      simp (disch := omega) only [li0, li1, li2, li3, li4, li5, li6, li24, li25, nI_ltI, nI_leI, nI_eq, nI_add, pk_sub, pk_mul, pk_div, rd, rdL, wr, wrL, wrC, nI_clamp, bIn_nI, if_true, if_false, or_true, true_or, Option.bind_some, if_pos, if_neg, ↓pk_rem]
  · have hr : ¬ isRn L n a b = true := fun z => h2 (isRn_iff.mp z).1
    rw [if_neg hr]
    simp (disch := omega) only [li0, li1, li2, li3, li4, li5, li6, li24, li25, nI_ltI, nI_leI, nI_eq, nI_add, pk_sub, pk_mul, pk_div, rd, rdL, wr, wrL, wrC, nI_clamp, bIn_nI, if_true, if_false, or_true, true_or, Option.bind_some, if_pos, if_neg, ↓pk_rem]
def rowR (L : Nat → Int32) (n len : Nat) : Nat → Nat → List (Nat × Nat)
  | _, 0 => []
  | a, k + 1 => if isRn L n a (a + len) = true then (a, a + len) :: rowR L n len (a + 1) k else rowR L n len (a + 1) k
def rall (L : Nat → Int32) (n : Nat) : Nat → List (Nat × Nat)
  | 0 => []
  | len + 1 => rowR L n (len + 1) 0 (n - len) ++ rall L n len
def RA (L : Nat → Int32) (l : List (Nat × Nat)) (F P T : Nat → Int32) : Prop := ∀ (i : Nat) (q : Nat × Nat), l[i]? = some q → F i = nI q.1 ∧ T i = nI q.2 ∧ P i = nI (lpf L q.1 q.2)
theorem RA_add {L : Nat → Int32} {l : List (Nat × Nat)} {F P T : Nat → Int32} {a b : Nat} (h : RA L l F P T) : RA L (l ++ [(a, b)]) (upd F l.length (nI a)) (upd P l.length (nI (lpf L a b))) (upd T l.length (nI b)) := by
  intro i q hq
  by_cases c : i < l.length
  · rw [List.getElem?_append_left c] at hq
    rw [pk_un (by omega), pk_un (by omega), pk_un (by omega)]
    exact h i q hq
  · rw [List.getElem?_append_right (by omega)] at hq
    have hz : i - l.length < 1 := (List.getElem?_eq_some_iff.mp hq).1
    have e : i = l.length := by omega
    subst e
    rw [Nat.sub_self] at hq
    cases hq
    exact ⟨pk_us, pk_us, pk_us⟩
theorem nI_m1 {k : Nat} (h : 0 < k) : nI k + (-1) = nI (k - 1) := by
  obtain ⟨m, rfl⟩ : ∃ q, k = q + 1 := ⟨k - 1, by omega⟩
  exact pk_m1 m
theorem nI_m1' {k : Nat} (h : 0 < k) : nI k + -nI 1 = nI (k - 1) := nI_m1 h
theorem pRu_ref30 {n len : Nat} {L : Nat → Int32} (hn : n ≤ 24) (hl : 1 ≤ len) (K : Int32 → Int32 → Int32 → (Nat → Int32) → (Nat → Int32) → (Nat → Int32) → Option (Int32 × Int32 × (Nat → Int32) × (Nat → Int32) × (Nat → Int32))) (fr : Int32) : ∀ (k a m : Nat) (l : List (Nat × Nat)) (F P T : Nat → Int32), a + k + len = n + 1 → k < m → RA L l F P T → (l ++ rowR L n len a k).length ≤ 24 → ∃ F2 P2 T2, RA L (l ++ rowR L n len a k) F2 P2 T2 ∧ fRu_refresh_30 (nI n) L K m (nI len) (nI a) (nI l.length) fr F P T = K (nI (len - 1)) (nI (l ++ rowR L n len a k).length) fr F2 P2 T2 := by
  intro k
  induction k with
  | zero =>
    intro a m l F P T h1 h2 h3 h4
    obtain ⟨m, rfl⟩ : ∃ q, m = q + 1 := ⟨m - 1, by omega⟩
    refine ⟨F, P, T, by rw [rowR, List.append_nil]; exact h3, ?_⟩
    simp (disch := omega) only [fRu_refresh_30, li0, li1, li2, li3, li4, li5, li6, li24, li25, nI_ltI, nI_leI, nI_eq, nI_add, pk_sub, pk_mul, pk_div, rd, rdL, wr, wrL, wrC, nI_clamp, bIn_nI, if_true, if_false, or_true, true_or, Option.bind_some, if_pos, if_neg, ↓pk_rem, nI_m1', rowR, List.append_nil]
  | succ k ih =>
    intro a m l F P T h1 h2 h3 h4
    obtain ⟨m, rfl⟩ : ∃ q, m = q + 1 := ⟨m - 1, by omega⟩
    have hlen : l.length ≤ 24 := by rw [List.length_append] at h4; omega
    have hc : isRn L n a (a + len) = true → l.length < 24 := fun hr => by
      rw [List.length_append, rowR, if_pos hr, List.length_cons] at h4
      omega
    rw [fRu_refresh_30, if_neg (by rw [nI_add, nI_ltI (by omega) (by omega)]; omega), nI_add, pRu_look hn (by omega) (by omega) hc hlen, Option.bind_some]
    by_cases hr : isRn L n a (a + len) = true
    · rw [if_pos hr]
      have e : l ++ rowR L n len a (k + 1) = (l ++ [(a, a + len)]) ++ rowR L n len (a + 1) k := by
        rw [rowR, if_pos hr, List.append_assoc]
        rfl
      rw [e] at h4 ⊢
      obtain ⟨F2, P2, T2, g1, g2⟩ := ih (a + 1) m (l ++ [(a, a + len)]) _ _ _ (by omega) (by omega) (RA_add h3) h4
      refine ⟨F2, P2, T2, g1, ?_⟩
      rw [List.length_append (as := l), List.length_singleton] at g2
      rw [li1, nI_add]
      exact g2
    · rw [if_neg hr]
      have e : l ++ rowR L n len a (k + 1) = l ++ rowR L n len (a + 1) k := by rw [rowR, if_neg hr]
      rw [e] at h4 ⊢
      rw [li1, nI_add]
      exact ih (a + 1) m l F P T (by omega) (by omega) h3 h4
theorem isRn_1 {L : Nat → Int32} {n a : Nat} : isRn L n a (a + 1) = false := by
  cases h : isRn L n a (a + 1) with
  | false => rfl
  | true =>
    have h1 := (isRn_iff.mp h).1
    have h2 := (lpf_ok (L := L) (show a < a + 1 by omega)).1
    omega
theorem rowR_1 {L : Nat → Int32} {n : Nat} : ∀ k a, rowR L n 1 a k = [] := by
  intro k
  induction k with
  | zero => intro a; rfl
  | succ k ih =>
    intro a
    rw [rowR, isRn_1, ih]
    rfl
theorem rall_1 {L : Nat → Int32} {n : Nat} : rall L n 1 = [] := by
  rw [rall, rowR_1]
  rfl
theorem pRu_ref23 {n : Nat} {L : Nat → Int32} (hn : n ≤ 24) (fr : Int32) : ∀ (len m : Nat) (l : List (Nat × Nat)) (F P T : Nat → Int32), len ≤ n → len < m → RA L l F P T → (l ++ rall L n len).length ≤ 24 → ∃ F2 P2 T2, RA L (l ++ rall L n len) F2 P2 T2 ∧ fRu_refresh_23 (nI n) L m (nI len) (nI l.length) fr F P T = some (nI (l ++ rall L n len).length, fr, F2, P2, T2) := by
  intro len
  induction len with
  | zero =>
    intro m l F P T h1 h2 h3 h4
    obtain ⟨m, rfl⟩ : ∃ q, m = q + 1 := ⟨m - 1, by omega⟩
    refine ⟨F, P, T, by rw [rall, List.append_nil]; exact h3, ?_⟩
    simp (disch := omega) only [fRu_refresh_23, li0, li1, li2, li3, li4, li5, li6, li24, li25, nI_ltI, nI_leI, nI_eq, nI_add, pk_sub, pk_mul, pk_div, rd, rdL, wr, wrL, wrC, nI_clamp, bIn_nI, if_true, if_false, or_true, true_or, Option.bind_some, if_pos, if_neg, ↓pk_rem, rall, List.append_nil]
  | succ len ih =>
    intro m l F P T h1 h2 h3 h4
    obtain ⟨m, rfl⟩ : ∃ q, m = q + 1 := ⟨m - 1, by omega⟩
    by_cases c : len = 0
    · subst c
      rw [rall_1, List.append_nil] at h4 ⊢
      refine ⟨F, P, T, h3, ?_⟩
      simp (disch := omega) only [fRu_refresh_23, li0, li1, li2, li3, li4, li5, li6, li24, li25, nI_ltI, nI_leI, nI_eq, nI_add, pk_sub, pk_mul, pk_div, rd, rdL, wr, wrL, wrC, nI_clamp, bIn_nI, if_true, if_false, or_true, true_or, Option.bind_some, if_pos, if_neg, ↓pk_rem]
    · rw [fRu_refresh_23, if_neg (by rw [li2, nI_ltI (by omega) (by omega)]; omega)]
      have e : l ++ rall L n (len + 1) = (l ++ rowR L n (len + 1) 0 (n - len)) ++ rall L n len := by rw [rall, List.append_assoc]
      rw [e] at h4 ⊢
      have h5 : (l ++ rowR L n (len + 1) 0 (n - len)).length ≤ 24 := by rw [List.length_append] at h4; omega
      obtain ⟨F2, P2, T2, g1, g2⟩ := pRu_ref30 (len := len + 1) hn (by omega) (fRu_refresh_23 (nI n) L m) fr (n - len) 0 FU l F P T (by omega) (by show _ < 1000000; omega) h3 h5
      obtain ⟨F3, P3, T3, g3, g4⟩ := ih m _ F2 P2 T2 (by omega) (by omega) g1 h4
      refine ⟨F3, P3, T3, g3, ?_⟩
      rw [li0, g2, Nat.add_sub_cancel]
      exact g4
/-- the class's list of runs, made anew -/
theorem pRu_refresh {n : Nat} {L : Nat → Int32} (hn : n ≤ 24) (h24 : (rall L n n).length ≤ 24) (nu : Int32) (F P T : Nat → Int32) : ∃ F2 P2 T2, RA L (rall L n n) F2 P2 T2 ∧ fRu_refresh (nI n) L nu 0 F P T = some (nI (rall L n n).length, 1, F2, P2, T2) := by
  obtain ⟨F2, P2, T2, g1, g2⟩ := pRu_ref23 (L := L) hn 1 n FU [] F P T (Nat.le_refl _) (by show _ < 1000000; omega) (fun i q h => by simp at h) (by rw [List.nil_append]; exact h24)
  rw [List.nil_append] at g1 g2
  refine ⟨F2, P2, T2, g1, ?_⟩
  rw [fRu_refresh, if_pos rfl]
  exact g2
