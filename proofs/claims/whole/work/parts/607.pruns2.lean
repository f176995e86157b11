/-! runs: the model's side -/
theorem pMD_diff8 {n to per : Nat} {L s : Nat → Int32} (hn : n ≤ 24) (hto : to ≤ n) (hs : ∀ i, i < n → s (6 + i) = L i) : ∀ (k c q m : Nat), q + k = to → per ≤ q → k < m → c + k < 100 → fMD_differ_8 s (nI to) (nI per) m (nI c) (nI q) = some (nI (c + unl L per q k)) := by
  intro k
  induction k with
  | zero =>
    intro c q m h1 h2 h3 h4
    obtain ⟨m, rfl⟩ : ∃ q, m = q + 1 := ⟨m - 1, by omega⟩
    simp (disch := omega) only [fMD_differ_8, li0, li1, li2, li3, li4, li5, li6, li24, li25, nI_ltI, nI_leI, nI_eq, nI_add, pk_sub, pk_mul, pk_div, rd, rdL, wr, wrL, wrC, nI_clamp, bIn_nI, if_true, if_false, or_true, true_or, Option.bind_some, if_pos, if_neg, ↓pk_rem]
    rfl
  | succ k ih =>
    intro c q m h1 h2 h3 h4
    obtain ⟨m, rfl⟩ : ∃ q, m = q + 1 := ⟨m - 1, by omega⟩
    have r1 := hs q (by omega)
    have r2 : s (6 + q - per) = L (q - per) := by rw [show 6 + q - per = 6 + (q - per) by omega]; exact hs _ (by omega)
    simp (disch := omega) only [fMD_differ_8, li0, li1, li6, nI_ltI, nI_leI, nI_eq, nI_add, pk_sub, pk_mul, pk_div, rd, rdL, wr, wrL, wrC, nI_clamp, bIn_nI, if_true, if_false, or_true, true_or, Option.bind_some, if_pos, if_neg, ↓pk_rem]
    rw [r1, r2]
    unfold unl cn
    by_cases e : L q = L (q - per)
    · rw [if_pos e, ih (c + 0) (q + 1) m (by omega) (by omega) (by omega) (by omega), if_neg (by simpa using e)]
      simp [unl]
    · rw [if_neg e, ih (c + 1) (q + 1) m (by omega) (by omega) (by omega) (by omega), if_pos (by simpa using e), Nat.add_assoc]
      rfl
theorem pMD_differ {n fr to per : Nat} {L s : Nat → Int32} (hn : n ≤ 24) (hto : to ≤ n) (hper : per ≤ 24) (hf : fr ≤ to) (hs : ∀ i, i < n → s (6 + i) = L i) : fMD_differ s (nI fr) (nI to) (nI per) = some (nI (unl L per (fr + per) (to - (fr + per)))) := by
  unfold fMD_differ
  rw [nI_add, li0]
  by_cases c : fr + per ≤ to
  · have h := pMD_diff8 (L := L) (per := per) hn hto hs (to - (fr + per)) 0 (fr + per) FU (by omega) (by omega) (by show _ < 1000000; omega) (by omega)
    rw [Nat.zero_add] at h
    exact h
  · have e : to - (fr + per) = 0 := by omega
    rw [e]
    obtain ⟨m, hm⟩ := FU_s
    rw [hm]
    simp (disch := omega) only [fMD_differ_8, li0, li1, li2, li3, li4, li5, li6, li24, li25, nI_ltI, nI_leI, nI_eq, nI_add, pk_sub, pk_mul, pk_div, rd, rdL, wr, wrL, wrC, nI_clamp, bIn_nI, if_true, if_false, or_true, true_or, Option.bind_some, if_pos, if_neg, ↓pk_rem]
    rfl
theorem pMD_least2 {n fr to p : Nat} {L s : Nat → Int32} (hn : n ≤ 24) (hto : to ≤ n) (hf : fr < to) (hs : ∀ i, i < n → s (6 + i) = L i) (hp : LPer L fr to p) : ∀ (k d m : Nat), d + k = p → 1 ≤ d → k < m → fMD_least_2 s (nI fr) (nI to) m (nI d) = some (nI p) := by
  obtain ⟨p1, p2, p3, p4⟩ := hp
  intro k
  induction k with
  | zero =>
    intro d m h1 h2 h3
    obtain ⟨m, rfl⟩ : ∃ q, m = q + 1 := ⟨m - 1, by omega⟩
    have : d = p := by omega
    subst this
    have hd := pMD_differ (L := L) (per := d) (fr := fr) hn hto (by omega) (by omega) hs
    rw [p3] at hd
    simp (disch := omega) only [fMD_least_2, hd, li0, li1, li2, li3, li4, li5, li6, li24, li25, nI_ltI, nI_leI, nI_eq, nI_add, pk_sub, pk_mul, pk_div, rd, rdL, wr, wrL, wrC, nI_clamp, bIn_nI, if_true, if_false, or_true, true_or, Option.bind_some, if_pos, if_neg, ↓pk_rem]
  | succ k ih =>
    intro d m h1 h2 h3
    obtain ⟨m, rfl⟩ : ∃ q, m = q + 1 := ⟨m - 1, by omega⟩
    have hd := pMD_differ (L := L) (per := d) (fr := fr) hn hto (by omega) (by omega) hs
    have hu : unl L d (fr + d) (to - (fr + d)) ≤ 24 := Nat.le_trans (cn_le _ _ _ _) (by omega)
    have h0 := p4 d h2 (by omega)
    simp (disch := omega) only [fMD_least_2, hd, li0, li1, li2, li3, li4, li5, li6, li24, li25, nI_ltI, nI_leI, nI_eq, nI_add, pk_sub, pk_mul, pk_div, rd, rdL, wr, wrL, wrC, nI_clamp, bIn_nI, if_true, if_false, or_true, true_or, Option.bind_some, if_pos, if_neg, ↓pk_rem]
    exact ih (d + 1) m (by omega) (by omega) (by omega)
theorem pMD_least {n fr to p : Nat} {L s : Nat → Int32} (hn : n ≤ 24) (hto : to ≤ n) (hf : fr < to) (hs : ∀ i, i < n → s (6 + i) = L i) (hp : LPer L fr to p) : fMD_least s (nI fr) (nI to) = some (nI p) := by
  unfold fMD_least
  rw [li1]
  have h1 := hp.1
  have h2 := hp.2.1
  exact pMD_least2 hn hto hf hs hp (p - 1) 1 FU (by omega) (Nat.le_refl _) (by show _ < 1000000; omega)
theorem cn_last (P : Nat → Prop) (hd : DecidablePred P) : ∀ k s, cn P hd s (k + 1) = cn P hd s k + (if P (s + k) then 1 else 0) := by
  intro k
  induction k with
  | zero => intro s; simp [cn]
  | succ k ih =>
    intro s
    have h1 : cn P hd s (k + 1 + 1) = (if P s then 1 else 0) + cn P hd (s + 1) (k + 1) := rfl
    have h2 : cn P hd s (k + 1) = (if P s then 1 else 0) + cn P hd (s + 1) k := rfl
    rw [h1, h2, ih (s + 1), show s + 1 + k = s + (k + 1) by omega, Nat.add_assoc]
theorem unl_front {L : Nat → Int32} {a b p : Nat} (ha : 1 ≤ a) (hp : p ≤ b - a) (hab : a < b) (h0 : unl L p (a + p) (b - (a + p)) = 0) : unl L p (a - 1 + p) (b - (a - 1 + p)) = if L (a - 1) ≠ L (a - 1 + p) then 1 else 0 := by
  rw [show b - (a - 1 + p) = (b - (a + p)) + 1 by omega]
  show (if L (a - 1 + p) ≠ L (a - 1 + p - p) then 1 else 0) + unl L p (a - 1 + p + 1) (b - (a + p)) = _
  rw [show a - 1 + p + 1 = a + p by omega, h0, Nat.add_zero, Nat.add_sub_cancel]
  by_cases c : L (a - 1) = L (a - 1 + p)
  · rw [if_neg (fun q => q c.symm), if_neg (fun q => q c)]
  · rw [if_pos (fun q => c q.symm), if_pos c]
theorem unl_back {L : Nat → Int32} {a b p : Nat} (hp : p ≤ b - a) (hab : a < b) (h0 : unl L p (a + p) (b - (a + p)) = 0) : unl L p (a + p) (b + 1 - (a + p)) = if L b ≠ L (b - p) then 1 else 0 := by
  rw [show b + 1 - (a + p) = (b - (a + p)) + 1 by omega]
  unfold unl
  rw [cn_last]
  have h1 : cn (fun j => L j ≠ L (j - p)) (fun _ => inferInstance) (a + p) (b - (a + p)) = 0 := h0
  rw [h1, Nat.zero_add, show a + p + (b - (a + p)) = b by omega]
theorem pMD_isRun {n a b : Nat} {L s : Nat → Int32} (hn : n ≤ 24) (hm : s 0 = nI n) (hs : ∀ i, i < n → s (6 + i) = L i) (hb : b ≤ n) (hab : a < b) : fMD_isRun s (nI a) (nI b) = some (if isRn L n a b = true then nI 1 else nI 0) := by
  have hlp := lpf_ok (L := L) hab
  obtain ⟨l1, l2, l3, l4⟩ := id hlp
  have e49 : fMD_isRun_49 s (nI a) (nI b) (nI (lpf L a b)) (nI 1) = some (if b = n ∨ L b ≠ L (b - lpf L a b) then nI 1 else nI 0) := by
    by_cases c : b = n
    · subst c
      simp (disch := omega) only [fMD_isRun_49, hm, li0, li1, li2, li3, li4, li5, li6, li24, li25, nI_ltI, nI_leI, nI_eq, nI_add, pk_sub, pk_mul, pk_div, rd, rdL, wr, wrL, wrC, nI_clamp, bIn_nI, if_true, if_false, or_true, true_or, Option.bind_some, if_pos, if_neg, ↓pk_rem]
    · have hd := pMD_differ (L := L) (s := s) (fr := a) (to := b + 1) (per := lpf L a b) hn (by omega) (by omega) (by omega) hs
      rw [unl_back l2 hab l3] at hd
      simp (disch := omega) only [fMD_isRun_49, hm, hd, li0, li1, li2, li3, li4, li5, li6, li24, li25, nI_ltI, nI_leI, nI_eq, nI_add, pk_sub, pk_mul, pk_div, rd, rdL, wr, wrL, wrC, nI_clamp, bIn_nI, if_true, if_false, or_true, true_or, Option.bind_some, if_pos, if_neg, ↓pk_rem]
      by_cases e : L b = L (b - lpf L a b)
      · rw [if_neg (fun q => q e), if_neg (by simp [c, e])]
        simp (disch := omega) only [li0, li1, li2, li3, li4, li5, li6, li24, li25, nI_ltI, nI_leI, nI_eq, nI_add, pk_sub, pk_mul, pk_div, rd, rdL, wr, wrL, wrC, nI_clamp, bIn_nI, if_true, if_false, or_true, true_or, Option.bind_some, if_pos, if_neg, ↓pk_rem]
      · rw [if_pos e, if_pos (Or.inr e)]
        simp (disch := omega) only [li0, li1, li2, li3, li4, li5, li6, li24, li25, nI_ltI, nI_leI, nI_eq, nI_add, pk_sub, pk_mul, pk_div, rd, rdL, wr, wrL, wrC, nI_clamp, bIn_nI, if_true, if_false, or_true, true_or, Option.bind_some, if_pos, if_neg, ↓pk_rem]
  have e49z : fMD_isRun_49 s (nI a) (nI b) (nI (lpf L a b)) (nI 0) = some (nI 0) := by
    simp (disch := omega) only [fMD_isRun_49, li0, li1, li2, li3, li4, li5, li6, li24, li25, nI_ltI, nI_leI, nI_eq, nI_add, pk_sub, pk_mul, pk_div, rd, rdL, wr, wrL, wrC, nI_clamp, bIn_nI, if_true, if_false, or_true, true_or, Option.bind_some, if_pos, if_neg, ↓pk_rem]
  rw [fMD_isRun, pMD_least hn hb hab hs hlp, Option.bind_some]
  by_cases h2 : 2 * lpf L a b ≤ b - a
  · rw [if_neg (by rw [li2, pk_sub (by omega), pk_mul, nI_ltI (by omega) (by omega)]; omega)]
    by_cases c : a = 0
    · subst c
      simp (disch := omega) only [fMD_isRun_21, fMD_isRun_44, li0, li1, nI_ltI, nI_leI, nI_eq, nI_add, pk_sub, pk_mul, pk_div, rd, rdL, wr, wrL, wrC, nI_clamp, bIn_nI, if_true, if_false, or_true, true_or, Option.bind_some, if_pos, if_neg, ↓pk_rem]
      rw [e49]
      congr 1
      by_cases q : b = n ∨ L b ≠ L (b - lpf L 0 b)
      · rw [if_pos q, if_pos (isRn_iff.mpr ⟨h2, Or.inl rfl, q⟩)]
      · rw [if_neg q, if_neg (fun z => q (isRn_iff.mp z).2.2)]
    · have hd := pMD_differ (L := L) (s := s) (fr := a - 1) (to := b) (per := lpf L a b) hn hb (by omega) (by omega) hs
      rw [unl_front (by omega) l2 hab l3] at hd
      simp (disch := omega) only [fMD_isRun_21, fMD_isRun_44, fMD_isRun_48, hd, li0, li1, nI_ltI, nI_leI, nI_eq, nI_add, pk_sub, pk_mul, pk_div, rd, rdL, wr, wrL, wrC, nI_clamp, bIn_nI, if_true, if_false, or_true, true_or, Option.bind_some, if_pos, if_neg, ↓pk_rem]
      by_cases e : L (a - 1) = L (a - 1 + lpf L a b)
      · rw [if_neg (fun q => q e), if_neg (fun z => by rcases (isRn_iff.mp z).2.1 with z | z; exact c z; exact z e)]
        simp (disch := omega) only [li0, li1, nI_ltI, nI_leI, nI_eq, nI_add, pk_sub, pk_mul, pk_div, rd, rdL, wr, wrL, wrC, nI_clamp, bIn_nI, if_true, if_false, or_true, true_or, Option.bind_some, if_pos, if_neg, ↓pk_rem, e49z]
      · rw [if_pos e]
        simp (disch := omega) only [li0, li1, nI_ltI, nI_leI, nI_eq, nI_add, pk_sub, pk_mul, pk_div, rd, rdL, wr, wrL, wrC, nI_clamp, bIn_nI, if_true, if_false, or_true, true_or, Option.bind_some, if_pos, if_neg, ↓pk_rem, e49]
        congr 1
        by_cases q : b = n ∨ L b ≠ L (b - lpf L a b)
        · rw [if_pos q, if_pos (isRn_iff.mpr ⟨h2, Or.inr e, q⟩)]
        · rw [if_neg q, if_neg (fun z => q (isRn_iff.mp z).2.2)]
  · rw [if_pos (by rw [li2, pk_sub (by omega), pk_mul, nI_ltI (by omega) (by omega)]; omega), if_neg (fun z => h2 (isRn_iff.mp z).1)]
    simp (disch := omega) only [fMD_isRun_21, fMD_isRun_48, li0, li1, nI_ltI, nI_leI, nI_eq, nI_add, pk_sub, pk_mul, pk_div, rd, rdL, wr, wrL, wrC, nI_clamp, bIn_nI, if_true, if_false, or_true, true_or, Option.bind_some, if_pos, if_neg, ↓pk_rem, e49z]
def cB (L : Nat → Int32) (n a : Nat) (b k : Nat) : Nat := cn (fun b => isRn L n a b = true) (fun _ => inferInstance) b k
def tA (L : Nat → Int32) (n : Nat) : Nat → Nat → Nat
  | _, 0 => 0
  | a, k + 1 => cB L n a (a + 1) (n - a) + tA L n (a + 1) k
theorem cB_le {L : Nat → Int32} {n a b k : Nat} : cB L n a b k ≤ k := cn_le _ _ _ _
theorem pMD_runs18 {n a : Nat} {L s : Nat → Int32} (hn : n ≤ 24) (hm : s 0 = nI n) (hs : ∀ i, i < n → s (6 + i) = L i) (K : Int32 → Int32 → Option Int32) : ∀ (k b c m : Nat), b + k = n + 1 → a < b → k < m → c + k < 10000 → fMD_runs_18 s K m (nI c) (nI a) (nI b) = K (nI (c + cB L n a b k)) (nI (a + 1)) := by
  intro k
  induction k with
  | zero =>
    intro b c m h1 h2 h3 h4
    obtain ⟨m, rfl⟩ : ∃ q, m = q + 1 := ⟨m - 1, by omega⟩
    simp (disch := omega) only [fMD_runs_18, hm, li0, li1, li2, li3, li4, li5, li6, li24, li25, nI_ltI, nI_leI, nI_eq, nI_add, pk_sub, pk_mul, pk_div, rd, rdL, wr, wrL, wrC, nI_clamp, bIn_nI, if_true, if_false, or_true, true_or, Option.bind_some, if_pos, if_neg, ↓pk_rem]
    rfl
  | succ k ih =>
    intro b c m h1 h2 h3 h4
    obtain ⟨m, rfl⟩ : ∃ q, m = q + 1 := ⟨m - 1, by omega⟩
    have hr := pMD_isRun hn hm hs (a := a) (b := b) (by omega) h2
    have e : cB L n a b (k + 1) = (if isRn L n a b = true then 1 else 0) + cB L n a (b + 1) k := rfl
    simp (disch := omega) only [fMD_runs_18, hm, hr, li0, li1, nI_ltI, nI_leI, nI_eq, nI_add, pk_sub, pk_mul, pk_div, rd, rdL, wr, wrL, wrC, nI_clamp, bIn_nI, if_true, if_false, or_true, true_or, Option.bind_some, if_pos, if_neg, ↓pk_rem]
    rw [e]
    by_cases q : isRn L n a b = true
    · rw [if_pos q, if_pos q]
      simp (disch := omega) only [li0, li1, nI_ltI, nI_leI, nI_eq, nI_add, pk_sub, pk_mul, pk_div, rd, rdL, wr, wrL, wrC, nI_clamp, bIn_nI, if_true, if_false, or_true, true_or, Option.bind_some, if_pos, if_neg, ↓pk_rem]
      rw [ih (b + 1) (c + 1) m (by omega) (by omega) (by omega) (by omega), Nat.add_assoc]
    · rw [if_neg q, if_neg q]
      simp (disch := omega) only [li0, li1, nI_ltI, nI_leI, nI_eq, nI_add, pk_sub, pk_mul, pk_div, rd, rdL, wr, wrL, wrC, nI_clamp, bIn_nI, if_true, if_false, or_true, true_or, Option.bind_some, if_pos, if_neg, ↓pk_rem]
      rw [ih (b + 1) (c + 0) m (by omega) (by omega) (by omega) (by omega), Nat.add_assoc]
theorem pMD_runs4 {n : Nat} {L s : Nat → Int32} (hn : n ≤ 24) (hm : s 0 = nI n) (hs : ∀ i, i < n → s (6 + i) = L i) : ∀ (k a c m : Nat), a + k = n → k < m → c ≤ a * 24 → fMD_runs_4 s m (nI c) (nI a) = some (nI (c + tA L n a k)) := by
  intro k
  induction k with
  | zero =>
    intro a c m h1 h2 h3
    obtain ⟨m, rfl⟩ : ∃ q, m = q + 1 := ⟨m - 1, by omega⟩
    simp (disch := omega) only [fMD_runs_4, hm, li0, li1, li2, li3, li4, li5, li6, li24, li25, nI_ltI, nI_leI, nI_eq, nI_add, pk_sub, pk_mul, pk_div, rd, rdL, wr, wrL, wrC, nI_clamp, bIn_nI, if_true, if_false, or_true, true_or, Option.bind_some, if_pos, if_neg, ↓pk_rem]
    rfl
  | succ k ih =>
    intro a c m h1 h2 h3
    obtain ⟨m, rfl⟩ : ∃ q, m = q + 1 := ⟨m - 1, by omega⟩
    have hle := cB_le (L := L) (n := n) (a := a) (b := a + 1) (k := n - a)
    have h18 := pMD_runs18 (a := a) hn hm hs (fMD_runs_4 s m) (n - a) (a + 1) c FU (by omega) (by omega) (by show _ < 1000000; omega) (by omega)
    simp (disch := omega) only [fMD_runs_4, hm, li0, li1, nI_ltI, nI_leI, nI_eq, nI_add, pk_sub, pk_mul, pk_div, rd, rdL, wr, wrL, wrC, nI_clamp, bIn_nI, if_true, if_false, or_true, true_or, Option.bind_some, if_pos, if_neg, ↓pk_rem, h18]
    rw [ih (a + 1) _ m (by omega) (by omega) (by omega)]
    show some (nI (c + cB L n a (a + 1) (n - a) + tA L n (a + 1) k)) = some (nI (c + (cB L n a (a + 1) (n - a) + tA L n (a + 1) k)))
    rw [Nat.add_assoc]
def sm (f : Nat → Nat) : Nat → Nat
  | 0 => 0
  | n + 1 => sm f n + f n
theorem sm_cong {f g : Nat → Nat} : ∀ n, (∀ i, i < n → f i = g i) → sm f n = sm g n := by
  intro n
  induction n with
  | zero => intro h; rfl
  | succ n ih =>
    intro h
    unfold sm
    rw [ih (fun i hi => h i (by omega)), h n (by omega)]
theorem sm_front (f : Nat → Nat) : ∀ n, sm f (n + 1) = f 0 + sm (fun i => f (i + 1)) n := by
  intro n
  induction n with
  | zero => simp [sm]
  | succ n ih =>
    have h1 : sm f (n + 1 + 1) = sm f (n + 1) + f (n + 1) := rfl
    have h2 : sm (fun i => f (i + 1)) (n + 1) = sm (fun i => f (i + 1)) n + f (n + 1) := rfl
    rw [h1, h2, ih]
    omega
theorem sm_add (f g : Nat → Nat) : ∀ n, sm (fun i => f i + g i) n = sm f n + sm g n := by
  intro n
  induction n with
  | zero => rfl
  | succ n ih =>
    unfold sm
    rw [ih]
    omega
theorem sm_rev : ∀ (n : Nat) (f : Nat → Nat), sm f (n + 1) = sm (fun i => f (n - i)) (n + 1) := by
  intro n
  induction n with
  | zero => intro f; rfl
  | succ n ih =>
    intro f
    rw [sm_front (fun i => f (n + 1 - i))]
    have h1 : sm f (n + 1 + 1) = sm f (n + 1) + f (n + 1) := rfl
    rw [h1, ih f, Nat.add_comm]
    congr 1
    exact sm_cong _ (fun i hi => by congr 1; omega)
theorem tri (g : Nat → Nat → Nat) : ∀ N, sm (fun a => sm (fun j => g a j) (N - a)) N = sm (fun j => sm (fun a => g a j) (N - j)) N := by
  intro N
  induction N with
  | zero => rfl
  | succ N ih =>
    have key : ∀ h : Nat → Nat → Nat, sm (fun a => sm (fun j => h a j) (N + 1 - a)) (N + 1) = sm (fun a => sm (fun j => h a j) (N - a)) N + sm (fun a => h a (N - a)) (N + 1) := by
      intro h
      have h1 : sm (fun a => sm (fun j => h a j) (N + 1 - a)) (N + 1) = sm (fun a => sm (fun j => h a j) (N - a) + h a (N - a)) (N + 1) := by
        refine sm_cong _ (fun a ha => ?_)
        rw [show N + 1 - a = (N - a) + 1 by omega]
        rfl
      rw [h1, sm_add]
      congr 1
      show sm (fun a => sm (fun j => h a j) (N - a)) N + sm (fun j => h N j) (N - N) = _
      rw [Nat.sub_self]
      rfl
    rw [key g, key (fun j a => g a j), ih]
    congr 1
    rw [sm_rev]
    exact sm_cong _ (fun i hi => by show g (N - i) (N - (N - i)) = g (N - i) i; congr 1; omega)
theorem cn_sm (P : Nat → Prop) (hd : DecidablePred P) (s : Nat) : ∀ k, cn P hd s k = sm (fun i => if P (s + i) then 1 else 0) k := by
  intro k
  induction k with
  | zero => rfl
  | succ k ih =>
    rw [cn_last, ih]
    rfl
theorem tA_sm {L : Nat → Int32} {n : Nat} : ∀ k a, a + k = n → tA L n a k = sm (fun i => sm (fun j => if isRn L n (a + i) (a + i + 1 + j) = true then 1 else 0) (n - (a + i))) k := by
  intro k
  induction k with
  | zero => intro a h; rfl
  | succ k ih =>
    intro a h
    rw [sm_front, tA, ih (a + 1) (by omega)]
    congr 1
    · unfold cB
      rw [cn_sm]
      rfl
    · refine sm_cong _ (fun i hi => ?_)
      rw [show a + 1 + i = a + (i + 1) by omega]
theorem rowR_len {L : Nat → Int32} {n len : Nat} : ∀ k a, (rowR L n len a k).length = sm (fun i => if isRn L n (a + i) (a + i + len) = true then 1 else 0) k := by
  intro k
  induction k with
  | zero => intro a; rfl
  | succ k ih =>
    intro a
    have e : sm (fun i => if isRn L n (a + 1 + i) (a + 1 + i + len) = true then 1 else 0) k = sm (fun i => if isRn L n (a + (i + 1)) (a + (i + 1) + len) = true then 1 else 0) k := sm_cong _ (fun i hi => by rw [show a + 1 + i = a + (i + 1) by omega])
    rw [sm_front, rowR]
    by_cases q : isRn L n a (a + len) = true
    · rw [if_pos q, List.length_cons, ih, e]
      simp only [Nat.add_zero, if_pos q]
      exact Nat.add_comm _ _
    · rw [if_neg q, ih, e]
      simp only [Nat.add_zero, if_neg q, Nat.zero_add]
theorem rall_len {L : Nat → Int32} {n : Nat} : ∀ k, (rall L n k).length = sm (fun l => sm (fun a => if isRn L n a (a + (l + 1)) = true then 1 else 0) (n - l)) k := by
  intro k
  induction k with
  | zero => rfl
  | succ k ih =>
    rw [rall, List.length_append, ih, rowR_len, Nat.add_comm]
    have e : ∀ F : Nat → Nat, sm F (k + 1) = sm F k + F k := fun _ => rfl
    rw [e]
    congr 1
    refine sm_cong _ (fun i hi => ?_)
    rw [Nat.zero_add]
theorem tA_rall {L : Nat → Int32} {n : Nat} : tA L n 0 n = (rall L n n).length := by
  rw [tA_sm n 0 (by omega), rall_len]
  have h := tri (fun a j => if isRn L n a (a + (j + 1)) = true then 1 else 0) n
  rw [← h]
  refine sm_cong _ (fun i hi => ?_)
  rw [Nat.zero_add]
  refine sm_cong _ (fun j hj => ?_)
  rw [show i + 1 + j = i + (j + 1) by omega]
theorem pMD_runs {n : Nat} {L s : Nat → Int32} (hn : n ≤ 24) (hm : s 0 = nI n) (hs : ∀ i, i < n → s (6 + i) = L i) : fMD_runs s = some (nI (rall L n n).length) := by
  have h := pMD_runs4 hn hm hs n 0 0 FU (by omega) (by show _ < 1000000; omega) (by omega)
  rw [tA_rall, Nat.zero_add] at h
  exact h
