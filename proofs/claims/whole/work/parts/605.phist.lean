/-! the history, of the class and of the model -/
def StOK (n : Nat) (w g : Nat → Nat) (z : Int32) (L S : Nat → Int32) : Prop := z = nI n ∧ n ≤ 24 ∧ (∀ i, i < n → w i < 4 ∧ L i = nI (w i)) ∧ (∀ k, k < 5 → S k = nI (g k)) ∧ (1 ≤ g 0 ∧ g 0 ≤ 9) ∧ g 1 ≤ 20 ∧ g 2 ≤ 20 ∧ g 3 ≤ 6 ∧ g 4 ≤ 4
def MdOK (n : Nat) (w g : Nat → Nat) (s : Nat → Int32) (o : Nat) : Prop := s o = nI n ∧ (∀ k, k < 5 → s (o + 1 + k) = nI (g k)) ∧ ∀ i, i < n → s (o + 6 + i) = nI (w i)
/-- a state of the class and 30 ints of the model say the same -/
def SS (z : Int32) (L S s : Nat → Int32) (o : Nat) : Prop := ∃ n w g, StOK n w g z L S ∧ MdOK n w g s o
theorem SS_copy {z : Int32} {L S s L2 S2 s2 : Nat → Int32} {o o2 : Nat} (h : SS z L S s o) (hL : ∀ j, j < 24 → L2 j = L j) (hS : ∀ j, j < 5 → S2 j = S j) (hs : ∀ j, j < 30 → s2 (o2 + j) = s (o + j)) : SS z L2 S2 s2 o2 := by
  obtain ⟨n, w, g, ⟨h1, h2, h3, h4, h5⟩, h6, h7, h8⟩ := h
  refine ⟨n, w, g, ⟨h1, h2, fun i hi => ⟨(h3 i hi).1, by rw [hL i (by omega)]; exact (h3 i hi).2⟩, fun k hk => by rw [hS k hk]; exact h4 k hk, h5⟩, ?_, fun k hk => ?_, fun i hi => ?_⟩
  · have := hs 0 (by omega)
    rw [Nat.add_zero, Nat.add_zero] at this
    rw [this]; exact h6
  · rw [Nat.add_assoc, hs (1 + k) (by omega), ← Nat.add_assoc]; exact h7 k hk
  · rw [Nat.add_assoc, hs (6 + i) (by omega), ← Nat.add_assoc]; exact h8 i hi
theorem pMD_keeps2 (s b : Nat → Int32) : ∀ (k i m : Nat), i + k = 30 → k < m → fMD_keeps_2 s m (nI i) (fl s b i) = some (fl s b 30) := by
  intro k
  induction k with
  | zero =>
    intro i m h1 h2
    obtain ⟨m, rfl⟩ : ∃ q, m = q + 1 := ⟨m - 1, by omega⟩
    have : i = 30 := by omega
    subst this
    simp (disch := omega) only [fMD_keeps_2, li30, li0, li1, nI_ltI, nI_leI, nI_eq, nI_add, pk_sub, pk_mul, pk_div, rd, rdL, wr, wrL, wrC, nI_clamp, bIn_nI, if_true, if_false, or_true, true_or, Option.bind_some, if_pos, if_neg, ↓pk_rem]
  | succ k ih =>
    intro i m h1 h2
    obtain ⟨m, rfl⟩ : ∃ q, m = q + 1 := ⟨m - 1, by omega⟩
    simp (disch := omega) only [fMD_keeps_2, li30, li0, li1, nI_ltI, nI_leI, nI_eq, nI_add, pk_sub, pk_mul, pk_div, rd, rdL, wr, wrL, wrC, nI_clamp, bIn_nI, if_true, if_false, or_true, true_or, Option.bind_some, if_pos, if_neg, ↓pk_rem]
    rw [fl_s]
    exact ih (i + 1) m (by omega) (by omega)
theorem pMD_keeps (s b : Nat → Int32) : fMD_keeps s b = some (fl s b 30) := by
  unfold fMD_keeps
  have h := pMD_keeps2 s b 30 0 FU (by omega) (by decide)
  rw [fl_0] at h
  exact h
theorem pMD_acted55 (b f : Nat → Int32) (r : Int32) {q : Nat} (hq : q ≤ 3) : ∀ (k i m : Nat), i + k = 30 → k < m → fMD_acted_55 b r m (nI i) (nI q) (ins f b (30 * q) i) = some (r, nI (q + 1), ins f b (30 * q) 30) := by
  intro k
  induction k with
  | zero =>
    intro i m h1 h2
    obtain ⟨m, rfl⟩ : ∃ q, m = q + 1 := ⟨m - 1, by omega⟩
    have : i = 30 := by omega
    subst this
    simp (disch := omega) only [fMD_acted_55, li30, li0, li1, nI_ltI, nI_leI, nI_eq, nI_add, pk_sub, pk_mul, pk_div, rd, rdL, wr, wrL, wrC, nI_clamp, bIn_nI, if_true, if_false, or_true, true_or, Option.bind_some, if_pos, if_neg, ↓pk_rem]
  | succ k ih =>
    intro i m h1 h2
    obtain ⟨m, rfl⟩ : ∃ q, m = q + 1 := ⟨m - 1, by omega⟩
    simp (disch := omega) only [fMD_acted_55, li30, li0, li1, nI_ltI, nI_leI, nI_eq, nI_add, pk_sub, pk_mul, pk_div, rd, rdL, wr, wrL, wrC, nI_clamp, bIn_nI, if_true, if_false, or_true, true_or, Option.bind_some, if_pos, if_neg, ↓pk_rem]
    rw [ins_s]
    exact ih (i + 1) m (by omega) (by omega)
theorem pMD_acted16 (b f : Nat → Int32) (r : Int32) : ∀ (k i m : Nat), i + k = 90 → k < m → fMD_acted_16 b r m (nI i) (nI 4) (fl (fun j => f (j + 30)) f i) = some (r, nI 4, ins (fl (fun j => f (j + 30)) f 90) b 90 30) := by
  intro k
  induction k with
  | zero =>
    intro i m h1 h2
    obtain ⟨m, rfl⟩ : ∃ q, m = q + 1 := ⟨m - 1, by omega⟩
    have : i = 90 := by omega
    subst this
    simp (disch := omega) only [fMD_acted_16, li30, li90, li0, li1, nI_ltI, nI_leI, nI_eq, nI_add, pk_sub, pk_mul, pk_div, rd, rdL, wr, wrL, wrC, nI_clamp, bIn_nI, if_true, if_false, or_true, true_or, Option.bind_some, if_pos, if_neg, ↓pk_rem]
    have h := pMD_acted55 b (fl (fun j => f (j + 30)) f 90) r (q := 3) (by omega) 30 0 FU (by omega) (by decide)
    rw [ins_0] at h
    exact h
  | succ k ih =>
    intro i m h1 h2
    obtain ⟨m, rfl⟩ : ∃ q, m = q + 1 := ⟨m - 1, by omega⟩
    simp (disch := omega) only [fMD_acted_16, li30, li90, li0, li1, nI_ltI, nI_leI, nI_eq, nI_add, pk_sub, pk_mul, pk_div, rd, rdL, wr, wrL, wrC, nI_clamp, bIn_nI, if_true, if_false, or_true, true_or, Option.bind_some, if_pos, if_neg, ↓pk_rem]
    have e : upd (fl (fun j => f (j + 30)) f i) i (fl (fun j => f (j + 30)) f i (i + 30)) = fl (fun j => f (j + 30)) f (i + 1) := by
      rw [← fl_s]
      congr 1
      unfold fl
      rw [if_neg (by omega)]
    rw [e]
    exact ih (i + 1) m (by omega) (by omega)
/-- the model's history grows by the state that it kept -/
theorem pMD_acted (b f : Nat → Int32) {h : Nat} (hh : h ≤ 4) {r : Int32} (hr : ¬ r ≤ -1000001) : ∃ f2, fMD_acted b (nI h) f r = some (r, nI (if h = 4 then 4 else h + 1), f2) ∧ (∀ j, j < 30 → f2 (30 * (if h = 4 then 3 else h) + j) = b j) ∧ ∀ j, j < 30 * (if h = 4 then 3 else h) → f2 j = if h = 4 then f (j + 30) else f j := by
  unfold fMD_acted
  rw [if_neg hr]
  by_cases c : h = 4
  · subst c
    refine ⟨ins (fl (fun j => f (j + 30)) f 90) b 90 30, ?_, fun j hj => ?_, fun j hj => ?_⟩
    · rw [if_pos (by decide)]
      have e := pMD_acted16 b f r 90 0 FU (by omega) (by decide)
      rw [fl_0] at e
      exact e
    · show ins _ b 90 30 (30 * 3 + j) = _
      unfold ins
      rw [if_pos (by omega)]
      congr 1
      omega
    · rw [if_pos rfl] at hj ⊢
      unfold ins fl
      rw [if_neg (by omega), if_pos (by omega)]
  · refine ⟨ins f b (30 * h) 30, ?_, fun j hj => ?_, fun j hj => ?_⟩
    · rw [if_neg (by rw [li4, nI_eq (by omega) (by omega)]; exact c), if_neg c]
      have e := pMD_acted55 b f r (q := h) (by omega) 30 0 FU (by omega) (by decide)
      rw [ins_0] at e
      exact e
    · rw [if_neg c]
      unfold ins
      rw [if_pos (by omega)]
      congr 1
      omega
    · rw [if_neg c] at hj ⊢
      unfold ins
      rw [if_neg (by omega)]
/-- both histories say the same -/
def HOK (h : Nat) (z0 : Int32) (L0 S0 : Nat → Int32) (z1 : Int32) (L1 S1 : Nat → Int32) (z2 : Int32) (L2 S2 : Nat → Int32) (z3 : Int32) (L3 S3 : Nat → Int32) (f : Nat → Int32) : Prop := h ≤ 4 ∧ (0 < h → SS z0 L0 S0 f 0) ∧ (1 < h → SS z1 L1 S1 f 30) ∧ (2 < h → SS z2 L2 S2 f 60) ∧ (3 < h → SS z3 L3 S3 f 90)
theorem fl_lo {α : Type} {f g : Nat → α} {i : Nat} : ∀ j, j < i → fl f g i j = f j := fun _ h => fl_in h
theorem keep_ok {h : Nat} {z0 : Int32} {L0 S0 : Nat → Int32} {z1 : Int32} {L1 S1 : Nat → Int32} {z2 : Int32} {L2 S2 : Nat → Int32} {z3 : Int32} {L3 S3 : Nat → Int32} {f : Nat → Int32} (H : HOK h z0 L0 S0 z1 L1 S1 z2 L2 S2 z3 L3 S3 f) {z : Int32} {L S s : Nat → Int32} (hs : SS z L S s 0) (b : Nat → Int32) (hb : ∀ j, j < 30 → b j = s j) {r : Int32} (hr : ¬ r ≤ -1000001) : ∃ h2 a0 A0 B0 a1 A1 B1 a2 A2 B2 a3 A3 B3 f2, fHi_keep z L S (nI h) z0 L0 S0 z1 L1 S1 z2 L2 S2 z3 L3 S3 = some (nI h2, a0, A0, B0, a1, A1, B1, a2, A2, B2, a3, A3, B3) ∧ fMD_acted b (nI h) f r = some (r, nI h2, f2) ∧ HOK h2 a0 A0 B0 a1 A1 B1 a2 A2 B2 a3 A3 B3 f2 := by
  obtain ⟨hh, H0, H1, H2, H3⟩ := H
  obtain ⟨f2, e1, e2, e3⟩ := pMD_acted b f hh hr
  have hs2 : ∀ (o : Nat) (A B L' S' : Nat → Int32), (∀ j, j < 30 → f2 (o + j) = b j) → SS z (fl L L' 24) (fl S S' 5) f2 o := fun o A B L' S' q => SS_copy hs fl_lo fl_lo (fun j hj => by rw [q j hj, hb j hj, Nat.zero_add])
  rcases (show h = 0 ∨ h = 1 ∨ h = 2 ∨ h = 3 ∨ h = 4 by omega) with rfl | rfl | rfl | rfl | rfl
  · refine ⟨1, z, (fl L L0 24), (fl S S0 5), z1, L1, S1, z2, L2, S2, z3, L3, S3, f2, ?_, e1, by omega, fun _ => hs2 0 L S L0 S0 e2, fun q => absurd q (by omega), fun q => absurd q (by omega), fun q => absurd q (by omega)⟩
    simp (disch := omega) only [fHi_keep, fHi_keep_12, pSt_copyFrom, li0, li1, li2, li3, li4, li5, li6, li24, li25, nI_ltI, nI_leI, nI_eq, nI_add, pk_sub, pk_mul, pk_div, rd, rdL, wr, wrL, wrC, nI_clamp, bIn_nI, if_true, if_false, or_true, true_or, Option.bind_some, if_pos, if_neg, ↓pk_rem]
  · refine ⟨2, z0, L0, S0, z, (fl L L1 24), (fl S S1 5), z2, L2, S2, z3, L3, S3, f2, ?_, e1, by omega, fun _ => SS_copy (H0 (by omega)) (fun _ _ => rfl) (fun _ _ => rfl) (fun j hj => e3 (0 + j) (by simp; omega)), fun _ => hs2 30 L S L1 S1 e2, fun q => absurd q (by omega), fun q => absurd q (by omega)⟩
    simp (disch := omega) only [fHi_keep, fHi_keep_12, pSt_copyFrom, li0, li1, li2, li3, li4, li5, li6, li24, li25, nI_ltI, nI_leI, nI_eq, nI_add, pk_sub, pk_mul, pk_div, rd, rdL, wr, wrL, wrC, nI_clamp, bIn_nI, if_true, if_false, or_true, true_or, Option.bind_some, if_pos, if_neg, ↓pk_rem]
  · refine ⟨3, z0, L0, S0, z1, L1, S1, z, (fl L L2 24), (fl S S2 5), z3, L3, S3, f2, ?_, e1, by omega, fun _ => SS_copy (H0 (by omega)) (fun _ _ => rfl) (fun _ _ => rfl) (fun j hj => e3 (0 + j) (by simp; omega)), fun _ => SS_copy (H1 (by omega)) (fun _ _ => rfl) (fun _ _ => rfl) (fun j hj => e3 (30 + j) (by simp; omega)), fun _ => hs2 60 L S L2 S2 e2, fun q => absurd q (by omega)⟩
    simp (disch := omega) only [fHi_keep, fHi_keep_12, pSt_copyFrom, li0, li1, li2, li3, li4, li5, li6, li24, li25, nI_ltI, nI_leI, nI_eq, nI_add, pk_sub, pk_mul, pk_div, rd, rdL, wr, wrL, wrC, nI_clamp, bIn_nI, if_true, if_false, or_true, true_or, Option.bind_some, if_pos, if_neg, ↓pk_rem]
  · refine ⟨4, z0, L0, S0, z1, L1, S1, z2, L2, S2, z, (fl L L3 24), (fl S S3 5), f2, ?_, e1, by omega, fun _ => SS_copy (H0 (by omega)) (fun _ _ => rfl) (fun _ _ => rfl) (fun j hj => e3 (0 + j) (by simp; omega)), fun _ => SS_copy (H1 (by omega)) (fun _ _ => rfl) (fun _ _ => rfl) (fun j hj => e3 (30 + j) (by simp; omega)), fun _ => SS_copy (H2 (by omega)) (fun _ _ => rfl) (fun _ _ => rfl) (fun j hj => e3 (60 + j) (by simp; omega)), fun _ => hs2 90 L S L3 S3 e2⟩
    simp (disch := omega) only [fHi_keep, fHi_keep_12, pSt_copyFrom, li0, li1, li2, li3, li4, li5, li6, li24, li25, nI_ltI, nI_leI, nI_eq, nI_add, pk_sub, pk_mul, pk_div, rd, rdL, wr, wrL, wrC, nI_clamp, bIn_nI, if_true, if_false, or_true, true_or, Option.bind_some, if_pos, if_neg, ↓pk_rem]
  · refine ⟨4, z1, L1, S1, z2, L2, S2, z3, L3, S3, z, (fl L L0 24), (fl S S0 5), f2, ?_, e1, by omega, fun _ => SS_copy (H1 (by omega)) (fun _ _ => rfl) (fun _ _ => rfl) (fun j hj => by rw [e3 (0 + j) (by simp; omega), if_pos rfl]; congr 1; omega), fun _ => SS_copy (H2 (by omega)) (fun _ _ => rfl) (fun _ _ => rfl) (fun j hj => by rw [e3 (30 + j) (by simp; omega), if_pos rfl]; congr 1; omega), fun _ => SS_copy (H3 (by omega)) (fun _ _ => rfl) (fun _ _ => rfl) (fun j hj => by rw [e3 (60 + j) (by simp; omega), if_pos rfl]; congr 1; omega), fun _ => hs2 90 L S L0 S0 e2⟩
    simp (disch := omega) only [fHi_keep, fHi_keep_12, fHi_dropOldest, pSt_copyFrom, li0, li1, li2, li3, li4, li5, li6, li24, li25, nI_ltI, nI_leI, nI_eq, nI_add, pk_sub, pk_mul, pk_div, rd, rdL, wr, wrL, wrC, nI_clamp, bIn_nI, if_true, if_false, or_true, true_or, Option.bind_some, if_pos, if_neg, ↓pk_rem]
