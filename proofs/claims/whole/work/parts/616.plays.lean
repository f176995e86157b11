/-! lays -/
def MT (w g : Nat → Nat) (n : Nat) (F : Nat → Nat → Nat → Prop) (bl co fi : Nat → Int32) : Prop := ∀ d f t, d ≤ g 4 → f ≤ t → t ≤ n → F d f t → co (625 * d + 25 * f + t) = nI (cst w g d f t) ∧ (f < t → ∃ m b, Ch w g d f t m b ∧ fi (625 * d + 25 * f + t) = nI m ∧ (1 < m → bl (625 * d + 25 * f + t) = nI b))
abbrev F4 : Type := Option ((Nat → Int32) × (Nat → Int32) × (Nat → Int32) × (Nat → Int32))
abbrev A1 : Type := Nat → Int32
theorem pMD_lays43 {w g : Nat → Nat} {n d f : Nat} {s W : Nat → Int32} (hM : MOK w g n s W) (hd : d ≤ g 4) (hf : f ≤ n) (k6 : Int32 → A1 → A1 → A1 → A1 → F4) (k23 : Int32 → Int32 → A1 → A1 → A1 → A1 → F4) : ∀ (k t m : Nat) (bl co fi : Nat → Int32), t + k = n + 1 → k < m → f < t → MT w g n (fun d' f' t' => d' < d ∨ (d' = d ∧ (f < f' ∨ (f' = f ∧ t' < t)))) bl co fi → ∃ bl2 co2 fi2, MT w g n (fun d' f' _ => d' < d ∨ (d' = d ∧ f ≤ f')) bl2 co2 fi2 ∧ fMD_lays_43 s k6 k23 m (nI d) (nI f) (nI t) bl co fi W = k23 (nI d) (nI f + (-1)) bl2 co2 fi2 W := by
  obtain ⟨hn, hs0, hw, hs5, ⟨_, hg0⟩, hg1, hg2, hg3, hg4, hW⟩ := id hM
  intro k
  induction k with
  | zero =>
    intro t m bl co fi h1 h2 h3 h4
    obtain ⟨m, rfl⟩ : ∃ q, m = q + 1 := ⟨m - 1, by omega⟩
    refine ⟨bl, co, fi, fun d' f' t' a1 a2 a3 a4 => h4 d' f' t' a1 a2 a3 (by omega), ?_⟩
    rw [fMD_lays_43, li0, rd_nI (by omega), hs0, if_pos (nI_lt (by omega) (by omega))]
  | succ k ih =>
    intro t m bl co fi h1 h2 h3 h4
    obtain ⟨m, rfl⟩ : ∃ q, m = q + 1 := ⟨m - 1, by omega⟩
    obtain ⟨bl1, fi1, x1, x2, x3⟩ := pMD_finds hM (show d ≤ 4 by omega) h3 (show t ≤ n by omega) (fun h0 b b1 b2 => (h4 (d - 1) f (f + b) (by omega) (by omega) (by omega) (by omega)).1) (fun e e1 e2 => (h4 d e t hd e2 (by omega) (by omega)).1) bl fi
    obtain ⟨bl2, co2, fi2, y1, y2⟩ := ih (t + 1) m bl1 (upd co (625 * d + 25 * f + t) (nI (cst w g d f t))) fi1 (by omega) (by omega) (by omega) (by
      intro d' f' t' a1 a2 a3 a4
      by_cases c : d' = d ∧ f' = f ∧ t' = t
      · obtain ⟨rfl, rfl, rfl⟩ := c
        exact ⟨pk_us, fun _ => x1⟩
      · have hne : 625 * d' + 25 * f' + t' ≠ 625 * d + 25 * f + t := by omega
        obtain ⟨z1, z2⟩ := h4 d' f' t' a1 a2 a3 (by omega)
        obtain ⟨z3, z4⟩ := x2 _ hne
        rw [pk_un hne, z3, z4]
        exact ⟨z1, z2⟩)
    refine ⟨bl2, co2, fi2, y1, ?_⟩
    rw [fMD_lays_43, li0, rd_nI (by omega), hs0, if_neg (nI_nlt (by omega) (by omega)), x3, Option.bind_some, nI_1]
    exact y2
theorem pMD_lays23 {w g : Nat → Nat} {n d : Nat} {s W : Nat → Int32} (hM : MOK w g n s W) (hd : d ≤ g 4) (k6 : Int32 → A1 → A1 → A1 → A1 → F4) : ∀ (c m : Nat) (bl co fi : Nat → Int32), c ≤ n + 1 → c < m → MT w g n (fun d' f' _ => d' < d ∨ (d' = d ∧ c ≤ f')) bl co fi → ∃ bl2 co2 fi2, MT w g n (fun d' _ _ => d' < d + 1) bl2 co2 fi2 ∧ fMD_lays_23 s k6 m (nI d) (nI c + (-1)) bl co fi W = k6 (nI (d + 1)) bl2 co2 fi2 W := by
  obtain ⟨hn, hs0, hw, hs5, ⟨_, hg0⟩, hg1, hg2, hg3, hg4, hW⟩ := id hM
  intro c
  induction c with
  | zero =>
    intro m bl co fi h1 h2 h3
    obtain ⟨m, rfl⟩ : ∃ q, m = q + 1 := ⟨m - 1, by omega⟩
    refine ⟨bl, co, fi, fun d' f' t' a1 a2 a3 a4 => h3 d' f' t' a1 a2 a3 (by omega), ?_⟩
    rw [fMD_lays_23, if_pos (by decide), nI_1]
  | succ c ih =>
    intro m bl co fi h1 h2 h3
    obtain ⟨m, rfl⟩ : ∃ q, m = q + 1 := ⟨m - 1, by omega⟩
    obtain ⟨bl1, co1, fi1, x1, x2⟩ := pMD_lays43 (f := c) hM hd (by omega) k6 (fMD_lays_23 s k6 m) (n - c) (c + 1) FU bl (upd co (625 * d + 25 * c + c) (nI 0)) fi (by omega) (by show _ < 1000000; omega) (by omega) (by
      intro d' f' t' a1 a2 a3 a4
      by_cases e : d' = d ∧ f' = c ∧ t' = c
      · obtain ⟨rfl, rfl, rfl⟩ := e
        exact ⟨by rw [pk_us, cst_0 (Nat.le_refl _)], fun z => by omega⟩
      · have hne : 625 * d' + 25 * f' + t' ≠ 625 * d + 25 * c + c := by omega
        rw [pk_un hne]
        exact h3 d' f' t' a1 a2 a3 (by omega))
    obtain ⟨bl2, co2, fi2, y1, y2⟩ := ih m bl1 co1 fi1 (by omega) (by omega) x1
    refine ⟨bl2, co2, fi2, y1, ?_⟩
    rw [fMD_lays_23, nI_m1 (by omega), Nat.add_sub_cancel, if_neg (nI_pos (by omega)), pPart, Option.bind_some, if_pos (bIn_nI (by omega) (by omega)), wr_nI (by omega), li0, li1, nI_add]
    exact x2.trans y2
theorem pMD_lays6 {w g : Nat → Nat} {n : Nat} {s W : Nat → Int32} (hM : MOK w g n s W) : ∀ (k d m : Nat) (bl co fi : Nat → Int32), d + k = g 4 + 1 → k < m → MT w g n (fun d' _ _ => d' < d) bl co fi → ∃ bl2 co2 fi2, MT w g n (fun _ _ _ => True) bl2 co2 fi2 ∧ fMD_lays_6 s m (nI d) bl co fi W = some (bl2, co2, fi2, W) := by
  obtain ⟨hn, hs0, hw, hs5, ⟨_, hg0⟩, hg1, hg2, hg3, hg4, hW⟩ := id hM
  have s5 : s 5 = nI (g 4) := hs5 4 (by omega)
  intro k
  induction k with
  | zero =>
    intro d m bl co fi h1 h2 h3
    obtain ⟨m, rfl⟩ : ∃ q, m = q + 1 := ⟨m - 1, by omega⟩
    refine ⟨bl, co, fi, fun d' f' t' a1 a2 a3 a4 => h3 d' f' t' a1 a2 a3 (by omega), ?_⟩
    rw [fMD_lays_6, li5, rd_nI (by omega), s5, if_pos (nI_lt (by omega) (by omega))]
  | succ k ih =>
    intro d m bl co fi h1 h2 h3
    obtain ⟨m, rfl⟩ : ∃ q, m = q + 1 := ⟨m - 1, by omega⟩
    obtain ⟨bl1, co1, fi1, x1, x2⟩ := pMD_lays23 hM (show d ≤ g 4 by omega) (fMD_lays_6 s m) (n + 1) FU bl co fi (Nat.le_refl _) (by show _ < 1000000; omega) (by
      intro d' f' t' a1 a2 a3 a4
      exact h3 d' f' t' a1 a2 a3 (by omega))
    obtain ⟨bl2, co2, fi2, y1, y2⟩ := ih (d + 1) m bl1 co1 fi1 (by omega) (by omega) x1
    refine ⟨bl2, co2, fi2, y1, ?_⟩
    rw [fMD_lays_6, li5, rd_nI (by omega), s5, if_neg (nI_nlt (by omega) (by omega)), li0, rd_nI (by omega), hs0]
    rw [nI_m1 (by omega), Nat.add_sub_cancel] at x2
    exact x2.trans y2
theorem MOK_of {w g : Nat → Nat} {n : Nat} {L S s W : Nat → Int32} (h : StOK n w g (nI n) L S) (h2 : MdOK n w g s 0) (hW : WD w n (fun _ _ _ => True) W) : MOK w g n s W := by
  obtain ⟨_, hn, hw, hS5, hg0, hg1, hg2, hg3, hg4⟩ := h
  obtain ⟨m1, m2, m3⟩ := h2
  refine ⟨hn, m1, fun i hi => ⟨(hw i hi).1, ?_⟩, fun k hk => ?_, hg0, hg1, hg2, hg3, hg4, hW⟩
  · have := m3 i hi; rw [Nat.zero_add] at this; exact this
  · have := m2 k hk; rw [Nat.zero_add] at this; exact this
/-- lays -/
theorem pMD_lays {w g : Nat → Nat} {n : Nat} {L S s : Nat → Int32} (h : StOK n w g (nI n) L S) (h2 : MdOK n w g s 0) (bl co fi W : Nat → Int32) : ∃ bl2 co2 fi2 W2, MT w g n (fun _ _ _ => True) bl2 co2 fi2 ∧ fMD_lays s bl co fi W = some (bl2, co2, fi2, W2) := by
  obtain ⟨_, hn, hw, hS5, hg0, hg1, hg2, hg3, hg4⟩ := id h
  obtain ⟨m1, m2, m3⟩ := id h2
  obtain ⟨W2, hW, e1⟩ := pMD_corrects (w := w) (s := s) hn m1 (fun i hi => ⟨(hw i hi).1, by have := m3 i hi; rw [Nat.zero_add] at this; exact this⟩) W
  have hM := MOK_of h h2 hW
  obtain ⟨bl2, co2, fi2, y1, y2⟩ := pMD_lays6 hM (g 4 + 1) 0 FU bl co fi (by omega) (by show _ < 1000000; omega) (fun d' f' t' a1 a2 a3 a4 => by omega)
  refine ⟨bl2, co2, fi2, W2, y1, ?_⟩
  rw [fMD_lays, e1, Option.bind_some, li0]
  exact y2
/-- costs -/
theorem pMD_costs {w g : Nat → Nat} {n : Nat} {L S s : Nat → Int32} (h : StOK n w g (nI n) L S) (h2 : MdOK n w g s 0) (bl co fi W : Nat → Int32) : ∃ bl2 co2 fi2 W2, fMD_costs s bl co fi W = some (nI (cst w g (g 4) 0 n), bl2, co2, fi2, W2) := by
  obtain ⟨_, hn, hw, hS5, hg0, hg1, hg2, hg3, hg4⟩ := id h
  obtain ⟨bl2, co2, fi2, W2, y1, y2⟩ := pMD_lays h h2 bl co fi W
  obtain ⟨m1, m2, m3⟩ := id h2
  have s5 : s 5 = nI (g 4) := m2 4 (by omega)
  have z := (y1 (g 4) 0 n (Nat.le_refl _) (by omega) (Nat.le_refl _) trivial).1
  refine ⟨bl2, co2, fi2, W2, ?_⟩
  rw [fMD_costs, y2, Option.bind_some, li5, li0, rd_nI (by omega), rd_nI (by omega), s5, m1, pPart, Option.bind_some, if_pos (bIn_nI (by omega) (by omega)), rd_nI (by omega)]
  dsimp only
  rw [z]
