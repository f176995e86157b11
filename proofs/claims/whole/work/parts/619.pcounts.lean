/-! the model's numbers -/
theorem rbl_stop {w : Nat → Nat} {M n f b k j i : Nat} (h : M < wrg w f b j) (hi : j ≤ i) : rbl w M n f b k i = [] := by
  cases k with
  | zero => rfl
  | succ k =>
    have := wrg_mono (w := w) (f := f) (b := b) hi
    rw [rbl, if_neg (fun z => by have := z.2; omega)]
theorem pMD_counts35 {w g : Nat → Nat} {n d f t b : Nat} {s W : Nat → Int32} {my : Nat → Int64} (hM : MOK w g n s W) (hd : 0 < d) (hd4 : d ≤ 4) (ht : t ≤ n) (hft : f < t) (hb : 1 ≤ b) (hfb : f + 2 * b ≤ t) (hc1 : my (625 * (d - 1) + 25 * f + (f + b)) = cnt w g (d - 1) f (f + b)) (hc2 : ∀ e, f < e → e ≤ t → my (625 * d + 25 * e + t) = cnt w g d e t) (k18 : Int64 → Int32 → (Nat → Int64) → Option (Nat → Int64)) : ∀ (k j m : Nat) (x : Int64), j + k = 25 → k < m → 1 ≤ j → fMD_counts_35 s W (nI d) (nI f) (nI t) k18 m x (nI b) (nI (j + 1)) my = k18 (x + sL ((rbl w (g 3) t f b k j).map (fun q => cnt w g (d - 1) f (f + q.1) * cnt w g d q.2.1 t))) (nI (b + 1)) my := by
  obtain ⟨hn, hs0, hw, hs5, ⟨_, hg0⟩, hg1, hg2, hg3, hg4, hW⟩ := id hM
  have s4 : s 4 = nI (g 3) := hs5 3 (by omega)
  intro k
  induction k with
  | zero =>
    intro j m x h1 h2 h3
    obtain ⟨m, rfl⟩ : ∃ q, m = q + 1 := ⟨m - 1, by omega⟩
    have h4 : (j + 1) * 1 ≤ (j + 1) * b := Nat.mul_le_mul_left _ hb
    have h5 : (j + 1) * b ≤ 26 * 24 := Nat.mul_le_mul (by omega) (by omega)
    rw [rbl, List.map_nil, sL, Int64.add_zero, fMD_counts_35, pk_mul, nI_add, if_pos (nI_lt (by omega) (by omega)), nI_1]
  | succ k ih =>
    intro j m x h1 h2 h3
    obtain ⟨m, rfl⟩ : ∃ q, m = q + 1 := ⟨m - 1, by omega⟩
    have h5 : (j + 1) * b ≤ 26 * 24 := Nat.mul_le_mul (by omega) (by omega)
    by_cases c : t < f + (j + 1) * b
    · rw [rbl_nil c, List.map_nil, sL, Int64.add_zero, fMD_counts_35, pk_mul, nI_add, if_pos (nI_lt c (by omega)), nI_1]
    · have h7 := hW f b (j + 1) hb (by omega) (by omega) trivial
      rw [Nat.add_sub_cancel] at h7
      have h8 := wrg_le (w := w) (f := f) (b := b) j
      have h9 : j * b ≤ (j + 1) * b := Nat.mul_le_mul_right _ (by omega)
      have h10 : (j + 1) * 1 ≤ (j + 1) * b := Nat.mul_le_mul_left _ hb
      have h11 : 2 * b ≤ (j + 1) * b := Nat.mul_le_mul_right _ (by omega)
      have ihx := ih (j + 1) m
      have hfe := hc2 (f + (j + 1) * b) (by omega) (by omega)
      rw [fMD_counts_35, pk_mul, nI_add]
      rw [rbl]
      obtain ⟨e, he⟩ : ∃ e, e = (j + 1) * b := ⟨_, rfl⟩
      obtain ⟨y, hy⟩ : ∃ y, y = wrg w f b j := ⟨_, rfl⟩
      rw [← he] at h5 c h9 h10 h11 hfe ⊢
      rw [← hy] at h7 h8 ⊢
      rw [if_neg (nI_nlt (by omega) (by omega)), li625, li25, pk_mul, pk_mul, nI_add, nI_add, if_pos (bIn_nI (by omega) (by omega)), rd_nI (by omega), h7, li4, rd_nI (by omega), s4]
      by_cases c2 : y ≤ g 3
      · rw [if_neg (nI_nlt c2 (by omega)), fMD_counts_79, if_neg (by decide), if_pos (show f + e ≤ t ∧ y ≤ g 3 from ⟨by omega, c2⟩), li1, pk_sub (by omega), nI_add, pPart, Option.bind_some, if_pos (bIn_nI (by omega) (by omega)), pk_mul, nI_add, ← he, pPart, Option.bind_some, if_pos (bIn_nI (by omega) (by omega)), rdL_nI (by omega), rdL_nI (by omega), hc1, hfe, nI_add, ihx _ (by omega) (by omega) (by omega), List.map_cons, sL, Int64.add_assoc]
      · rw [if_pos (nI_lt (show g 3 < y by omega) (by omega)), fMD_counts_79, if_pos (show (0 : Int32) = 0 from rfl), if_neg (show ¬ (f + e ≤ t ∧ y ≤ g 3) from fun z => c2 z.2), nI_1, ihx _ (by omega) (by omega) (by omega), rbl_stop (i := j + 1) (j := j) (by omega) (by omega), Int64.add_zero]
theorem pMD_counts18 {w g : Nat → Nat} {n d f t : Nat} {s W : Nat → Int32} {my : Nat → Int64} (hM : MOK w g n s W) (hd4 : d ≤ 4) (ht : t ≤ n) (hft : f < t) (hc1 : 0 < d → ∀ b, 1 ≤ b → f + b ≤ t → my (625 * (d - 1) + 25 * f + (f + b)) = cnt w g (d - 1) f (f + b)) (hc2 : ∀ e, f < e → e ≤ t → my (625 * d + 25 * e + t) = cnt w g d e t) : ∀ (k b m : Nat) (x : Int64), b + k = 25 → k < m → 1 ≤ b → fMD_counts_18 s W (nI d) (nI f) (nI t) m x (nI b) my = some (vp_updL my (625 * d + 25 * f + t) (x + sL (if d = 0 then [] else (rls w (g 3) t f k b).map (fun q => cnt w g (d - 1) f (f + q.1) * cnt w g d q.2.1 t)))) := by
  obtain ⟨hn, hs0, hw, hs5, ⟨_, hg0⟩, hg1, hg2, hg3, hg4, hW⟩ := id hM
  have hend : ∀ x : Int64, fMD_counts_141 (nI d) (nI f) (nI t) x my = some (vp_updL my (625 * d + 25 * f + t) x) := by
    intro x
    rw [fMD_counts_141, pPart, Option.bind_some, if_pos (bIn_nI (by omega) (by omega)), wrL_nI (by omega)]
  intro k
  induction k with
  | zero =>
    intro b m x h1 h2 h3
    obtain ⟨m, rfl⟩ : ∃ q, m = q + 1 := ⟨m - 1, by omega⟩
    have e : (if d = 0 then [] else (rls w (g 3) t f 0 b).map (fun q => cnt w g (d - 1) f (f + q.1) * cnt w g d q.2.1 t)) = [] := by
      by_cases c : d = 0
      · rw [if_pos c]
      · rw [if_neg c]; rfl
    rw [e, sL, Int64.add_zero, fMD_counts_18, li2, pk_mul, nI_add, if_pos (nI_lt (by omega) (by omega)), hend]
  | succ k ih =>
    intro b m x h1 h2 h3
    obtain ⟨m, rfl⟩ : ∃ q, m = q + 1 := ⟨m - 1, by omega⟩
    by_cases c : t < f + 2 * b
    · have e : (if d = 0 then [] else (rls w (g 3) t f (k + 1) b).map (fun q => cnt w g (d - 1) f (f + q.1) * cnt w g d q.2.1 t)) = [] := by
        by_cases c : d = 0
        · rw [if_pos c]
        · rw [if_neg c, rls_nil (k + 1) b (by omega)]; rfl
      rw [e, sL, Int64.add_zero, fMD_counts_18, li2, pk_mul, nI_add, if_pos (nI_lt (by omega) (by omega)), hend]
    · by_cases c2 : d = 0
      · rw [if_pos c2, sL, Int64.add_zero, fMD_counts_18, li2, pk_mul, nI_add, if_neg (nI_nlt (by omega) (by omega)), if_pos (by rw [c2]; decide), hend]
      · rw [fMD_counts_18]
        rw [li2, pk_mul, nI_add, if_neg (nI_nlt (by omega) (by omega)), if_neg (show ¬ nI d ≤ 0 from nI_nle (by omega) (by omega))]
        have h35 := pMD_counts35 hM (show 0 < d by omega) hd4 ht hft h3 (show f + 2 * b ≤ t by omega) (hc1 (by omega) b h3 (by omega)) hc2 (fMD_counts_18 s W (nI d) (nI f) (nI t) m) 24 1 FU x (by omega) (by decide) (Nat.le_refl _)
        refine h35.trans ?_
        rw [ih (b + 1) m _ (by omega) (by omega) (by omega), if_neg c2, if_neg c2, rls, List.map_append, sL_app, Int64.add_assoc]
theorem pMD_counts {w g : Nat → Nat} {n d f t : Nat} {s W : Nat → Int32} {my : Nat → Int64} (hM : MOK w g n s W) (hd4 : d ≤ 4) (ht : t ≤ n) (hft : f < t) (hc1 : 0 < d → ∀ b, 1 ≤ b → f + b ≤ t → my (625 * (d - 1) + 25 * f + (f + b)) = cnt w g (d - 1) f (f + b)) (hc2 : ∀ e, f < e → e ≤ t → my (625 * d + 25 * e + t) = cnt w g d e t) : fMD_counts s W my (nI d) (nI f) (nI t) = some (vp_updL my (625 * d + 25 * f + t) (cnt w g d f t)) := by
  have hn := hM.1
  have h := pMD_counts18 hM hd4 ht hft hc1 hc2 24 1 FU (cnt w g d (f + 1) t) rfl (by decide) (Nat.le_refl _)
  rw [fMD_counts, li1, nI_add, pPart, Option.bind_some, if_pos (bIn_nI (by omega) (by omega)), rdL_nI (by omega), hc2 (f + 1) (by omega) (by omega), h, cnt_s hft (by omega)]
  rfl
def MN (w g : Nat → Nat) (n : Nat) (F : Nat → Nat → Nat → Prop) (my : Nat → Int64) : Prop := ∀ d f t, d ≤ g 4 → f ≤ t → t ≤ n → F d f t → my (625 * d + 25 * f + t) = cnt w g d f t
abbrev FD : Type := Option (Int64 × (Nat → Int64) × (Nat → Int32))
theorem pMD_desc62 {w g : Nat → Nat} {n d f : Nat} {s W : Nat → Int32} (hM : MOK w g n s W) (hd : d ≤ g 4) (hf : f ≤ n) (k19 : Int32 → (Nat → Int64) → (Nat → Int32) → FD) (k37 : Int32 → Int32 → (Nat → Int64) → (Nat → Int32) → FD) : ∀ (k t m : Nat) (my : Nat → Int64), t + k = n + 1 → k < m → f < t → MN w g n (fun d' f' t' => d' < d ∨ (d' = d ∧ (f < f' ∨ (f' = f ∧ t' < t)))) my → ∃ my2, MN w g n (fun d' f' _ => d' < d ∨ (d' = d ∧ f ≤ f')) my2 ∧ fMD_descriptions_62 s k19 k37 m (nI d) (nI f) (nI t) my W = k37 (nI d) (nI f + (-1)) my2 W := by
  obtain ⟨hn, hs0, hw, hs5, ⟨_, hg0⟩, hg1, hg2, hg3, hg4, hW⟩ := id hM
  intro k
  induction k with
  | zero =>
    intro t m my h1 h2 h3 h4
    obtain ⟨m, rfl⟩ : ∃ q, m = q + 1 := ⟨m - 1, by omega⟩
    refine ⟨my, fun d' f' t' a1 a2 a3 a4 => h4 d' f' t' a1 a2 a3 (by omega), ?_⟩
    rw [fMD_descriptions_62, li0, rd_nI (by omega), hs0, if_pos (nI_lt (by omega) (by omega))]
  | succ k ih =>
    intro t m my h1 h2 h3 h4
    obtain ⟨m, rfl⟩ : ∃ q, m = q + 1 := ⟨m - 1, by omega⟩
    have x3 := pMD_counts hM (show d ≤ 4 by omega) (show t ≤ n by omega) h3 (fun h0 b b1 b2 => h4 (d - 1) f (f + b) (by omega) (by omega) (by omega) (by omega)) (fun e e1 e2 => h4 d e t hd e2 (by omega) (by omega))
    obtain ⟨my2, y1, y2⟩ := ih (t + 1) m (vp_updL my (625 * d + 25 * f + t) (cnt w g d f t)) (by omega) (by omega) (by omega) (by
      intro d' f' t' a1 a2 a3 a4
      by_cases c : d' = d ∧ f' = f ∧ t' = t
      · obtain ⟨rfl, rfl, rfl⟩ := c
        exact uL_s
      · have hne : 625 * d' + 25 * f' + t' ≠ 625 * d + 25 * f + t := by omega
        rw [uL_n hne]
        exact h4 d' f' t' a1 a2 a3 (by omega))
    refine ⟨my2, y1, ?_⟩
    rw [fMD_descriptions_62, li0, rd_nI (by omega), hs0, if_neg (nI_nlt (by omega) (by omega)), x3, Option.bind_some, nI_1]
    exact y2
theorem pMD_desc37 {w g : Nat → Nat} {n d : Nat} {s W : Nat → Int32} (hM : MOK w g n s W) (hd : d ≤ g 4) (k19 : Int32 → (Nat → Int64) → (Nat → Int32) → FD) : ∀ (c m : Nat) (my : Nat → Int64), c ≤ n + 1 → c < m → MN w g n (fun d' f' _ => d' < d ∨ (d' = d ∧ c ≤ f')) my → ∃ my2, MN w g n (fun d' _ _ => d' < d + 1) my2 ∧ fMD_descriptions_37 s k19 m (nI d) (nI c + (-1)) my W = k19 (nI (d + 1)) my2 W := by
  obtain ⟨hn, hs0, hw, hs5, ⟨_, hg0⟩, hg1, hg2, hg3, hg4, hW⟩ := id hM
  intro c
  induction c with
  | zero =>
    intro m my h1 h2 h3
    obtain ⟨m, rfl⟩ : ∃ q, m = q + 1 := ⟨m - 1, by omega⟩
    refine ⟨my, fun d' f' t' a1 a2 a3 a4 => h3 d' f' t' a1 a2 a3 (by omega), ?_⟩
    rw [fMD_descriptions_37, if_pos (by decide), nI_1]
  | succ c ih =>
    intro m my h1 h2 h3
    obtain ⟨m, rfl⟩ : ∃ q, m = q + 1 := ⟨m - 1, by omega⟩
    obtain ⟨my1, x1, x2⟩ := pMD_desc62 (f := c) hM hd (by omega) k19 (fMD_descriptions_37 s k19 m) (n - c) (c + 1) FU (vp_updL my (625 * d + 25 * c + c) 1) (by omega) (by show _ < 1000000; omega) (by omega) (by
      intro d' f' t' a1 a2 a3 a4
      by_cases e : d' = d ∧ f' = c ∧ t' = c
      · obtain ⟨rfl, rfl, rfl⟩ := e
        rw [uL_s, cnt_0 (Nat.le_refl _)]
      · have hne : 625 * d' + 25 * f' + t' ≠ 625 * d + 25 * c + c := by omega
        rw [uL_n hne]
        exact h3 d' f' t' a1 a2 a3 (by omega))
    obtain ⟨my2, y1, y2⟩ := ih m my1 (by omega) (by omega) x1
    refine ⟨my2, y1, ?_⟩
    rw [fMD_descriptions_37, nI_m1 (by omega), Nat.add_sub_cancel, if_neg (nI_pos (by omega)), pPart, Option.bind_some, if_pos (bIn_nI (by omega) (by omega)), wrL_nI (by omega), li1, nI_add]
    exact x2.trans y2
theorem pMD_desc19 {w g : Nat → Nat} {n a b : Nat} {s W : Nat → Int32} (hM : MOK w g n s W) (hab : a ≤ b) (hb : b ≤ n) : ∀ (k d m : Nat) (my : Nat → Int64), d + k = g 4 + 1 → k < m → MN w g n (fun d' _ _ => d' < d) my → ∃ my2, fMD_descriptions_19 s (nI a) (nI b) m (nI d) my W = some (cnt w g (g 4) a b, my2, W) := by
  obtain ⟨hn, hs0, hw, hs5, ⟨_, hg0⟩, hg1, hg2, hg3, hg4, hW⟩ := id hM
  have s5 : s 5 = nI (g 4) := hs5 4 (by omega)
  intro k
  induction k with
  | zero =>
    intro d m my h1 h2 h3
    obtain ⟨m, rfl⟩ : ∃ q, m = q + 1 := ⟨m - 1, by omega⟩
    refine ⟨my, ?_⟩
    rw [fMD_descriptions_19, li5, rd_nI (by omega), s5, if_pos (nI_lt (by omega) (by omega)), pPart, Option.bind_some, if_pos (bIn_nI (by omega) (by omega)), rdL_nI (by omega), h3 (g 4) a b (Nat.le_refl _) hab hb (by omega)]
  | succ k ih =>
    intro d m my h1 h2 h3
    obtain ⟨m, rfl⟩ : ∃ q, m = q + 1 := ⟨m - 1, by omega⟩
    obtain ⟨my1, x1, x2⟩ := pMD_desc37 hM (show d ≤ g 4 by omega) (fMD_descriptions_19 s (nI a) (nI b) m) (n + 1) FU my (Nat.le_refl _) (by show _ < 1000000; omega) (by
      intro d' f' t' a1 a2 a3 a4
      exact h3 d' f' t' a1 a2 a3 (by omega))
    obtain ⟨my2, y1⟩ := ih (d + 1) m my1 (by omega) (by omega) x1
    refine ⟨my2, ?_⟩
    rw [fMD_descriptions_19, li5, rd_nI (by omega), s5, if_neg (nI_nlt (by omega) (by omega)), li0, rd_nI (by omega), hs0]
    rw [nI_m1 (by omega), Nat.add_sub_cancel] at x2
    exact x2.trans y1
/-- descriptions, of a part that the row has -/
theorem pMD_descriptions {w g : Nat → Nat} {n a b : Nat} {L S s : Nat → Int32} (h : StOK n w g (nI n) L S) (h2 : MdOK n w g s 0) (hab : a < b) (hb : b ≤ n) (hp : fMD_isPart s (nI a) (nI b) = some (nI 1)) (my : Nat → Int64) (W : Nat → Int32) : ∃ my2 W2, fMD_descriptions s my W (nI a) (nI b) = some (cnt w g (g 4) a b, my2, W2) := by
  obtain ⟨_, hn, hw, hS5, hg0, hg1, hg2, hg3, hg4⟩ := id h
  obtain ⟨m1, m2, m3⟩ := id h2
  obtain ⟨W2, hW, e1⟩ := pMD_corrects (w := w) (s := s) hn m1 (fun i hi => ⟨(hw i hi).1, by have := m3 i hi; rw [Nat.zero_add] at this; exact this⟩) W
  have hM := MOK_of h h2 hW
  obtain ⟨my2, y1⟩ := pMD_desc19 hM (show a ≤ b by omega) hb (g 4 + 1) 0 FU my (by omega) (by show _ < 1000000; omega) (fun d' f' t' a1 a2 a3 a4 => by omega)
  refine ⟨my2, W2, ?_⟩
  rw [fMD_descriptions, hp, Option.bind_some, if_neg (by decide), e1, Option.bind_some, li0]
  exact y1
