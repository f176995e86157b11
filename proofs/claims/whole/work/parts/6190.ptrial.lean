/-! what a change of a letter would save -/
theorem ge4 {a : Nat} (h : a < 4) : ¬ (4 : Int32) ≤ nI a := nI_ge (b := 4) h (by decide)
def cw (L : Nat → Int32) : Nat → Nat := fun i => (L i).toNatClampNeg
theorem St_can {n : Nat} {w g : Nat → Nat} {z : Int32} {L S s : Nat → Int32} {o : Nat} (h : StOK n w g z L S) (h2 : MdOK n w g s o) : StOK n (cw L) (cw S) z L S ∧ MdOK n (cw L) (cw S) s o := by
  obtain ⟨hz, hn, hw, hS5, hg0, hg1, hg2, hg3, hg4⟩ := h
  obtain ⟨m1, m2, m3⟩ := h2
  have eg : ∀ k, k < 5 → cw S k = g k := fun k hk => by
    unfold cw
    rw [hS5 k hk]
    refine nI_clamp ?_
    rcases (show k = 0 ∨ k = 1 ∨ k = 2 ∨ k = 3 ∨ k = 4 by omega) with rfl | rfl | rfl | rfl | rfl <;> omega
  have ew : ∀ i, i < n → cw L i = w i := fun i hi => by
    unfold cw
    rw [(hw i hi).2]
    exact nI_clamp (by have := (hw i hi).1; omega)
  refine ⟨⟨hz, hn, fun i hi => by rw [ew i hi]; exact hw i hi, fun k hk => by rw [eg k hk]; exact hS5 k hk, ?_⟩, m1, fun k hk => by rw [eg k hk]; exact m2 k hk, fun i hi => by rw [ew i hi]; exact m3 i hi⟩
  rw [eg 0 (by omega), eg 1 (by omega), eg 2 (by omega), eg 3 (by omega), eg 4 (by omega)]
  exact ⟨hg0, hg1, hg2, hg3, hg4⟩
theorem SS_can {z : Int32} {L S s : Nat → Int32} {o : Nat} (h : SS z L S s o) : ∃ n, z = nI n ∧ n ≤ 24 ∧ StOK n (cw L) (cw S) (nI n) L S ∧ MdOK n (cw L) (cw S) s o := by
  obtain ⟨n, w, g, h1, h2⟩ := h
  obtain ⟨h3, h4⟩ := St_can h1 h2
  have hz := h3.1
  have hn := h3.2.1
  refine ⟨n, hz, hn, ?_, h4⟩
  rw [← hz]
  exact h3
def wch (w : Nat → Nat) (p a : Nat) : Nat → Nat := fun i => if i = p then a else w i
def prc (w g : Nat → Nat) (n p a : Nat) : Nat := cst (wch w p a) g (g 4) 0 n
def bst (w g : Nat → Nat) (n : Nat) : Nat → Option Nat × Nat
  | 0 => (none, cst w g (g 4) 0 n)
  | k + 1 => if prc w g n (k / 4) (k % 4) < (bst w g n k).2 then (some k, prc w g n (k / 4) (k % 4)) else bst w g n k
theorem bst_le {w g : Nat → Nat} {n : Nat} : ∀ k, (bst w g n k).2 ≤ cst w g (g 4) 0 n := by
  intro k
  induction k with
  | zero => exact Nat.le_refl _
  | succ k ih =>
    rw [bst]
    by_cases c : prc w g n (k / 4) (k % 4) < (bst w g n k).2
    · rw [if_pos c]; exact Nat.le_trans (Nat.le_of_lt c) ih
    · rw [if_neg c]; exact ih
theorem bst_lt {w g : Nat → Nat} {n i : Nat} : ∀ k, (bst w g n k).1 = some i → i < k := by
  intro k
  induction k with
  | zero => intro h; simp [bst] at h
  | succ k ih =>
    rw [bst]
    by_cases c : prc w g n (k / 4) (k % 4) < (bst w g n k).2
    · rw [if_pos c]; intro h; cases h; omega
    · rw [if_neg c]; intro h; have := ih h; omega
theorem prc_same {w g : Nat → Nat} {n p : Nat} (hn : n ≤ 24) : prc w g n p (w p) = cst w g (g 4) 0 n := cst_cong hn (fun i _ _ => by
  unfold wch
  by_cases c : i = p
  · rw [if_pos c, c]
  · rw [if_neg c])
theorem bst_1 {w g : Nat → Nat} {n p a : Nat} (ha : a < 4) : bst w g n (4 * p + a + 1) = if prc w g n p a < (bst w g n (4 * p + a)).2 then (some (4 * p + a), prc w g n p a) else bst w g n (4 * p + a) := by
  rw [bst, show (4 * p + a) / 4 = p by omega, show (4 * p + a) % 4 = a by omega]
/-- what the class holds of the best change -/
def TrO (o : Option Nat) (fo bp bl : Int32) : Prop := (o = none → fo = 0) ∧ ∀ k, o = some k → fo = 1 ∧ bp = nI (k / 4) ∧ bl = nI (k % 4)
theorem StOK_ch {n p a : Nat} {w g v : Nat → Nat} {L S : Nat → Int32} (h : StOK n v g (nI n) L S) (hv : ∀ i, i < n → i ≠ p → v i = w i) (ha : a < 4) : StOK n (wch w p a) g (nI n) (upd L p (nI a)) S := by
  obtain ⟨hz, hn, hw, hS5, hg⟩ := h
  refine ⟨hz, hn, fun i hi => ?_, hS5, hg⟩
  unfold wch
  by_cases c : i = p
  · rw [if_pos c, c, pk_us]; exact ⟨ha, rfl⟩
  · rw [if_neg c, pk_un c, ← hv i hi c]; exact hw i hi
theorem TD_ch {w g : Nat → Nat} {n D p a : Nat} {tb : Nat → Int32} (hn : n ≤ 24) (h : TD w g n D 1 (fun _ f _ => p + 1 ≤ f) tb) : TD (wch w p a) g n D 1 (fun _ f _ => p + 1 ≤ f) tb := by
  intro d f t h1 h2
  rw [h d f t h1 h2]
  congr 1
  rcases h2 with h2 | h2
  · rw [cst_0 (by omega), cst_0 (by omega)]
  · have := h1.2.2.1
    refine cst_cong (by omega) (fun i h3 h4 => ?_)
    unfold wch
    rw [if_neg (by omega)]
theorem TD_back {w g : Nat → Nat} {n D p a : Nat} {tb : Nat → Int32} (hn : n ≤ 24) (h : TD (wch w p a) g n D 1 (fun _ _ _ => True) tb) : TD w g n D 1 (fun _ f _ => p + 1 ≤ f) tb := by
  intro d f t h1 h2
  rw [h d f t h1 (Or.inr trivial)]
  congr 1
  rcases h2 with h2 | h2
  · rw [cst_0 (by omega), cst_0 (by omega)]
  · have := h1.2.2.1
    refine cst_cong (by omega) (fun i h3 h4 => ?_)
    unfold wch
    rw [if_neg (by omega)]
abbrev TRo : Type := Option (Int32 × Int32 × Int32 × Int32 × Int32 × (Nat → Int32) × Int32 × Int32 × Int32 × Int32 × Int32 × (Nat → Int32) × (Nat → Int32) × (Nat → Int32) × (Nat → Int32) × (Nat → Int32) × (Nat → Int32) × Int32 × (Nat → Int32) × (Nat → Int32))
abbrev TK64 : Type := Int32 → Int32 → Int32 → Int32 → Int32 → Int32 → (Nat → Int32) → Int32 → Int32 → Int32 → Int32 → Int32 → (Nat → Int32) → (Nat → Int32) → (Nat → Int32) → (Nat → Int32) → (Nat → Int32) → (Nat → Int32) → Int32 → (Nat → Int32) → (Nat → Int32) → TRo
theorem cst_small {w g : Nat → Nat} {n : Nat} (hn : n ≤ 24) (hg : g 0 ≤ 9) : cst w g (g 4) 0 n < 1000 := by
  have := cst_lt (w := w) (g := g) (d := g 4) (f := 0) hn hg
  omega
set_option maxHeartbeats 1000000 in
theorem pTr_87 {w g : Nat → Nat} {n p : Nat} {S : Nat → Int32} (hp : p < n) (hwp : w p < 4) (K : TK64) (fr : Int32) : ∀ (q a m : Nat) (fo bp bl : Int32) (I : Nat → Int32) (z1 z2 z3 z4 z5 : Int32) (B E P T U tb L : Nat → Int32) (v : Nat → Nat), a + q = 4 → q < m → StOK n v g (nI n) L S → (∀ i, i < n → i ≠ p → v i = w i) → TrO (bst w g n (4 * p + a)).1 fo bp bl → ZD tb → TD w g n (g 4) 1 (fun _ f _ => p + 1 ≤ f) tb → ∃ fo' bp' bl' I' z1' z2' z3' z4' z5' B' E' P' T' U' tb' L', StOK n w g (nI n) L' S ∧ TrO (bst w g n (4 * (p + 1))).1 fo' bp' bl' ∧ ZD tb' ∧ TD w g n (g 4) 1 (fun _ f _ => p + 1 ≤ f) tb' ∧ fTr_refresh_87 K m (nI p) (nI (w p)) (nI a) fr fo bp bl (nI (bst w g n (4 * p + a)).2) I z1 z2 z3 z4 z5 B E P T U tb (nI n) L S = K (nI (p + 1)) fr fo' bp' bl' (nI (bst w g n (4 * (p + 1))).2) I' z1' z2' z3' z4' z5' B' E' P' T' U' tb' (nI n) L' S := by
  intro q
  induction q with
  | zero =>
    intro a m fo bp bl I z1 z2 z3 z4 z5 B E P T U tb L v h1 h2 h3 h4 h5 h6 h7
    obtain ⟨m, rfl⟩ : ∃ q, m = q + 1 := ⟨m - 1, by omega⟩
    have : a = 4 := by omega
    subst this
    have hn := h3.2.1
    refine ⟨fo, bp, bl, I, z1, z2, z3, z4, z5, B, E, P, T, U, tb, upd L p (nI (w p)), ?_, h5, h6, h7, ?_⟩
    · obtain ⟨hz, hn, hw, hS5, hg⟩ := h3
      refine ⟨hz, hn, fun i hi => ?_, hS5, hg⟩
      by_cases c : i = p
      · rw [c, pk_us]; exact ⟨hwp, rfl⟩
      · rw [pk_un c, ← h4 i hi c]; exact hw i hi
    · rw [fTr_refresh_87, if_pos (by decide), pSt_putLetter hn hp, Option.bind_some, li1, nI_add]
      rfl
  | succ q ih =>
    intro a m fo bp bl I z1 z2 z3 z4 z5 B E P T U tb L v h1 h2 h3 h4 h5 h6 h7
    obtain ⟨m, rfl⟩ : ∃ q, m = q + 1 := ⟨m - 1, by omega⟩
    have hn := h3.2.1
    have hg0 : g 0 ≤ 9 := h3.2.2.2.2.1.2
    have hb1 := bst_1 (w := w) (g := g) (n := n) (p := p) (a := a) (by omega)
    have hble := bst_le (w := w) (g := g) (n := n) (4 * p + a)
    have hsm := cst_small (w := w) hn hg0
    by_cases c : a = w p
    · have e : bst w g n (4 * p + (a + 1)) = bst w g n (4 * p + a) := by
        rw [← Nat.add_assoc, hb1, if_neg]
        rw [c, prc_same hn, ← c]
        omega
      have hh := ih (a + 1) m fo bp bl I z1 z2 z3 z4 z5 B E P T U tb L v (by omega) (by omega) h3 h4 (by rw [e]; exact h5) h6 h7
      rw [e] at hh
      rw [fTr_refresh_87, if_neg (ge4 (show a < 4 by omega)), if_pos (by rw [c]), li1, nI_add]
      exact hh
    · have hS' := StOK_ch h3 h4 (show a < 4 by omega)
      obtain ⟨z5', B', E', P', T', U', I', tb', f1, f2, f3⟩ := pPr_fill (c := p + 1) hS' (Nat.le_refl 1) (by omega) h6 (TD_ch hn h7) I z5 B E P T U
      rw [nI_m1 (by omega), Nat.add_sub_cancel] at f3
      have f4 := pPr_rowPrice hS' f2
      have hpsm : prc w g n p a < 1000 := cst_small (w := wch w p a) hn hg0
      have f4' : fPr_rowPrice tb' (nI n) S = some (nI (prc w g n p a)) := f4
      have f3' : fPr_fill (nI n) (upd L p (nI a)) S I z5 B E P T U tb (nI p) (1 : Int32) = some (I', nI n, nI (g 1), nI (g 2), nI (g 3), z5', B', E', P', T', U', tb') := f3
      have hc1 : ¬ (4 : Int32) ≤ nI a := ge4 (show a < 4 by omega)
      have hc2 : ¬ nI a = nI (w p) := by rw [nI_eq (by omega) (by omega)]; exact c
      have hstep : ∀ fo' bp' bl' x', fTr_take fo bp bl (nI (bst w g n (4 * p + a)).2) (nI p) (nI a) (nI (prc w g n p a)) = some (fo', bp', bl', x') → fTr_refresh_87 K (m + 1) (nI p) (nI (w p)) (nI a) fr fo bp bl (nI (bst w g n (4 * p + a)).2) I z1 z2 z3 z4 z5 B E P T U tb (nI n) L S = fTr_refresh_87 K m (nI p) (nI (w p)) (nI (a + 1)) fr fo' bp' bl' x' I' (nI n) (nI (g 1)) (nI (g 2)) (nI (g 3)) z5' B' E' P' T' U' tb' (nI n) (upd L p (nI a)) S := by
        intro fo' bp' bl' x' ht
        rw [fTr_refresh_87, if_neg hc1, if_neg hc2, pSt_putLetter hn hp, Option.bind_some, f3', Option.bind_some]
        dsimp only
        rw [f4', Option.bind_some, ht, Option.bind_some]
        dsimp only
        rw [nI_1]
      have hv' : ∀ i, i < n → i ≠ p → wch w p a i = w i := fun i _ hi => if_neg hi
      have f2' := TD_back hn f2
      by_cases c3 : prc w g n p a < (bst w g n (4 * p + a)).2
      · have e : bst w g n (4 * p + (a + 1)) = (some (4 * p + a), prc w g n p a) := by rw [← Nat.add_assoc, hb1, if_pos c3]
        have ht : fTr_take fo bp bl (nI (bst w g n (4 * p + a)).2) (nI p) (nI a) (nI (prc w g n p a)) = some (1, nI p, nI a, nI (prc w g n p a)) := by
          rw [fTr_take, if_neg (nI_ge c3 (by omega))]
        have hh := ih (a + 1) m 1 (nI p) (nI a) I' (nI n) (nI (g 1)) (nI (g 2)) (nI (g 3)) z5' B' E' P' T' U' tb' (upd L p (nI a)) (wch w p a) (by omega) (by omega) hS' hv' (by
          rw [e]
          refine ⟨fun z => by simp at z, fun k hk => ?_⟩
          cases hk
          exact ⟨rfl, by rw [show (4 * p + a) / 4 = p by omega], by rw [show (4 * p + a) % 4 = a by omega]⟩) f1 f2'
        rw [e] at hh
        obtain ⟨fo', bp', bl', I2, y1, y2, y3, y4, y5, B2, E2, P2, T2, U2, tb2, L2, k1, k2, k3, k4, k5⟩ := hh
        exact ⟨fo', bp', bl', I2, y1, y2, y3, y4, y5, B2, E2, P2, T2, U2, tb2, L2, k1, k2, k3, k4, (hstep _ _ _ _ ht).trans k5⟩
      · have e : bst w g n (4 * p + (a + 1)) = bst w g n (4 * p + a) := by rw [← Nat.add_assoc, hb1, if_neg c3]
        have ht : fTr_take fo bp bl (nI (bst w g n (4 * p + a)).2) (nI p) (nI a) (nI (prc w g n p a)) = some (fo, bp, bl, nI (bst w g n (4 * p + a)).2) := by
          rw [fTr_take, if_pos (nI_le (by omega) (by omega))]
        have hh := ih (a + 1) m fo bp bl I' (nI n) (nI (g 1)) (nI (g 2)) (nI (g 3)) z5' B' E' P' T' U' tb' (upd L p (nI a)) (wch w p a) (by omega) (by omega) hS' hv' (by rw [e]; exact h5) f1 f2'
        rw [e] at hh
        obtain ⟨fo', bp', bl', I2, y1, y2, y3, y4, y5, B2, E2, P2, T2, U2, tb2, L2, k1, k2, k3, k4, k5⟩ := hh
        exact ⟨fo', bp', bl', I2, y1, y2, y3, y4, y5, B2, E2, P2, T2, U2, tb2, L2, k1, k2, k3, k4, (hstep _ _ _ _ ht).trans k5⟩
theorem TD_mono {w g : Nat → Nat} {n D wo : Nat} {F F2 : Nat → Nat → Nat → Prop} {tb : Nat → Int32} (h : TD w g n D wo F tb) (hF : ∀ d f t, F2 d f t → F d f t) : TD w g n D wo F2 tb := fun d f t h1 h2 => h d f t h1 (h2.elim Or.inl (fun z => Or.inr (hF d f t z)))
set_option maxHeartbeats 1000000 in
theorem pTr_64 {w g : Nat → Nat} {n : Nat} {S : Nat → Int32} (fr : Int32) : ∀ (q p m : Nat) (fo bp bl : Int32) (I : Nat → Int32) (z1 z2 z3 z4 z5 : Int32) (B E P T U tb L : Nat → Int32), p + q = n → q < m → StOK n w g (nI n) L S → TrO (bst w g n (4 * p)).1 fo bp bl → ZD tb → TD w g n (g 4) 1 (fun _ f _ => p ≤ f) tb → ∃ fo' bp' bl' I' z1' z2' z3' z4' z5' B' E' P' T' U' tb' L', TrO (bst w g n (4 * n)).1 fo' bp' bl' ∧ ZD tb' ∧ fTr_refresh_64 m (nI p) fr fo bp bl (nI (bst w g n (4 * p)).2) I z1 z2 z3 z4 z5 B E P T U tb (nI n) L S = some (fr, fo', bp', bl', nI (bst w g n (4 * n)).2, I', z1', z2', z3', z4', z5', B', E', P', T', U', tb', nI n, L', S) := by
  intro q
  induction q with
  | zero =>
    intro p m fo bp bl I z1 z2 z3 z4 z5 B E P T U tb L h1 h2 h3 h5 h6 h7
    obtain ⟨m, rfl⟩ : ∃ q, m = q + 1 := ⟨m - 1, by omega⟩
    have : p = n := by omega
    subst this
    have hn := h3.2.1
    refine ⟨fo, bp, bl, I, z1, z2, z3, z4, z5, B, E, P, T, U, tb, L, h5, h6, ?_⟩
    rw [fTr_refresh_64, if_pos (nI_le (Nat.le_refl _) (by omega))]
  | succ q ih =>
    intro p m fo bp bl I z1 z2 z3 z4 z5 B E P T U tb L h1 h2 h3 h5 h6 h7
    obtain ⟨m, rfl⟩ : ∃ q, m = q + 1 := ⟨m - 1, by omega⟩
    have hn := h3.2.1
    obtain ⟨w4, wL⟩ := h3.2.2.1 p (by omega)
    obtain ⟨fo1, bp1, bl1, I1, y1, y2, y3, y4, y5, B1, E1, P1, T1, U1, tb1, L1, k1, k2, k3, k4, k5⟩ := pTr_87 (w := w) (p := p) (show p < n by omega) w4 (fTr_refresh_64 m) fr 4 0 FU fo bp bl I z1 z2 z3 z4 z5 B E P T U tb L w rfl (by decide) h3 (fun _ _ _ => rfl) h5 h6 (TD_mono h7 (fun d f t z => by omega))
    obtain ⟨fo', bp', bl', I2, x1, x2, x3, x4, x5, B2, E2, P2, T2, U2, tb2, L2, j1, j2, j3⟩ := ih (p + 1) m fo1 bp1 bl1 I1 y1 y2 y3 y4 y5 B1 E1 P1 T1 U1 tb1 L1 (by omega) (by omega) k1 k2 k3 k4
    refine ⟨fo', bp', bl', I2, x1, x2, x3, x4, x5, B2, E2, P2, T2, U2, tb2, L2, j1, j2, ?_⟩
    rw [fTr_refresh_64, if_neg (nI_ge (by omega) (by omega)), pSt_letter_in hn (by omega), Option.bind_some, wL, li0]
    exact k5.trans j3
theorem StOK_copy {n : Nat} {w g : Nat → Nat} {L S V T : Nat → Int32} (h : StOK n w g (nI n) L S) : StOK n w g (nI n) (fl L V 24) (fl S T 5) := by
  obtain ⟨hz, hn, hw, hS5, hg⟩ := h
  exact ⟨hz, hn, fun i hi => by rw [fl_in (by omega)]; exact hw i hi, fun k hk => by rw [fl_in hk]; exact hS5 k hk, hg⟩
set_option maxHeartbeats 1000000 in
/-- the class's trial, anew -/
theorem pTr_refresh {w g : Nat → Nat} {n : Nat} {L S : Nat → Int32} (h : StOK n w g (nI n) L S) (fo bp bl bpr : Int32) (I : Nat → Int32) (z1 z2 z3 z4 z5 : Int32) (B E P T U : Nat → Int32) {tb : Nat → Int32} (hz : ZD tb) (us : Int32) (V R : Nat → Int32) : ∃ fo' bp' bl' I' z1' z2' z3' z4' z5' B' E' P' T' U' tb' us' V' R', TrO (bst w g n (4 * n)).1 fo' bp' bl' ∧ ZD tb' ∧ fTr_refresh (nI n) L S 0 fo bp bl bpr I z1 z2 z3 z4 z5 B E P T U tb us V R = some (1, fo', bp', bl', nI (bst w g n (4 * n)).2, I', z1', z2', z3', z4', z5', B', E', P', T', U', tb', us', V', R') := by
  have hc := StOK_copy (V := V) (T := R) h
  have hn := h.2.1
  have hg4 : g 4 ≤ 4 := h.2.2.2.2.2.2.2.2
  obtain ⟨z5', B', E', P', T', U', I', tb', f1, f2, f3⟩ := pPr_fill (c := n) hc (Nat.le_refl 1) (Nat.le_refl _) hz (TD_none hg4 hn (Nat.le_refl _) hz) I z5 B E P T U
  have f4 := pPr_rowPrice hc f2
  obtain ⟨fo1, bp1, bl1, I2, x1, x2, x3, x4, x5, B2, E2, P2, T2, U2, tb2, L2, j1, j2, j3⟩ := pTr_64 1 n 0 FU 0 bp bl I' (nI n) (nI (g 1)) (nI (g 2)) (nI (g 3)) z5' B' E' P' T' U' tb' (fl L V 24) (by omega) (by show _ < 1000000; omega) hc ⟨fun _ => rfl, fun k hk => by simp [bst] at hk⟩ f1 (TD_mono f2 (fun _ _ _ _ => trivial))
  refine ⟨fo1, bp1, bl1, I2, x1, x2, x3, x4, x5, B2, E2, P2, T2, U2, tb2, nI n, L2, fl S R 5, j1, j2, ?_⟩
  have f3' : fPr_fill (nI n) (fl L V 24) (fl S R 5) I z5 B E P T U tb (nI n - (1 : Int32)) (1 : Int32) = some (I', nI n, nI (g 1), nI (g 2), nI (g 3), z5', B', E', P', T', U', tb') := by
    rw [Int32.sub_eq_add_neg]; exact f3
  rw [fTr_refresh, if_pos rfl, pSt_copyFrom, Option.bind_some]
  dsimp only
  rw [f3', Option.bind_some]
  dsimp only
  rw [f4, Option.bind_some]
  exact j3
set_option maxHeartbeats 1000000 in
theorem pTr_priceWith {w g : Nat → Nat} {n p a : Nat} {L S : Nat → Int32} (h : StOK n w g (nI n) L S) (hp : p < n) (ha : a < 4) (I : Nat → Int32) (z5 : Int32) (B E P T U : Nat → Int32) {tb : Nat → Int32} (hz : ZD tb) (us : Int32) (V R : Nat → Int32) : ∃ I' z1' z2' z3' z4' z5' B' E' P' T' U' tb' us' V' R', ZD tb' ∧ fTr_priceWith (nI n) L S I z5 B E P T U tb us V R (nI p) (nI a) = some (nI (prc w g n p a), I', z1', z2', z3', z4', z5', B', E', P', T', U', tb', us', V', R') := by
  have hc := StOK_ch (StOK_copy (V := V) (T := R) h) (fun _ _ _ => rfl) ha (p := p)
  have hn := h.2.1
  have hg4 : g 4 ≤ 4 := h.2.2.2.2.2.2.2.2
  obtain ⟨z5', B', E', P', T', U', I', tb', f1, f2, f3⟩ := pPr_fill (c := n) hc (Nat.le_refl 1) (Nat.le_refl _) hz (TD_none hg4 hn (Nat.le_refl _) hz) I z5 B E P T U
  have f4 := pPr_rowPrice hc f2
  refine ⟨I', nI n, nI (g 1), nI (g 2), nI (g 3), z5', B', E', P', T', U', tb', nI n, upd (fl L V 24) p (nI a), fl S R 5, f1, ?_⟩
  have f3' : fPr_fill (nI n) (upd (fl L V 24) p (nI a)) (fl S R 5) I z5 B E P T U tb (nI n - (1 : Int32)) (1 : Int32) = some (I', nI n, nI (g 1), nI (g 2), nI (g 3), z5', B', E', P', T', U', tb') := by
    rw [Int32.sub_eq_add_neg]; exact f3
  rw [fTr_priceWith, pSt_copyFrom, Option.bind_some]
  dsimp only
  rw [pSt_putLetter hn hp, Option.bind_some, f3', Option.bind_some]
  dsimp only
  rw [f4, Option.bind_some]
  rfl
/-! the model's -/
theorem MdOK_ch {n p a : Nat} {w g : Nat → Nat} {s : Nat → Int32} (h : MdOK n w g s 0) (hp : p < n) : MdOK n (wch w p a) g (upd s (6 + p) (nI a)) 0 := by
  obtain ⟨m1, m2, m3⟩ := h
  refine ⟨by rw [pk_un (by omega)]; exact m1, fun k hk => by rw [pk_un (by omega)]; exact m2 k hk, fun i hi => ?_⟩
  unfold wch
  by_cases c : i = p
  · rw [if_pos c, c, Nat.zero_add, pk_us]
  · rw [if_neg c, pk_un (by omega)]; exact m3 i hi
theorem StOK_w {n p a : Nat} {w g : Nat → Nat} {L S : Nat → Int32} (h : StOK n w g (nI n) L S) (ha : a < 4) : StOK n (wch w p a) g (nI n) (upd L p (nI a)) S := StOK_ch h (fun _ _ _ => rfl) ha
theorem upd_back {s : Nat → Int32} {i : Nat} {x : Int32} : upd (upd s i x) i (s i) = s := by
  funext k
  unfold upd
  by_cases c : k = i
  · rw [if_pos c, c]
  · rw [if_neg c, if_neg c]
theorem pMD_costsWith {w g : Nat → Nat} {n p a : Nat} {L S s : Nat → Int32} (h : StOK n w g (nI n) L S) (h2 : MdOK n w g s 0) (hp : p < n) (ha : a < 4) (bl co fi W : Nat → Int32) : ∃ bl2 co2 fi2 W2, fMD_costsWith bl co fi s W (nI p) (nI a) = some (nI (prc w g n p a), bl2, co2, fi2, s, W2) := by
  have hn := h.2.1
  obtain ⟨bl2, co2, fi2, W2, e⟩ := pMD_costs (StOK_w (p := p) h ha) (MdOK_ch h2 hp (a := a)) bl co fi W
  refine ⟨bl2, co2, fi2, W2, ?_⟩
  rw [fMD_costsWith, li6, nI_add, if_pos (bIn_nI (by omega) (by omega)), if_pos (bIn_nI (by omega) (by omega)), wr_nI (by omega), e, Option.bind_some, if_pos (bIn_nI (by omega) (by omega))]
  dsimp only
  rw [wr_nI (by omega), rd_nI (by omega), upd_back]
  rfl
/-- the code of what is found -/
def foI (o : Option Nat) : Int32 := match o with | none => -1000004 | some k => nI k
abbrev F6 : Type := Option (Int32 × (Nat → Int32) × (Nat → Int32) × (Nat → Int32) × (Nat → Int32) × (Nat → Int32))
theorem pMD_best37 {w g : Nat → Nat} {n p : Nat} {L S s : Nat → Int32} (h : StOK n w g (nI n) L S) (h2 : MdOK n w g s 0) (hp : p < n) (K : Int32 → Int32 → Int32 → (Nat → Int32) → (Nat → Int32) → (Nat → Int32) → (Nat → Int32) → (Nat → Int32) → F6) : ∀ (q a m : Nat) (bl co fi W : Nat → Int32), a + q = 4 → q < m → ∃ bl2 co2 fi2 W2, fMD_bestChange_37 K m (nI (bst w g n (4 * p + a)).2) (foI (bst w g n (4 * p + a)).1) (nI p) (nI a) bl co fi s W = K (nI (bst w g n (4 * (p + 1))).2) (foI (bst w g n (4 * (p + 1))).1) (nI (p + 1)) bl2 co2 fi2 s W2 := by
  have hn := h.2.1
  have hg0 : g 0 ≤ 9 := h.2.2.2.2.1.2
  intro q
  induction q with
  | zero =>
    intro a m bl co fi W h1 h3
    obtain ⟨m, rfl⟩ : ∃ q, m = q + 1 := ⟨m - 1, by omega⟩
    have : a = 4 := by omega
    subst this
    refine ⟨bl, co, fi, W, ?_⟩
    rw [fMD_bestChange_37, if_pos (by decide), nI_1]
    rfl
  | succ q ih =>
    intro a m bl co fi W h1 h3
    obtain ⟨m, rfl⟩ : ∃ q, m = q + 1 := ⟨m - 1, by omega⟩
    have hb1 := bst_1 (w := w) (g := g) (n := n) (p := p) (a := a) (by omega)
    have hble := bst_le (w := w) (g := g) (n := n) (4 * p + a)
    have hsm := cst_small (w := w) hn hg0
    have hpsm : prc w g n p a < 1000 := cst_small (w := wch w p a) hn hg0
    obtain ⟨bl1, co1, fi1, W1, e1⟩ := pMD_costsWith h h2 hp (show a < 4 by omega) bl co fi W
    obtain ⟨bl2, co2, fi2, W2, e2⟩ := ih (a + 1) m bl1 co1 fi1 W1 (by omega) (by omega)
    refine ⟨bl2, co2, fi2, W2, ?_⟩
    rw [← e2, fMD_bestChange_37, if_neg (ge4 (show a < 4 by omega)), e1, Option.bind_some]
    dsimp only
    by_cases c : prc w g n p a < (bst w g n (4 * p + a)).2
    · rw [← Nat.add_assoc, hb1, if_pos c, if_neg (nI_ge c (by omega)), fMD_bestChange_70, if_neg (nI_ge c (by omega)), nI_1, li4, pk_mul, nI_add]
      rfl
    · rw [← Nat.add_assoc, hb1, if_neg c, if_pos (nI_le (by omega) (by omega)), fMD_bestChange_70, if_pos (nI_le (by omega) (by omega)), nI_1]
theorem pMD_best23 {w g : Nat → Nat} {n x : Nat} {L S s : Nat → Int32} (hx : x ≤ 2) (h : StOK n w g (nI n) L S) (h2 : MdOK n w g s 0) : ∀ (q p m : Nat) (bl co fi W : Nat → Int32), p + q = n → q < m → ∃ bl2 co2 fi2 W2, fMD_bestChange_23 (nI x) m (nI (bst w g n (4 * p)).2) (foI (bst w g n (4 * p)).1) (nI p) bl co fi s W = some ((match (bst w g n (4 * n)).1 with | none => -1000004 | some k => if x = 0 then nI (k / 4) else if x = 1 then nI (k % 4) else nI (bst w g n (4 * n)).2), bl2, co2, fi2, s, W2) := by
  have hn := h.2.1
  have hs0 : s 0 = nI n := h2.1
  intro q
  induction q with
  | zero =>
    intro p m bl co fi W h1 h3
    obtain ⟨m, rfl⟩ : ∃ q, m = q + 1 := ⟨m - 1, by omega⟩
    have : p = n := by omega
    subst this
    refine ⟨bl, co, fi, W, ?_⟩
    rw [fMD_bestChange_23, li0, rd_nI (by omega), hs0, if_pos (nI_le (Nat.le_refl _) (by omega))]
    cases ho : (bst w g p (4 * p)).1 with
    | none => rw [if_pos (show foI none = -1000004 from rfl)]
    | some k =>
      have hk := bst_lt _ ho
      rw [if_neg (show ¬ foI (some k) = -1000004 from fun e => by
        have := nI_neg (a := k) (by omega) (k := 1000004) (by omega) (by omega)
        apply this
        show nI k ≤ _
        rw [show nI k = -1000004 from e]
        decide)]
      show (if nI x = nI 0 then some (nI k / 4, bl, co, fi, s, W) else if nI x = 1 then some (nI k - nI k / 4 * 4, bl, co, fi, s, W) else some (nI (bst w g p (4 * p)).2, bl, co, fi, s, W)) = some ((if x = 0 then nI (k / 4) else if x = 1 then nI (k % 4) else nI (bst w g p (4 * p)).2), bl, co, fi, s, W)
      rw [li4, li1, pk_rem (by omega) (by omega) (by omega), pk_div (by omega) (by omega) (by omega)]
      rcases (show x = 0 ∨ x = 1 ∨ x = 2 by omega) with rfl | rfl | rfl
      · rw [if_pos rfl, if_pos rfl]
      · rw [if_neg (by decide), if_pos rfl, if_neg (by decide), if_pos rfl]
      · rw [if_neg (by decide), if_neg (by decide), if_neg (by decide), if_neg (by decide)]
  | succ q ih =>
    intro p m bl co fi W h1 h3
    obtain ⟨m, rfl⟩ : ∃ q, m = q + 1 := ⟨m - 1, by omega⟩
    obtain ⟨bl1, co1, fi1, W1, e1⟩ := pMD_best37 h h2 (show p < n by omega) (fMD_bestChange_23 (nI x) m) 4 0 FU bl co fi W rfl (by decide)
    obtain ⟨bl2, co2, fi2, W2, e2⟩ := ih (p + 1) m bl1 co1 fi1 W1 (by omega) (by omega)
    refine ⟨bl2, co2, fi2, W2, ?_⟩
    rw [fMD_bestChange_23, li0, rd_nI (by omega), hs0, if_neg (nI_ge (by omega) (by omega))]
    exact e1.trans e2
theorem pMD_bestChange {w g : Nat → Nat} {n x : Nat} {L S s : Nat → Int32} (hx : x ≤ 2) (h : StOK n w g (nI n) L S) (h2 : MdOK n w g s 0) (k2 : fMD_in (nI x) (nI 0) (nI 2) = some (nI 1)) (bl co fi W : Nat → Int32) : ∃ bl2 co2 fi2 W2, fMD_bestChange bl co fi s W (nI x) = some ((match (bst w g n (4 * n)).1 with | none => -1000004 | some k => if x = 0 then nI (k / 4) else if x = 1 then nI (k % 4) else nI (bst w g n (4 * n)).2), bl2, co2, fi2, s, W2) := by
  have hn := h.2.1
  obtain ⟨bl1, co1, fi1, W1, e1⟩ := pMD_costs h h2 bl co fi W
  obtain ⟨bl2, co2, fi2, W2, e2⟩ := pMD_best23 hx h h2 n 0 FU bl1 co1 fi1 W1 (by omega) (by show _ < 1000000; omega)
  refine ⟨bl2, co2, fi2, W2, ?_⟩
  rw [fMD_bestChange, li0, li2, k2, Option.bind_some, if_neg (by decide), e1, Option.bind_some]
  exact e2
