/-! the model's table of corrections -/
def WD (w : Nat → Nat) (n : Nat) (D : Nat → Nat → Nat → Prop) (W : Nat → Int32) : Prop := ∀ f b t, 1 ≤ b → 2 ≤ t → f + t * b ≤ n → D f b t → W (625 * f + 25 * b + t) = nI (wrg w f b (t - 1))
theorem bj_div {b j r : Nat} (h : r < b) : (b * j + r) / b = j := by rw [Nat.mul_add_div (by omega), Nat.div_eq_of_lt h, Nat.add_zero]
theorem bj_mod {b j r : Nat} (h : r < b) : (b * j + r) % b = r := by rw [Nat.mul_add_mod, Nat.mod_eq_of_lt h]
theorem WD_b {n f b t : Nat} (hn : n ≤ 24) (hb : 1 ≤ b) (ht : 2 ≤ t) (h : f + t * b ≤ n) : f < 24 ∧ b < 25 ∧ t < 25 ∧ 2 * b ≤ n := by
  have h1 : t * 1 ≤ t * b := Nat.mul_le_mul_left _ hb
  have h2 : 2 * b ≤ t * b := Nat.mul_le_mul_right _ ht
  omega
theorem pMD_cor81 {n f b k s0 s1 : Nat} (hf : f < 25) (hb : 1 ≤ b) (hb2 : b < 25) (hk : k < 24) (h0 : s0 < 1000) (h1 : s1 < 1000) {k2 : Int32 → (Nat → Int32) → Option (Nat → Int32)} {k14 : Int32 → Int32 → (Nat → Int32) → Option (Nat → Int32)} {k33 : Int32 → Int32 → Int32 → Int32 → (Nat → Int32) → Option (Nat → Int32)} {W : Nat → Int32} : fMD_corrects_81 k2 k14 k33 (nI f) (nI b) (nI k) (nI s0) (nI s1) W = if (k + 1) % b = 0 then k33 (nI f) (nI b) (nI (s0 + s1)) (nI (k + 1)) (upd W (625 * f + 25 * b + (k + 1) / b) (nI (s0 + s1))) else k33 (nI f) (nI b) (nI (s0 + s1)) (nI (k + 1)) W := by
  have q1 : (k + 1) % b ≤ k + 1 := Nat.mod_le _ _
  have q2 : (k + 1) / b ≤ k + 1 := Nat.div_le_self _ _
  rw [fMD_corrects_81, if_neg (show ¬ nI b = 0 from nI_ne0 (by omega) (by omega)), if_neg (show ¬ nI b = 0 from nI_ne0 (by omega) (by omega)), nI_1, pk_rem (by omega) (by omega) (by omega), pk_div (by omega) (by omega) (by omega), li625, li25, pk_mul, pk_mul, nI_add, nI_add, nI_add, if_pos (bIn_nI (by omega) (by omega)), wr_nI (by omega)]
  by_cases c : (k + 1) % b = 0
  · rw [if_pos c, c, if_pos (show nI 0 = 0 from rfl)]
  · rw [if_neg c, if_neg (show ¬ nI ((k + 1) % b) = 0 from nI_ne0 (by omega) (by omega))]
theorem pMD_cor33 {w : Nat → Nat} {n f b : Nat} {s : Nat → Int32} (hn : n ≤ 24) (hm : s 0 = nI n) (hw : ∀ i, i < n → w i < 4 ∧ s (6 + i) = nI (w i)) (hb : 1 ≤ b) (hfb : f + 2 * b ≤ n) (k2 : Int32 → (Nat → Int32) → Option (Nat → Int32)) (k14 : Int32 → Int32 → (Nat → Int32) → Option (Nat → Int32)) : ∀ (q j r m : Nat) (W : Nat → Int32), f + (b * j + r) + q = n → q < m → 1 ≤ j → r < b → WD w n (fun f' b' t' => f' < f ∨ (f' = f ∧ (b' < b ∨ (b' = b ∧ t' * b ≤ b * j)))) W → ∃ W2, WD w n (fun f' b' t' => f' < f ∨ (f' = f ∧ b' < b + 1)) W2 ∧ fMD_corrects_33 s k2 k14 m (nI f) (nI b) (nI (wrg w f b (j - 1) + cn (fun i => w i ≠ w (i + j * b)) (fun _ => inferInstance) f r)) (nI (b * j + r)) W = k14 (nI f) (nI (b + 1)) W2 := by
  intro q
  induction q with
  | zero =>
    intro j r m W h1 h2 h3 h4 h5
    obtain ⟨m, rfl⟩ : ∃ q, m = q + 1 := ⟨m - 1, by omega⟩
    obtain ⟨x, hx⟩ : ∃ x, x = b * j + r := ⟨_, rfl⟩
    rw [← hx] at h1 ⊢
    refine ⟨W, ?_, ?_⟩
    · intro f' b' t' a1 a2 a3 a4
      refine h5 f' b' t' a1 a2 a3 ?_
      rcases a4 with a4 | ⟨a4, a5⟩
      · exact Or.inl a4
      · right
        refine ⟨a4, ?_⟩
        by_cases c : b' = b
        · right
          refine ⟨c, ?_⟩
          subst c
          have h6 : t' * b' ≤ b' * j + r := by omega
          have h7 : t' * b' < (j + 1) * b' := by rw [Nat.add_mul, Nat.one_mul, Nat.mul_comm j b']; omega
          have h8 : t' ≤ j := by have := Nat.lt_of_mul_lt_mul_right h7; omega
          rw [Nat.mul_comm b' j]
          exact Nat.mul_le_mul_right _ h8
        · left; omega
    · rw [fMD_corrects_33, if_pos (by rw [li0, rd_nI (by omega), hm, nI_add, nI_leI (by omega) (by omega)]; omega), nI_1]
  | succ q ih =>
    intro j r m W h1 h2 h3 h4 h5
    obtain ⟨m, rfl⟩ : ∃ q, m = q + 1 := ⟨m - 1, by omega⟩
    have hr : (b * j + r) % b = r := bj_mod h4
    have hjb : j * b = b * j := Nat.mul_comm _ _
    have hj1 : 1 * j ≤ b * j := Nat.mul_le_mul_right _ hb
    have hwl := wrg_le (w := w) (f := f) (b := b) (j - 1)
    have hwl2 : (j - 1) * b ≤ j * b := Nat.mul_le_mul_right _ (by omega)
    have hcn := cn_le (fun i => w i ≠ w (i + j * b)) (fun _ => inferInstance) r f
    have hcl := cn_last2 (fun i => w i ≠ w (i + j * b)) (fun _ => inferInstance) r f
    have hw0 : wrg w f b (j - 1 + 1) = wrg w f b (j - 1) + mis w f b ((j - 1 + 1) * b) := rfl
    rw [show j - 1 + 1 = j by omega] at hw0
    have hbj2 : b * (j + 1) = b * j + b := by rw [Nat.mul_add, Nat.mul_one]
    obtain ⟨C, hC⟩ : ∃ C, C = cn (fun i => w i ≠ w (i + j * b)) (fun _ => inferInstance) f r := ⟨_, rfl⟩
    have hcl2 : cn (fun i => w i ≠ w (i + j * b)) (fun _ => inferInstance) f (r + 1) = C + (if w (f + r) ≠ w (f + r + j * b) then 1 else 0) := by rw [hC]; exact hcl
    rw [← hC] at hcn ⊢
    have ih1 := ih j (r + 1) m
    have ih2 := ih (j + 1) 0 m
    rw [show j + 1 - 1 = j by omega, hbj2] at ih2
    obtain ⟨A, hA⟩ : ∃ A, A = wrg w f b (j - 1) := ⟨_, rfl⟩
    rw [← hA] at hwl hw0 ih1 ⊢
    obtain ⟨x, hx⟩ : ∃ x, x = b * j := ⟨_, rfl⟩
    have hxr : (x + r) % b = r := by rw [hx]; exact hr
    rw [← hx] at h1 h5 hjb hj1 hbj2 ih1 ih2 ⊢
    have e1 : f + r + j * b = f + (x + r) := by omega
    rw [e1] at hcl2
    rw [hjb] at hwl2
    have hstep : ∀ (s1 : Nat), s1 ≤ 1 → (if w (f + r) ≠ w (f + (x + r)) then 1 else 0) = s1 → ∃ W2, WD w n (fun f' b' t' => f' < f ∨ (f' = f ∧ b' < b + 1)) W2 ∧ fMD_corrects_81 k2 k14 (fMD_corrects_33 s k2 k14 m) (nI f) (nI b) (nI (x + r)) (nI (A + C)) (nI s1) W = k14 (nI f) (nI (b + 1)) W2 := by
      intro s1 hs1 hs
      rw [hs] at hcl2
      rw [pMD_cor81 (n := n) (by omega) hb (by omega) (by omega) (by omega) (by omega)]
      by_cases c : r + 1 = b
      · have m1 : (x + r + 1) % b = 0 := by
          rw [hx, show b * j + r + 1 = b * j + b by omega, Nat.add_mod_right, Nat.mul_mod_right]
        have d1 : (x + r + 1) / b = j + 1 := by
          rw [hx, show b * j + r + 1 = b * (j + 1) + 0 by rw [Nat.mul_add]; omega]
          exact bj_div (by omega)
        have hmis : A + C + s1 = wrg w f b j := by
          rw [hw0]
          unfold mis
          have hcl3 := hcl2
          rw [c] at hcl3
          rw [hcl3, Nat.add_assoc]
        rw [if_pos m1, d1, hmis]
        obtain ⟨W2, g1, g2⟩ := ih2 (upd W (625 * f + 25 * b + (j + 1)) (nI (wrg w f b j))) (by omega) (by omega) (by omega) (by omega) (by
          intro f' b' t' a1 a2 a3 a4
          obtain ⟨z1, z2, z3, z4⟩ := WD_b hn a1 a2 a3
          by_cases e : f' = f ∧ b' = b ∧ t' = j + 1
          · obtain ⟨rfl, rfl, rfl⟩ := e
            rw [pk_us]
            rfl
          · rw [pk_un (by omega)]
            refine h5 f' b' t' a1 a2 a3 ?_
            rcases a4 with a4 | ⟨a4, a5 | ⟨a5, a6⟩⟩
            · exact Or.inl a4
            · exact Or.inr ⟨a4, Or.inl a5⟩
            · right
              refine ⟨a4, Or.inr ⟨a5, ?_⟩⟩
              subst a4 a5
              have h8 : t' * b' < (j + 1 + 1) * b' := by rw [Nat.add_mul (j + 1), Nat.add_mul j]; omega
              have h9 := Nat.lt_of_mul_lt_mul_right h8
              have h10 : t' ≤ j := by omega
              rw [← hjb]
              exact Nat.mul_le_mul_right _ h10)
        refine ⟨W2, g1, ?_⟩
        rw [show x + r + 1 = x + b + 0 by omega]
        exact g2
      · have m1 : (x + r + 1) % b = r + 1 := by
          rw [hx, Nat.add_assoc]
          exact bj_mod (by omega)
        rw [if_neg (by omega)]
        obtain ⟨W2, g1, g2⟩ := ih1 W (by omega) (by omega) (by omega) (by omega) h5
        refine ⟨W2, g1, ?_⟩
        rw [hcl2, ← Nat.add_assoc, ← Nat.add_assoc] at g2
        exact g2
    have hxf : f + (x + r) < n := by omega
    have w1 := hw (f + (x + r)) hxf
    have w2 := hw (f + r) (by omega)
    rw [fMD_corrects_33, if_neg (by rw [li0, rd_nI (by omega), hm, nI_add, nI_leI (by omega) (by omega)]; omega), li6, nI_add, nI_add, if_pos (bIn_nI (by omega) (by omega)), if_neg (show ¬ nI b = 0 from nI_ne0 (by omega) (by omega)), pk_rem (by omega) (by omega) (by omega), hxr, nI_add, if_pos (bIn_nI (by omega) (by omega)), rd_nI (by omega), rd_nI (by omega), show 6 + f + (x + r) = 6 + (f + (x + r)) by omega, show 6 + f + r = 6 + (f + r) by omega, w1.2, w2.2]
    by_cases c : w (f + r) = w (f + (x + r))
    · rw [if_pos (by rw [c])]
      exact hstep 0 (by omega) (if_neg (fun z => z c))
    · rw [if_neg (by rw [nI_eq (by omega) (by omega)]; omega)]
      exact hstep 1 (by omega) (if_pos c)
theorem pMD_cor14 {w : Nat → Nat} {n f : Nat} {s : Nat → Int32} (hn : n ≤ 24) (hm : s 0 = nI n) (hw : ∀ i, i < n → w i < 4 ∧ s (6 + i) = nI (w i)) (hf : f < n) (k2 : Int32 → (Nat → Int32) → Option (Nat → Int32)) : ∀ (q b m : Nat) (W : Nat → Int32), b + q = 25 → q < m → 1 ≤ b → WD w n (fun f' b' _ => f' < f ∨ (f' = f ∧ b' < b)) W → ∃ W2, WD w n (fun f' _ _ => f' < f + 1) W2 ∧ fMD_corrects_14 s k2 m (nI f) (nI b) W = k2 (nI (f + 1)) W2 := by
  intro q
  induction q with
  | zero =>
    intro b m W h1 h2 h3 h4
    obtain ⟨m, rfl⟩ : ∃ q, m = q + 1 := ⟨m - 1, by omega⟩
    refine ⟨W, ?_, ?_⟩
    · intro f' b' t' a1 a2 a3 a4
      obtain ⟨z1, z2, z3, z4⟩ := WD_b hn a1 a2 a3
      exact h4 f' b' t' a1 a2 a3 (by omega)
    · rw [fMD_corrects_14, if_pos (by rw [li0, rd_nI (by omega), hm, li2, pk_mul, nI_add, nI_ltI (by omega) (by omega)]; omega), nI_1]
  | succ q ih =>
    intro b m W h1 h2 h3 h4
    obtain ⟨m, rfl⟩ : ∃ q, m = q + 1 := ⟨m - 1, by omega⟩
    by_cases c : n < f + 2 * b
    · refine ⟨W, ?_, ?_⟩
      · intro f' b' t' a1 a2 a3 a4
        have h6 : 2 * b' ≤ t' * b' := Nat.mul_le_mul_right _ a2
        exact h4 f' b' t' a1 a2 a3 (by omega)
      · rw [fMD_corrects_14, if_pos (by rw [li0, rd_nI (by omega), hm, li2, pk_mul, nI_add, nI_ltI (by omega) (by omega)]; omega), nI_1]
    · obtain ⟨W1, g1, g2⟩ := pMD_cor33 hn hm hw h3 (show f + 2 * b ≤ n by omega) k2 (fMD_corrects_14 s k2 m) (n - f - b) 1 0 FU W (by omega) (by show _ < 1000000; omega) (Nat.le_refl _) (by omega) (by
        intro f' b' t' a1 a2 a3 a4
        refine h4 f' b' t' a1 a2 a3 ?_
        rcases a4 with a4 | ⟨a4, a5 | ⟨a5, a6⟩⟩
        · exact Or.inl a4
        · exact Or.inr ⟨a4, a5⟩
        · exfalso
          have h6 : 2 * b ≤ t' * b := Nat.mul_le_mul_right _ a2
          omega)
      obtain ⟨W2, g3, g4⟩ := ih (b + 1) m W1 (by omega) (by omega) (by omega) g1
      refine ⟨W2, g3, ?_⟩
      rw [fMD_corrects_14, if_neg (by rw [li0, rd_nI (by omega), hm, li2, pk_mul, nI_add, nI_ltI (by omega) (by omega)]; omega), li0]
      rw [Nat.mul_one, Nat.add_zero] at g2
      exact g2.trans g4
theorem pMD_cor2 {w : Nat → Nat} {n : Nat} {s : Nat → Int32} (hn : n ≤ 24) (hm : s 0 = nI n) (hw : ∀ i, i < n → w i < 4 ∧ s (6 + i) = nI (w i)) : ∀ (q f m : Nat) (W : Nat → Int32), f + q = n → q < m → WD w n (fun f' _ _ => f' < f) W → ∃ W2, WD w n (fun _ _ _ => True) W2 ∧ fMD_corrects_2 s m (nI f) W = some W2 := by
  intro q
  induction q with
  | zero =>
    intro f m W h1 h2 h3
    obtain ⟨m, rfl⟩ : ∃ q, m = q + 1 := ⟨m - 1, by omega⟩
    refine ⟨W, ?_, ?_⟩
    · intro f' b' t' a1 a2 a3 a4
      have h6 : 2 * b' ≤ t' * b' := Nat.mul_le_mul_right _ a2
      exact h3 f' b' t' a1 a2 a3 (by omega)
    · rw [fMD_corrects_2, if_pos (by rw [li0, rd_nI (by omega), hm, nI_leI (by omega) (by omega)]; omega)]
  | succ q ih =>
    intro f m W h1 h2 h3
    obtain ⟨m, rfl⟩ : ∃ q, m = q + 1 := ⟨m - 1, by omega⟩
    obtain ⟨W1, g1, g2⟩ := pMD_cor14 hn hm hw (show f < n by omega) (fMD_corrects_2 s m) 24 1 FU W rfl (by decide) (Nat.le_refl _) (by
      intro f' b' t' a1 a2 a3 a4
      exact h3 f' b' t' a1 a2 a3 (by omega))
    obtain ⟨W2, g3, g4⟩ := ih (f + 1) m W1 (by omega) (by omega) g1
    refine ⟨W2, g3, ?_⟩
    rw [fMD_corrects_2, if_neg (by rw [li0, rd_nI (by omega), hm, nI_leI (by omega) (by omega)]; omega), li1]
    exact g2.trans g4
/-- corrects -/
theorem pMD_corrects {w : Nat → Nat} {n : Nat} {s : Nat → Int32} (hn : n ≤ 24) (hm : s 0 = nI n) (hw : ∀ i, i < n → w i < 4 ∧ s (6 + i) = nI (w i)) (W : Nat → Int32) : ∃ W2, WD w n (fun _ _ _ => True) W2 ∧ fMD_corrects s W = some W2 := pMD_cor2 hn hm hw n 0 FU W (by omega) (by show _ < 1000000; omega) (fun f' b' t' a1 a2 a3 a4 => absurd a4 (by omega))
