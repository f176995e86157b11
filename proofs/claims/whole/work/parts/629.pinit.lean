/-! the beginning -/
theorem pSt_init26 : ∀ (k i m : Nat), i + k = 5 → k < m → fSt_init_26 m (nI i) (fl vFIRST (fun _ => 0) i) = some (fl vFIRST (fun _ => 0) 5) := by
  intro k
  induction k with
  | zero =>
    intro i m h1 h2
    obtain ⟨m, rfl⟩ : ∃ q, m = q + 1 := ⟨m - 1, by omega⟩
    have : i = 5 := by omega
    subst this
    rw [fSt_init_26, if_pos (by decide)]
  | succ k ih =>
    intro i m h1 h2
    obtain ⟨m, rfl⟩ : ∃ q, m = q + 1 := ⟨m - 1, by omega⟩
    rw [fSt_init_26, if_neg (show ¬ (5 : Int32) ≤ nI i from nI_ge (b := 5) (by omega) (by decide)), if_pos (bIn_nI (by omega) (by omega)), if_pos (bIn_nI (by omega) (by omega)), rd_nI (by omega), wr_nI (by omega), fl_s, nI_1]
    exact ih (i + 1) m (by omega) (by omega)
theorem pSt_init : fSt_init = some (fl vFIRST (fun _ => 0) 5) := by
  rw [fSt_init, li0]
  have e := pSt_init26 5 0 FU (by omega) (by decide)
  rw [fl_0] at e
  exact e
theorem pNu_init30 {d : Nat} (hd : d < 5) (K : Int32 → (Nat → Int64) → Option (Nat → Int64)) : ∀ (q p N : Nat) (tb : Nat → Int64), p + q = 25 → q < N → (∀ d' p', p' < 25 → (d' < d ∨ (d' = d ∧ p' < p)) → tb (ix d' p' p') = 1) → ∃ tb2, (∀ d' p', p' < 25 → d' < d + 1 → tb2 (ix d' p' p') = 1) ∧ fNu_init_30 K N (nI d) (nI p) tb = K (nI (d + 1)) tb2 := by
  intro q
  induction q with
  | zero =>
    intro p N tb h1 h2 h3
    obtain ⟨N, rfl⟩ : ∃ q, N = q + 1 := ⟨N - 1, by omega⟩
    refine ⟨tb, fun d' p' a1 a2 => h3 d' p' a1 (by omega), ?_⟩
    rw [fNu_init_30, if_pos (show (25 : Int32) ≤ nI p from nI_le (a := 25) (by omega) (by omega)), nI_1]
  | succ q ih =>
    intro p N tb h1 h2 h3
    obtain ⟨N, rfl⟩ : ∃ q, N = q + 1 := ⟨N - 1, by omega⟩
    obtain ⟨tb2, a1, a2⟩ := ih (p + 1) N (vp_updL tb (ix d p p) 1) (by omega) (by omega) (fun d' p' b1 b2 => by
      by_cases c : d' = d ∧ p' = p
      · obtain ⟨rfl, rfl⟩ := c
        exact pk_uLs
      · have hne : ix d' p' p' ≠ ix d p p := by
          intro h
          obtain ⟨z1, z2, _⟩ := ix_inj (Nat.le_refl p') (by omega) (Nat.le_refl p) (by omega) h
          exact c ⟨z1, z2⟩
        rw [uL_n hne]
        exact h3 d' p' b1 (by omega))
    refine ⟨tb2, a1, ?_⟩
    rw [fNu_init_30, if_neg (show ¬ (25 : Int32) ≤ nI p from nI_ge (b := 25) (by omega) (by decide)), pIdx (by omega), Option.bind_some, pNu_put (ix_lt hd (Nat.le_refl p) (by omega)), Option.bind_some, nI_1]
    exact a2
theorem pNu_init23 : ∀ (q d N : Nat) (tb : Nat → Int64), d + q = 5 → q < N → (∀ d' p', p' < 25 → d' < d → tb (ix d' p' p') = 1) → ∃ tb2, (∀ d' p', p' < 25 → d' < 5 → tb2 (ix d' p' p') = 1) ∧ fNu_init_23 N (nI d) tb = some tb2 := by
  intro q
  induction q with
  | zero =>
    intro d N tb h1 h2 h3
    obtain ⟨N, rfl⟩ : ∃ q, N = q + 1 := ⟨N - 1, by omega⟩
    have : d = 5 := by omega
    subst this
    exact ⟨tb, h3, by rw [fNu_init_23, if_pos (by decide)]⟩
  | succ q ih =>
    intro d N tb h1 h2 h3
    obtain ⟨N, rfl⟩ : ∃ q, N = q + 1 := ⟨N - 1, by omega⟩
    obtain ⟨tb1, a1, a2⟩ := pNu_init30 (show d < 5 by omega) (fNu_init_23 N) 25 0 FU tb (by omega) (by decide) (fun d' p' b1 b2 => h3 d' p' b1 (by omega))
    obtain ⟨tb2, b1, b2⟩ := ih (d + 1) N tb1 (by omega) (by omega) a1
    refine ⟨tb2, b1, ?_⟩
    rw [fNu_init_23, if_neg (show ¬ (5 : Int32) ≤ nI d from nI_ge (b := 5) (by omega) (by decide)), li0]
    exact a2.trans b2
theorem pNu_init : ∃ tb, fNu_init = some tb ∧ OD tb := by
  obtain ⟨tb, a1, a2⟩ := pNu_init23 5 0 FU (fun _ => 0) (by omega) (by decide) (fun d' p' _ h => absurd h (by omega))
  refine ⟨tb, ?_, fun d p h1 h2 => a1 d p h2 h1⟩
  rw [fNu_init, show fPtNu_init = some () from rfl, Option.bind_some, li0]
  exact a2
def gFst : Nat → Nat := fun k => if k = 0 then 2 else if k = 1 then 3 else if k = 2 then 3 else if k = 3 then 2 else 3
theorem ws0 : ∀ k, k < 6 → wr (wr (wr (wr (wr (fun _ => 0) (1 : Int32) (2 : Int32)) (2 : Int32) (3 : Int32)) (3 : Int32) (3 : Int32)) (4 : Int32) (2 : Int32)) (5 : Int32) (3 : Int32) k = nI (if k = 0 then 0 else gFst (k - 1)) := by
  have e : wr (wr (wr (wr (wr (fun _ => 0) (1 : Int32) (2 : Int32)) (2 : Int32) (3 : Int32)) (3 : Int32) (3 : Int32)) (4 : Int32) (2 : Int32)) (5 : Int32) (3 : Int32) = upd (upd (upd (upd (upd (fun _ => (0 : Int32)) 1 (nI 2)) 2 (nI 3)) 3 (nI 3)) 4 (nI 2)) 5 (nI 3) := rfl
  rw [e]
  intro k hk
  rcases (show k = 0 ∨ k = 1 ∨ k = 2 ∨ k = 3 ∨ k = 4 ∨ k = 5 by omega) with rfl | rfl | rfl | rfl | rfl | rfl <;> rfl
set_option maxHeartbeats 2000000 in
theorem sim_init : ∃ (y0_na_n5_n14 : Nat → Int32) (y1_na_n16_n29_n14 : Nat → Int32) (y2_na_n16_n29_1_n14 : Nat → Int32) (y3_na_n16_n29_2_n14 : Nat → Int32) (y4_na_n16_n29_3_n14 : Nat → Int32) (y5_na_n49_n8 : Nat → Int64) (y6_na_n71_n5_n14 : Nat → Int32), fRN_init = some (y0_na_n5_n14, y1_na_n16_n29_n14, y2_na_n16_n29_1_n14, y3_na_n16_n29_2_n14, y4_na_n16_n29_3_n14, y5_na_n49_n8, y6_na_n71_n5_n14) ∧ Inv (0 : Int32) (0 : Int32) (fun _ => 0) y1_na_n16_n29_n14 (0 : Int32) (fun _ => 0) y2_na_n16_n29_1_n14 (0 : Int32) (fun _ => 0) y3_na_n16_n29_2_n14 (0 : Int32) (fun _ => 0) y4_na_n16_n29_3_n14 (0 : Int32) (fun _ => 0) (0 : Int32) (0 : Int32) (0 : Int32) (0 : Int32) (0 : Int32) (fun _ => 0) (fun _ => 0) (fun _ => 0) (fun _ => 0) (fun _ => 0) y5_na_n49_n8 (0 : Int32) (fun _ => 0) (0 : Int32) (0 : Int32) (0 : Int32) (0 : Int32) (0 : Int32) (fun _ => 0) (fun _ => 0) (fun _ => 0) (fun _ => 0) (fun _ => 0) (fun _ => 0) (0 : Int32) (0 : Int32) (0 : Int32) (0 : Int32) (0 : Int32) (0 : Int32) (0 : Int32) (0 : Int32) (0 : Int32) (0 : Int32) (0 : Int32) (fun _ => 0) (fun _ => 0) (0 : Int32) (0 : Int32) (fun _ => 0) (fun _ => 0) (fun _ => 0) (0 : Int32) (fun _ => 0) y0_na_n5_n14 (0 : Int32) (0 : Int32) (0 : Int32) (0 : Int32) (0 : Int32) (0 : Int32) (0 : Int32) (0 : Int32) (0 : Int32) (0 : Int32) (0 : Int32) (0 : Int32) (0 : Int32) (0 : Int32) (0 : Int32) (0 : Int32) (0 : Int32) (fun _ => 0) (fun _ => 0) (fun _ => 0) (fun _ => 0) (fun _ => 0) (fun _ => 0) (0 : Int32) (0 : Int32) (0 : Int32) (0 : Int32) (0 : Int32) (0 : Int32) (fun _ => 0) (0 : Int32) (0 : Int32) (0 : Int32) (0 : Int32) (0 : Int32) (fun _ => 0) (fun _ => 0) (fun _ => 0) (fun _ => 0) (fun _ => 0) (fun _ => 0) (0 : Int32) (fun _ => 0) y6_na_n71_n5_n14 0 0 0 0 0 0 0 0 0 0 0 0 0 0 (fun _ => 0) (fun _ => 0) (fun _ => 0) (fun _ => 0) (fun _ => 0) (fun _ => 0) (fun _ => 0) (fun _ => 0) (wr (wr (wr (wr (wr (fun _ => 0) (1 : Int32) (2 : Int32)) (2 : Int32) (3 : Int32)) (3 : Int32) (3 : Int32)) (4 : Int32) (2 : Int32)) (5 : Int32) (3 : Int32)) (fun _ => 0) (fun _ => 0) (fun _ => 0) (fun _ => 0) (fun _ => 0) (fun _ => 0) := by
  obtain ⟨tb, e5, hO⟩ := pNu_init
  refine ⟨fl vFIRST (fun _ => 0) 5, fl vFIRST (fun _ => 0) 5, fl vFIRST (fun _ => 0) 5, fl vFIRST (fun _ => 0) 5, fl vFIRST (fun _ => 0) 5, tb, fl vFIRST (fun _ => 0) 5, ?_, ?_⟩
  · have eH : fHi_init = some (fl vFIRST (fun _ => 0) 5, fl vFIRST (fun _ => 0) 5, fl vFIRST (fun _ => 0) 5, fl vFIRST (fun _ => 0) 5) := by
      rw [fHi_init, pSt_init, Option.bind_some, Option.bind_some, Option.bind_some, Option.bind_some]
    have eT : fTr_init = some (fl vFIRST (fun _ => 0) 5) := by
      rw [fTr_init, pSt_init]
      rfl
    rw [fRN_init, pSt_init, Option.bind_some, eH, Option.bind_some, show fRu_init = some () from rfl, Option.bind_some, show fPr_init = some () from rfl, Option.bind_some, e5, Option.bind_some, show fTl_init = some () from rfl, Option.bind_some, eT, Option.bind_some, show fRd_init = some () from rfl, Option.bind_some]
  · refine ⟨⟨0, fun _ => 0, gFst, ⟨rfl, by omega, fun i hi => absurd hi (by omega), fun k hk => ?_, by decide, by decide, by decide, by decide, by decide⟩, ws0 0 (by omega), fun k hk => ?_, fun i hi => absurd hi (by omega)⟩, ⟨0, rfl, rfl, by omega, fun z => absurd z (by omega), fun z => absurd z (by omega), fun z => absurd z (by omega), fun z => absurd z (by omega)⟩, ⟨0, by omega, rfl, rfl, fun i hi => absurd hi (by omega)⟩, Fr_0, ⟨fun _ _ _ _ => rfl, Fr_0⟩, ⟨hO, Fr_0⟩, Fr_0, ⟨fun _ _ _ _ => rfl, Fr_0⟩, Fr_0⟩
    · rw [fl_in hk]
      rcases (show k = 0 ∨ k = 1 ∨ k = 2 ∨ k = 3 ∨ k = 4 by omega) with rfl | rfl | rfl | rfl | rfl <;> rfl
    · have h := ws0 (1 + k) (by omega)
      rw [if_neg (by omega), show 1 + k - 1 = k by omega] at h
      rw [Nat.zero_add]
      exact h
