/-! the model's prices: finds, lays -/
theorem pPart {d f t : Nat} : fMD_part (nI d) (nI f) (nI t) = some (nI (625 * d + 25 * f + t)) := by
  rw [fMD_part, li625, li25, pk_mul, pk_mul, nI_add, nI_add]
theorem upd_self {f : Nat → Int32} {i : Nat} : upd f i (f i) = f := by
  funext k
  unfold upd
  by_cases c : k = i
  · rw [if_pos c, c]
  · rw [if_neg c]
theorem Rep_one {w : Nat → Nat} {M f b e x x2 : Nat} (h : Rep w M f b e x) (h2 : Rep w M f b e x2) : x = x2 := by
  obtain ⟨h1, i, a1, a2, a3, a4⟩ := h
  obtain ⟨_, j, b1, b2, b3, b4⟩ := h2
  have : (i + 1) * b = (j + 1) * b := by omega
  have := Nat.eq_of_mul_eq_mul_right (by omega) this
  have : i = j := by omega
  rw [a3, b3, this]
theorem Rep_of {w : Nat → Nat} {M f b m : Nat} (hb : 1 ≤ b) (h2 : 2 * b ≤ m) (hm : m % b = 0) (hx : wrg w f b (m / b - 1) ≤ M) : Rep w M f b (f + m) (wrg w f b (m / b - 1)) ∧ 2 ≤ m / b ∧ m / b * b = m := by
  have h3 : m / b * b = m := Nat.div_mul_cancel (Nat.dvd_of_mod_eq_zero hm)
  have h4 : 2 ≤ m / b := (Nat.le_div_iff_mul_le (by omega)).mpr h2
  refine ⟨⟨hb, m / b - 1, by omega, ?_, rfl, hx⟩, h4, h3⟩
  rw [show m / b - 1 + 1 = m / b by omega, h3]
theorem Rep_to {w : Nat → Nat} {M f b m x : Nat} (h : Rep w M f b (f + m) x) : m % b = 0 ∧ x = wrg w f b (m / b - 1) ∧ x ≤ M ∧ 2 * b ≤ m := by
  have hb := Rep_big h
  obtain ⟨h1, i, a1, a2, a3, a4⟩ := h
  have e : m = (i + 1) * b := by omega
  refine ⟨by rw [e]; exact Nat.mul_mod_left _ _, ?_, a4, by omega⟩
  rw [e, Nat.mul_div_cancel _ (by omega), Nat.add_sub_cancel]
  exact a3
def FI (w g : Nat → Nat) (d f t m nn own best : Nat) (bl fi : Nat → Int32) : Prop :=
  Mn (fun u => ∃ b e x, Rep w (g 3) f b e x ∧ e ≤ t ∧ (f + m < e ∨ (e = f + m ∧ b < nn)) ∧ 0 < d ∧ u = val w g d f t b e x) best ∧
  (best < 1000000 → ∃ b m' x, fi own = nI m' ∧ bl own = nI b ∧ 0 < d ∧ Rep w (g 3) f b (f + m') x ∧ f + m' ≤ t ∧ val w g d f t b (f + m') x = best ∧ (m < m' ∨ (m' = m ∧ b < nn)) ∧ ∀ b' e' x', Rep w (g 3) f b' e' x' → e' ≤ t → (f + m < e' ∨ (e' = f + m ∧ b' < nn)) → val w g d f t b' e' x' = best → e' < f + m' ∨ (e' = f + m' ∧ b ≤ b'))
theorem FI_skip {w g : Nat → Nat} {d f t m nn m2 nn2 own best : Nat} {bl fi : Nat → Int32} (h : FI w g d f t m nn own best bl fi) (hs : ∀ b e x, 0 < d → Rep w (g 3) f b e x → e ≤ t → ((f + m < e ∨ (e = f + m ∧ b < nn)) ↔ (f + m2 < e ∨ (e = f + m2 ∧ b < nn2)))) : FI w g d f t m2 nn2 own best bl fi := by
  obtain ⟨h1, h2⟩ := h
  refine ⟨Mn_iff h1 (fun u => ⟨?_, ?_⟩), fun hb => ?_⟩
  · rintro ⟨b, e, x, a1, a2, a3, a4, a5⟩
    exact ⟨b, e, x, a1, a2, (hs b e x a4 a1 a2).mpr a3, a4, a5⟩
  · rintro ⟨b, e, x, a1, a2, a3, a4, a5⟩
    exact ⟨b, e, x, a1, a2, (hs b e x a4 a1 a2).mp a3, a4, a5⟩
  · obtain ⟨b, m', x, a1, a2, a3, a4, a5, a6, a7, a8⟩ := h2 hb
    refine ⟨b, m', x, a1, a2, a3, a4, a5, a6, ?_, fun b' e' x' b1 b2 b3 b4 => a8 b' e' x' b1 b2 ((hs b' e' x' a3 b1 b2).mpr b3) b4⟩
    have := (hs b (f + m') x a3 a4 a5).mp (by omega)
    omega
theorem FI_step {w g : Nat → Nat} {d f t m nn own best x : Nat} {bl fi : Nat → Int32} (h : FI w g d f t m nn own best bl fi) (hd : 0 < d) (hR : Rep w (g 3) f nn (f + m) x) (ht : f + m ≤ t) (hv : val w g d f t nn (f + m) x < 1000000) : FI w g d f t m (nn + 1) own (if best ≤ val w g d f t nn (f + m) x then best else val w g d f t nn (f + m) x) (if best ≤ val w g d f t nn (f + m) x then bl else upd bl own (nI nn)) (if best ≤ val w g d f t nn (f + m) x then fi else upd fi own (nI m)) := by
  obtain ⟨h1, h2⟩ := h
  have hstep := Mn_add (Q := fun u => ∃ b e x, Rep w (g 3) f b e x ∧ e ≤ t ∧ (f + m < e ∨ (e = f + m ∧ b < nn + 1)) ∧ 0 < d ∧ u = val w g d f t b e x) (x := val w g d f t nn (f + m) x) h1 (fun u => ⟨by
      rintro ⟨b, e, y, a1, a2, a3, a4, a5⟩
      by_cases c : f + m < e ∨ (e = f + m ∧ b < nn)
      · exact Or.inl ⟨b, e, y, a1, a2, c, a4, a5⟩
      · right
        have e1 : e = f + m := by omega
        have e2 : b = nn := by omega
        subst e1 e2
        rw [a5, Rep_one a1 hR], by
      rintro (⟨b, e, y, a1, a2, a3, a4, a5⟩ | z)
      · exact ⟨b, e, y, a1, a2, by omega, a4, a5⟩
      · exact ⟨nn, f + m, x, hR, ht, by omega, hd, z⟩⟩)
  refine ⟨hstep, ?_⟩
  by_cases c : best ≤ val w g d f t nn (f + m) x
  · rw [if_pos c, if_pos c, if_pos c]
    intro hb
    obtain ⟨b, m', y, a1, a2, a3, a4, a5, a6, a7, a8⟩ := h2 hb
    refine ⟨b, m', y, a1, a2, a3, a4, a5, a6, by omega, fun b' e' x' b1 b2 b3 b4 => ?_⟩
    by_cases c2 : f + m < e' ∨ (e' = f + m ∧ b' < nn)
    · exact a8 b' e' x' b1 b2 c2 b4
    · omega
  · rw [if_neg c, if_neg c, if_neg c]
    intro hb
    refine ⟨nn, m, x, pk_us, pk_us, hd, hR, ht, rfl, by omega, fun b' e' x' b1 b2 b3 b4 => ?_⟩
    by_cases c2 : f + m < e' ∨ (e' = f + m ∧ b' < nn)
    · have := h1.2.2 _ ⟨b', e', x', b1, b2, c2, hd, rfl⟩
      omega
    · omega
/-- what the model's prices rest on -/
def MOK (w g : Nat → Nat) (n : Nat) (s W : Nat → Int32) : Prop := n ≤ 24 ∧ s 0 = nI n ∧ (∀ i, i < n → w i < 4 ∧ s (6 + i) = nI (w i)) ∧ (∀ k, k < 5 → s (1 + k) = nI (g k)) ∧ (1 ≤ g 0 ∧ g 0 ≤ 9) ∧ g 1 ≤ 20 ∧ g 2 ≤ 20 ∧ g 3 ≤ 6 ∧ g 4 ≤ 4 ∧ WD w n (fun _ _ _ => True) W
theorem val_lt {w g : Nat → Nat} {d f t b e x : Nat} (ht : t ≤ 24) (hb : f + b ≤ 24) (hg0 : g 0 ≤ 9) (hg1 : g 1 ≤ 20) (hg2 : g 2 ≤ 20) (hx : x ≤ 6) : val w g d f t b e x < 1000 := by
  have h1 := cst_lt (w := w) (g := g) (d := d - 1) (f := f) (t := f + b) hb hg0
  have h2 := cst_lt (w := w) (g := g) (d := d) (f := e) ht hg0
  have h3 : x * g 2 ≤ 6 * 20 := Nat.mul_le_mul hx hg2
  unfold val
  omega
theorem pMD_find143 {w g : Nat → Nat} {n d f t m nn own best bad : Nat} {s W bl fi co : Nat → Int32} (hM : MOK w g n s W) (hd : 0 < d) (hd4 : d ≤ 4) (ht : t ≤ n) (hm1 : 1 ≤ m) (hm : f + m ≤ t) (hnn : 1 ≤ nn) (hnn2 : nn < m) (hown : own < 3125) (hbest : best ≤ 1000000) (hbad : bad ≤ 1000000) (hbad2 : bad ≤ g 3 → bad = wrg w f nn (m / nn - 1)) (hc1 : co (625 * (d - 1) + 25 * f + (f + nn)) = nI (cst w g (d - 1) f (f + nn))) (hc2 : co (625 * d + 25 * (f + m) + t) = nI (cst w g d (f + m) t)) (k17 : Int32 → Int32 → Int32 → (Nat → Int32) → (Nat → Int32) → (Nat → Int32) → Option ((Nat → Int32) × (Nat → Int32) × (Nat → Int32))) (k95 : Int32 → Int32 → Int32 → Int32 → (Nat → Int32) → (Nat → Int32) → (Nat → Int32) → Option ((Nat → Int32) × (Nat → Int32) × (Nat → Int32))) : fMD_finds_143 s (nI d) (nI f) (nI t) k17 k95 (nI best) (nI own) (nI m) (nI nn) (nI bad) bl co fi = if g 3 < bad then k95 (nI best) (nI own) (nI m) (nI (nn + 1)) bl co fi else k95 (nI (if best ≤ val w g d f t nn (f + m) bad then best else val w g d f t nn (f + m) bad)) (nI own) (nI m) (nI (nn + 1)) (if best ≤ val w g d f t nn (f + m) bad then bl else upd bl own (nI nn)) co (if best ≤ val w g d f t nn (f + m) bad then fi else upd fi own (nI m)) := by
  obtain ⟨hn, hs0, hw, hs5, ⟨_, hg0⟩, hg1, hg2, hg3, hg4, hW⟩ := hM
  have s1 : s 1 = nI (g 0) := hs5 0 (by omega)
  have s2 : s 2 = nI (g 1) := hs5 1 (by omega)
  have s3 : s 3 = nI (g 2) := hs5 2 (by omega)
  have s4 : s 4 = nI (g 3) := hs5 3 (by omega)
  by_cases c : g 3 < bad
  · rw [if_pos c, fMD_finds_143, li4, rd_nI (by omega), s4, if_pos (nI_lt c (by omega)), nI_1]
  · have hv := val_lt (w := w) (g := g) (d := d) (f := f) (t := t) (b := nn) (e := f + m) (x := bad) (by omega) (by omega) hg0 hg1 hg2 (by omega)
    have hve : nI (g 1) + nI (cst w g (d - 1) f (f + nn)) + nI (g 2) * nI bad + nI (cst w g d (f + m) t) = nI (val w g d f t nn (f + m) bad) := by
      rw [pk_mul, nI_add, nI_add, nI_add]
      unfold val
      rw [Nat.mul_comm (g 2) bad]
      congr 1
      omega
    obtain ⟨v, hvv⟩ : ∃ v, v = val w g d f t nn (f + m) bad := ⟨_, rfl⟩
    rw [← hvv] at hv hve ⊢
    rw [if_neg c, fMD_finds_143, li4, rd_nI (by omega), s4, if_neg (nI_nlt (by omega) (by omega)), li1, pk_sub (by omega), nI_add, pPart, Option.bind_some, if_pos (bIn_nI (by omega) (by omega)), nI_add, pPart, Option.bind_some, if_pos (bIn_nI (by omega) (by omega)), li2, li3, rd_nI (by omega), rd_nI (by omega), rd_nI (by omega), rd_nI (by omega), s2, s3, hc1, hc2, hve]
    by_cases c2 : best ≤ v
    · rw [if_pos (nI_le c2 (by omega)), if_pos (bIn_nI (by omega) (by omega)), fMD_finds_231, if_pos (bIn_nI (by omega) (by omega)), if_pos (nI_le c2 (by omega)), if_pos (bIn_nI (by omega) (by omega)), fMD_finds_257, if_pos (bIn_nI (by omega) (by omega)), if_pos (nI_le c2 (by omega)), rd_nI (by omega), rd_nI (by omega), wr_nI (by omega), wr_nI (by omega), upd_self, upd_self, li1, nI_add, if_pos c2, if_pos c2, if_pos c2]
    · have c3 : ¬ nI best ≤ nI v := nI_ge (by omega) (by omega)
      rw [if_neg c3, fMD_finds_231, if_pos (bIn_nI (by omega) (by omega)), if_neg c3, fMD_finds_257, if_pos (bIn_nI (by omega) (by omega)), if_neg c3, wr_nI (by omega), wr_nI (by omega), li1, nI_add, if_neg c2, if_neg c2, if_neg c2]
theorem FI_best {w g : Nat → Nat} {d f t m nn own best : Nat} {bl fi : Nat → Int32} (h : FI w g d f t m nn own best bl fi) : best ≤ 1000000 := h.1.2.1
set_option maxHeartbeats 1000000 in
theorem pMD_find95 {w g : Nat → Nat} {n d f t m own : Nat} {s W co : Nat → Int32} (hM : MOK w g n s W) (hd4 : d ≤ 4) (ht : t ≤ n) (hm1 : 1 ≤ m) (hm : f + m ≤ t) (hown : own < 3125) (hc1 : 0 < d → ∀ b, 1 ≤ b → f + b ≤ t → co (625 * (d - 1) + 25 * f + (f + b)) = nI (cst w g (d - 1) f (f + b))) (hc2 : ∀ e, f < e → e ≤ t → co (625 * d + 25 * e + t) = nI (cst w g d e t)) (k17 : Int32 → Int32 → Int32 → (Nat → Int32) → (Nat → Int32) → (Nat → Int32) → Option ((Nat → Int32) × (Nat → Int32) × (Nat → Int32))) : ∀ (k nn mm best : Nat) (bl fi : Nat → Int32), nn + k = 25 → k < mm → 1 ≤ nn → FI w g d f t m nn own best bl fi → ∃ best2 bl2 fi2, FI w g d f t (m - 1) 1 own best2 bl2 fi2 ∧ (∀ i, i ≠ own → bl2 i = bl i ∧ fi2 i = fi i) ∧ fMD_finds_95 s W (nI d) (nI f) (nI t) k17 mm (nI best) (nI own) (nI m) (nI nn) bl co fi = k17 (nI best2) (nI own) (nI (m - 1)) bl2 co fi2 := by
  obtain ⟨hn, hs0, hw, hs5, ⟨_, hg0⟩, hg1, hg2, hg3, hg4, hW⟩ := id hM
  have hexit : ∀ (nn mm best : Nat) (bl fi : Nat → Int32), nn ≤ 25 → 1 ≤ nn → (m < 2 * nn ∨ d = 0) → FI w g d f t m nn own best bl fi → ∃ best2 bl2 fi2, FI w g d f t (m - 1) 1 own best2 bl2 fi2 ∧ (∀ i, i ≠ own → bl2 i = bl i ∧ fi2 i = fi i) ∧ fMD_finds_95 s W (nI d) (nI f) (nI t) k17 (mm + 1) (nI best) (nI own) (nI m) (nI nn) bl co fi = k17 (nI best2) (nI own) (nI (m - 1)) bl2 co fi2 := by
    intro nn mm best bl fi h1 h2 h3 h4
    refine ⟨best, bl, fi, FI_skip h4 (fun b e x hd hR he => ?_), fun i _ => ⟨rfl, rfl⟩, ?_⟩
    · have hb := Rep_big hR
      rcases h3 with h3 | h3
      · constructor
        · intro z; omega
        · intro z
          by_cases c : e = f + m
          · subst c
            have := Rep_big hR
            exact Or.inr ⟨rfl, by omega⟩
          · omega
      · omega
    · rw [fMD_finds_95, nI_m1 (by omega), li2, pk_mul]
      by_cases c : m < 2 * nn
      · rw [if_pos (nI_lt c (by omega))]
      · rw [if_neg (nI_nlt (by omega) (by omega)), if_pos (by rw [show d = 0 by omega]; decide)]
  intro k
  induction k with
  | zero =>
    intro nn mm best bl fi h1 h2 h3 h4
    obtain ⟨mm, rfl⟩ : ∃ q, mm = q + 1 := ⟨mm - 1, by omega⟩
    exact hexit nn mm best bl fi (by omega) h3 (Or.inl (by omega)) h4
  | succ k ih =>
    intro nn mm best bl fi h1 h2 h3 h4
    obtain ⟨mm, rfl⟩ : ∃ q, mm = q + 1 := ⟨mm - 1, by omega⟩
    by_cases c : m < 2 * nn ∨ d = 0
    · exact hexit nn mm best bl fi (by omega) h3 c h4
    · have hd : 0 < d := by omega
      have hbest := FI_best h4
      have q1 : m / nn ≤ m := Nat.div_le_self _ _
      have q2 : m % nn ≤ m := Nat.mod_le _ _
      have hk : ∀ bad, bad ≤ 1000000 → (bad ≤ g 3 → bad = wrg w f nn (m / nn - 1) ∧ Rep w (g 3) f nn (f + m) bad) → (g 3 < bad → ∀ x, ¬ Rep w (g 3) f nn (f + m) x) → ∃ best2 bl2 fi2, FI w g d f t (m - 1) 1 own best2 bl2 fi2 ∧ (∀ i, i ≠ own → bl2 i = bl i ∧ fi2 i = fi i) ∧ fMD_finds_143 s (nI d) (nI f) (nI t) k17 (fMD_finds_95 s W (nI d) (nI f) (nI t) k17 mm) (nI best) (nI own) (nI m) (nI nn) (nI bad) bl co fi = k17 (nI best2) (nI own) (nI (m - 1)) bl2 co fi2 := by
        intro bad y1 y2 y3
        rw [pMD_find143 hM hd hd4 ht hm1 hm h3 (by omega) hown hbest y1 (fun z => (y2 z).1) (hc1 hd nn h3 (by omega)) (hc2 (f + m) (by omega) hm)]
        by_cases c2 : g 3 < bad
        · rw [if_pos c2]
          refine ih (nn + 1) mm best bl fi (by omega) (by omega) (by omega) (FI_skip h4 (fun b e x _ hR he => ?_))
          constructor
          · intro z; omega
          · intro z
            by_cases c3 : e = f + m ∧ b = nn
            · obtain ⟨rfl, rfl⟩ := c3
              exact absurd hR (y3 c2 x)
            · omega
        · rw [if_neg c2]
          have hR := (y2 (by omega)).2
          have hv := val_lt (w := w) (g := g) (d := d) (f := f) (t := t) (b := nn) (e := f + m) (x := bad) (by omega) (by omega) hg0 hg1 hg2 (by omega)
          obtain ⟨best2, bl2, fi2, x1, x2, x3⟩ := ih (nn + 1) mm _ _ _ (by omega) (by omega) (by omega) (FI_step h4 hd hR hm (by omega))
          refine ⟨best2, bl2, fi2, x1, fun i hi => ?_, x3⟩
          obtain ⟨x4, x5⟩ := x2 i hi
          rw [x4, x5]
          by_cases c3 : best ≤ val w g d f t nn (f + m) bad
          · rw [if_pos c3, if_pos c3]; exact ⟨rfl, rfl⟩
          · rw [if_neg c3, if_neg c3, pk_un hi, pk_un hi]; exact ⟨rfl, rfl⟩
      rw [fMD_finds_95, li2, pk_mul, if_neg (nI_nlt (by omega) (by omega)), if_neg (show ¬ nI d ≤ 0 from nI_nle hd (by omega)), if_neg (show ¬ nI nn = 0 from nI_ne0 (by omega) (by omega)), pk_rem (by omega) (by omega) (by omega)]
      by_cases c2 : m % nn = 0
      · have h5 : m / nn * nn = m := Nat.div_mul_cancel (Nat.dvd_of_mod_eq_zero c2)
        have h6 : 2 ≤ m / nn := (Nat.le_div_iff_mul_le (by omega)).mpr (by omega)
        have h7 := hW f nn (m / nn) h3 h6 (by omega) trivial
        have h8 := wrg_le (w := w) (f := f) (b := nn) (m / nn - 1)
        have h9 : (m / nn - 1) * nn ≤ m / nn * nn := Nat.mul_le_mul_right _ (by omega)
        rw [c2, if_pos (show nI 0 = 0 from rfl), if_neg (show ¬ nI nn = 0 from nI_ne0 (by omega) (by omega)), pk_div (by omega) (by omega) (by omega), li625, li25, pk_mul, pk_mul, nI_add, nI_add, if_pos (bIn_nI (by omega) (by omega)), rd_nI (by omega), h7]
        refine hk _ (by omega) (fun z => ⟨rfl, (Rep_of h3 (by omega) c2 z).1⟩) (fun z x hR => ?_)
        obtain ⟨a1, a2, a3, a4⟩ := Rep_to hR
        omega
      · rw [if_neg (show ¬ nI (m % nn) = 0 from nI_ne0 (by omega) (by omega)), li1000000]
        refine hk _ (Nat.le_refl _) (fun z => by omega) (fun _ x hR => ?_)
        obtain ⟨a1, a2, a3, a4⟩ := Rep_to hR
        exact c2 a1
set_option maxHeartbeats 1000000 in
theorem pMD_find17 {w g : Nat → Nat} {n d f t own : Nat} {s W co : Nat → Int32} (hM : MOK w g n s W) (hd4 : d ≤ 4) (hf : f < t) (ht : t ≤ n) (hown : own < 3125) (hc1 : 0 < d → ∀ b, 1 ≤ b → f + b ≤ t → co (625 * (d - 1) + 25 * f + (f + b)) = nI (cst w g (d - 1) f (f + b))) (hc2 : ∀ e, f < e → e ≤ t → co (625 * d + 25 * e + t) = nI (cst w g d e t)) : ∀ (m mm best : Nat) (bl fi : Nat → Int32), 1 ≤ m → f + m ≤ t → m < mm → FI w g d f t m 1 own best bl fi → ∃ bl2 fi2, (∃ m' b', Ch w g d f t m' b' ∧ fi2 own = nI m' ∧ (1 < m' → bl2 own = nI b')) ∧ (∀ i, i ≠ own → bl2 i = bl i ∧ fi2 i = fi i) ∧ fMD_finds_17 s W (nI d) (nI f) (nI t) mm (nI best) (nI own) (nI m) bl co fi = some (bl2, upd co own (nI (cst w g d f t)), fi2) := by
  obtain ⟨hn, hs0, hw, hs5, ⟨_, hg0⟩, hg1, hg2, hg3, hg4, hW⟩ := id hM
  have s1 : s 1 = nI (g 0) := hs5 0 (by omega)
  have hmn := cst_mn (w := w) (g := g) (d := d) hf (show t ≤ 24 by omega)
  intro m
  induction m with
  | zero => intro mm best bl fi h1; omega
  | succ m ih =>
    intro mm best bl fi h1 h2 h3 h4
    obtain ⟨mm, rfl⟩ : ∃ q, mm = q + 1 := ⟨mm - 1, by omega⟩
    by_cases c : m = 0
    · subst c
      have hbest := FI_best h4
      have hc := cst_lt (w := w) (g := g) (d := d) (f := f + 1) (t := t) (by omega) hg0
      have hm0 : ∃ q, mm = q + 1 := ⟨mm - 1, by omega⟩
      obtain ⟨mm, rfl⟩ := hm0
      have e95 : ∀ (K : Int32 → Int32 → Int32 → (Nat → Int32) → (Nat → Int32) → (Nat → Int32) → Option ((Nat → Int32) × (Nat → Int32) × (Nat → Int32))) (x4 : Int32) (bl fi : Nat → Int32), fMD_finds_95 s W (nI d) (nI f) (nI t) K FU x4 (nI own) (nI 1) (1 : Int32) bl co fi = K x4 (nI own) (nI 0) bl co fi := by
        intro K x4 bl fi
        obtain ⟨q, hq⟩ := FU_s
        rw [hq, fMD_finds_95, if_pos (by decide)]
        rfl
      have e17 : ∀ (v : Nat) (bl fi : Nat → Int32), fMD_finds_17 s W (nI d) (nI f) (nI t) (mm + 1) (nI v) (nI own) (nI 0) bl co fi = some (bl, upd co own (nI v), fi) := by
        intro v bl fi
        rw [fMD_finds_17, if_pos (by decide), if_pos (bIn_nI (by omega) (by omega)), wr_nI (by omega)]
      obtain ⟨v, hv⟩ : ∃ v, v = g 0 + cst w g d (f + 1) t := ⟨_, rfl⟩
      rw [Nat.zero_add] at h4 h2 ⊢
      rw [fMD_finds_17, if_neg (by decide), if_pos (show nI 1 = (1 : Int32) from rfl), li1, nI_add, pPart, Option.bind_some, if_pos (bIn_nI (by omega) (by omega)), rd_nI (by omega), rd_nI (by omega), s1, hc2 (f + 1) (by omega) (by omega), nI_add, ← hv]
      by_cases c2 : best ≤ v
      · have hb6 : best < 1000000 := by omega
        obtain ⟨b, m', x, a1, a2, a3, a4, a5, a6, a7, a8⟩ := h4.2 hb6
        have hbc : best = cst w g d f t := by
          apply Nat.le_antisymm
          · rcases hmn.1 with z | z | ⟨z0, b', e', x', z1, z2, z3⟩
            · omega
            · omega
            · rw [z3]
              have := Rep_big z1
              exact h4.1.2.2 _ ⟨b', e', x', z1, z2, by omega, z0, rfl⟩
          · rw [← a6]
            exact hmn.2.2 _ (Or.inr ⟨a3, b, f + m', x, a4, a5, rfl⟩)
        refine ⟨bl, fi, ⟨m', b, Or.inr ⟨a3, x, a4, a5, by rw [a6, hbc], fun b' e' x' z1 z2 z3 => a8 b' e' x' z1 z2 (by have := Rep_big z1; omega) (by rw [z3, hbc])⟩, a1, fun _ => a2⟩, fun i _ => ⟨rfl, rfl⟩, ?_⟩
        rw [if_pos (nI_le c2 (by omega)), if_pos (bIn_nI (by omega) (by omega)), fMD_finds_75, if_pos (bIn_nI (by omega) (by omega)), if_pos (nI_le c2 (by omega)), rd_nI (by omega), wr_nI (by omega), upd_self]
        rw [e95, e17, hbc]
      · have hbc : v = cst w g d f t := by
          apply Nat.le_antisymm
          · rcases hmn.1 with z | z | ⟨z0, b', e', x', z1, z2, z3⟩
            · omega
            · omega
            · rw [z3]
              have := Rep_big z1
              have := h4.1.2.2 _ ⟨b', e', x', z1, z2, by omega, z0, rfl⟩
              omega
          · rw [hv]
            exact hmn.2.2 _ (Or.inl rfl)
        refine ⟨bl, upd fi own (nI 1), ⟨1, 0, Or.inl ⟨rfl, rfl, fun b' e' x' z0 z1 z2 z3 => ?_⟩, pk_us, fun z => by omega⟩, fun i hi => ⟨rfl, pk_un hi⟩, ?_⟩
        · have := Rep_big z1
          have := h4.1.2.2 _ ⟨b', e', x', z1, z2, by omega, z0, rfl⟩
          omega
        · rw [if_neg (nI_ge (by omega) (by omega)), fMD_finds_75, if_pos (bIn_nI (by omega) (by omega)), if_neg (nI_ge (by omega) (by omega)), wr_nI (by omega)]
          rw [e95, e17, hbc]
    · obtain ⟨best1, bl1, fi1, x1, x2, x3⟩ := pMD_find95 hM hd4 ht (show 1 ≤ m + 1 by omega) h2 hown hc1 hc2 (fMD_finds_17 s W (nI d) (nI f) (nI t) mm) 24 1 FU best bl fi rfl (by decide) (Nat.le_refl _) h4
      rw [Nat.add_sub_cancel] at x1 x3
      obtain ⟨bl2, fi2, y1, y2, y3⟩ := ih mm best1 bl1 fi1 (by omega) (by omega) (by omega) x1
      refine ⟨bl2, fi2, y1, fun i hi => ?_, ?_⟩
      · obtain ⟨q1, q2⟩ := x2 i hi
        obtain ⟨q3, q4⟩ := y2 i hi
        exact ⟨q3.trans q1, q4.trans q2⟩
      · rw [fMD_finds_17, li1, if_neg (nI_nlt (by omega) (by omega)), if_neg (by rw [nI_eq (by omega) (by omega)]; omega)]
        exact x3.trans y3
/-- finds -/
theorem pMD_finds {w g : Nat → Nat} {n d f t : Nat} {s W co : Nat → Int32} (hM : MOK w g n s W) (hd4 : d ≤ 4) (hf : f < t) (ht : t ≤ n) (hc1 : 0 < d → ∀ b, 1 ≤ b → f + b ≤ t → co (625 * (d - 1) + 25 * f + (f + b)) = nI (cst w g (d - 1) f (f + b))) (hc2 : ∀ e, f < e → e ≤ t → co (625 * d + 25 * e + t) = nI (cst w g d e t)) (bl fi : Nat → Int32) : ∃ bl2 fi2, (∃ m' b', Ch w g d f t m' b' ∧ fi2 (625 * d + 25 * f + t) = nI m' ∧ (1 < m' → bl2 (625 * d + 25 * f + t) = nI b')) ∧ (∀ i, i ≠ 625 * d + 25 * f + t → bl2 i = bl i ∧ fi2 i = fi i) ∧ fMD_finds s W bl co fi (nI d) (nI f) (nI t) = some (bl2, upd co (625 * d + 25 * f + t) (nI (cst w g d f t)), fi2) := by
  have hn := hM.1
  obtain ⟨bl2, fi2, x1, x2, x3⟩ := pMD_find17 (own := 625 * d + 25 * f + t) hM hd4 hf ht (by omega) hc1 hc2 (t - f) FU 1000000 bl fi (by omega) (by omega) (by show _ < 1000000; omega) (by
    refine ⟨⟨Or.inl rfl, Nat.le_refl _, ?_⟩, fun z => absurd z (by omega)⟩
    rintro u ⟨b, e, x, a1, a2, a3, a4, a5⟩
    have := Rep_big a1
    omega)
  refine ⟨bl2, fi2, x1, x2, ?_⟩
  rw [fMD_finds, pPart, Option.bind_some, li1000000, pk_sub (by omega)]
  exact x3
