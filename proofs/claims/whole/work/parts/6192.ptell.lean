/-! the class's telling -/
theorem pTl_put {len c : Nat} {sg : Nat → Int32} (h : len < 160) : fTl_put (nI len) sg (nI c) = some (nI (len + 1), app sg len [c]) := by
  rw [fTl_put, if_neg (nI_pos (by omega)), if_neg (show ¬ (160 : Int32) ≤ nI len from nI_ge (b := 160) h (by decide)), if_pos (bIn_nI h (by omega)), nI_1, wr_nI (by omega), app_one]
theorem pTl_num17 {len v : Nat} {sg : Nat → Int32} (hv : v < 100) (h : len < 160) : fTl_putNumber_17 (nI v) (nI len) sg = some (nI (len + 1), app sg len [48 + v % 10]) := by
  rw [fTl_putNumber_17, li10, pk_rem (by omega) (by omega) (by omega), li48, nI_add, pTl_put h, Option.bind_some]
theorem pTl_num {len v : Nat} {sg : Nat → Int32} (hv : v < 100) (h : len + (nmb v).length ≤ 160) : fTl_putNumber (nI len) sg (nI v) = some (nI (len + (nmb v).length), app sg len (nmb v)) := by
  rw [fTl_putNumber]
  by_cases c : v < 10
  · have e : nmb v = [48 + v] := if_pos c
    rw [e] at h ⊢
    have h1 : len + 1 ≤ 160 := h
    rw [if_pos (show nI v < (10 : Int32) from nI_lt (b := 10) c (by decide)), pTl_num17 hv (by omega), Nat.mod_eq_of_lt c]
    rfl
  · have e : nmb v = [48 + v / 10, 48 + v % 10] := if_neg c
    rw [e] at h ⊢
    have h1 : len + 2 ≤ 160 := h
    rw [if_neg (show ¬ nI v < (10 : Int32) from nI_nlt (b := 10) (by omega) (by omega)), li10, pk_div (by omega) (by omega) (by omega), li48, nI_add, pTl_put (by omega), Option.bind_some]
    dsimp only
    rw [pTl_num17 hv (by omega), app_app (by rfl)]
    rfl
theorem cr1_put {len v a : Nat} {sg : Nat → Int32} {α : Type} (K : Int32 × (Nat → Int32) → Option α) (hv : v < 100) (h : len + (nmb v).length + 4 ≤ 160) : ((fTl_put (nI len) sg (nI 91)).bind fun o5 => (fTl_putNumber o5.1 o5.2 (nI v)).bind fun o6 => (fTl_put o6.1 o6.2 (nI 44)).bind fun o7 => (fTl_put o7.1 o7.2 (nI a)).bind fun o8 => (fTl_put o8.1 o8.2 (nI 93)).bind K) = K (nI (len + (nmb v).length + 4), app sg len (91 :: (nmb v ++ [44, a, 93]))) := by
  rw [pTl_put (by omega), Option.bind_some]
  dsimp only
  rw [pTl_num hv (by omega), Option.bind_some]
  dsimp only
  rw [pTl_put (by omega), Option.bind_some]
  dsimp only
  rw [pTl_put (by omega), Option.bind_some]
  dsimp only
  rw [pTl_put (by omega), Option.bind_some, app_app (by first | rfl | assumption), app_app (by first | rfl | assumption), app_app (by first | rfl | assumption), app_app (by first | rfl | assumption)]
  have e1 : len + 1 + (nmb v).length + 1 + 1 + 1 = len + (nmb v).length + 4 := by omega
  have e2 : [91] ++ (nmb v ++ ([44] ++ ([a] ++ [93]))) = 91 :: (nmb v ++ [44, a, 93]) := rfl
  rw [e1, e2]
theorem pTl_tc3 {w : Nat → Nat} {n f b x : Nat} {L : Nat → Int32} (hn : n ≤ 24) (hw : ∀ i, i < n → w i < 4 ∧ L i = nI (w i)) (hx : ∀ r, r < b → (x + r) % b = r) (hf : f + x + b ≤ n) : ∀ (q r m len cc : Nat) (sg : Nat → Int32), r + q = b → q < m → len + (crs w f b q (x + r)).length ≤ 160 → fTl_tellCorrections_3 (nI n) L (nI f) (nI (f + x)) (nI b) m (nI r) (nI len) (nI cc) sg = some (nI (len + (crs w f b q (x + r)).length), nI (cc + ct 91 (crs w f b q (x + r))), app sg len (crs w f b q (x + r))) := by
  intro q
  induction q with
  | zero =>
    intro r m len cc sg h1 h2 h3
    obtain ⟨m, rfl⟩ : ∃ q, m = q + 1 := ⟨m - 1, by omega⟩
    rw [fTl_tellCorrections_3, if_pos (nI_le (by omega) (by omega))]
    show _ = some (nI (len + 0), nI (cc + 0), app sg len [])
    rw [app_nil]
    rfl
  | succ q ih =>
    intro r m len cc sg h1 h2 h3
    obtain ⟨m, rfl⟩ : ∃ q, m = q + 1 := ⟨m - 1, by omega⟩
    have hr : r < b := by omega
    have ec : crs w f b (q + 1) (x + r) = cr1 w f b (x + r) ++ crs w f b q (x + (r + 1)) := rfl
    have l1 := hw (f + x + r) (by omega)
    have l2 := hw (f + r) (by omega)
    rw [ec] at h3 ⊢
    rw [List.length_append] at h3
    have e1 : (f + (x + r)) = f + x + r := by omega
    rw [fTl_tellCorrections_3, if_neg (nI_ge hr (by omega)), nI_add, nI_add, pSt_letter_in hn (by omega), Option.bind_some, pSt_letter_in hn (by omega), Option.bind_some, l1.2, l2.2]
    by_cases e : w (f + x + r) = w (f + r)
    · have e0 : cr1 w f b (x + r) = [] := if_pos (by rw [hx r hr, e1]; exact e)
      rw [e0] at h3 ⊢
      rw [if_pos (by rw [e]), nI_1, ih (r + 1) m len cc sg (by omega) (by omega) (by simpa using h3)]
      rfl
    · have e0 : cr1 w f b (x + r) = 91 :: (nmb (x + r) ++ [44, 97 + w (f + x + r), 93]) := by
        rw [← e1]; exact if_neg (by rw [hx r hr, e1]; exact e)
      have hl0 : (cr1 w f b (x + r)).length = (nmb (x + r)).length + 4 := by rw [e0, List.length_cons, List.length_append]; rfl
      have hc0 : ct 91 (cr1 w f b (x + r)) = 1 := by
        rw [e0]
        show (if 91 = 91 then 1 else 0) + ct 91 (nmb (x + r) ++ [44, 97 + w (f + x + r), 93]) = 1
        rw [ct_app, nmb_ct (by omega) (by omega), if_pos rfl]
        show 1 + (0 + (0 + ((if 97 + w (f + x + r) = 91 then 1 else 0) + (0 + 0)))) = 1
        rw [if_neg (by omega)]
      rw [if_neg (by rw [nI_eq (by omega) (by omega)]; exact e), pk_sub (by omega), show f + x + r - f = x + r by omega, li91, li44, li93, li97, nI_add, cr1_put _ (by omega) (by omega)]
      dsimp only
      rw [li1, nI_add, nI_add, ih (r + 1) m _ _ _ (by omega) (by omega) (by omega), ← e0]
      refine trj ?_ ?_ ?_
      · rw [List.length_append]; omega
      · rw [ct_app]; omega
      · rw [app_app (by rw [hl0]; omega)]
theorem pTl_r68 {w : Nat → Nat} {n f b T e : Nat} {L : Nat → Int32} (hn : n ≤ 24) (hw : ∀ i, i < n → w i < 4 ∧ L i = nI (w i)) (hb : 1 ≤ b) (he : e = f + b * T) (hen : e ≤ n) (x7 it rp ce cb nu : Int32) (B E P : Nat → Int32) : ∀ (q c m len cc : Nat) (sg : Nat → Int32), c + q = T → q < m → len + (crs w f b (q * b) (b * c)).length ≤ 160 → fTl_tellRepeat_68 (nI n) L (nI f) (nI e) (nI b) m x7 (nI (f + b * c)) (nI len) it rp (nI cc) ce cb nu B E P sg = some (x7, nI (len + (crs w f b (q * b) (b * c)).length), it, rp, nI (cc + ct 91 (crs w f b (q * b) (b * c))), ce, cb, nu, B, E, P, app sg len (crs w f b (q * b) (b * c))) := by
  intro q
  induction q with
  | zero =>
    intro c m len cc sg h1 h2 h3
    obtain ⟨m, rfl⟩ : ∃ q, m = q + 1 := ⟨m - 1, by omega⟩
    have hc : c = T := by omega
    subst hc
    rw [fTl_tellRepeat_68, if_pos (by rw [he]; exact nI_le (Nat.le_refl _) (by omega)), Nat.zero_mul]
    show _ = some (x7, nI (len + 0), it, rp, nI (cc + 0), ce, cb, nu, B, E, P, app sg len [])
    rw [app_nil]
    rfl
  | succ q ih =>
    intro c m len cc sg h1 h2 h3
    obtain ⟨m, rfl⟩ : ∃ q, m = q + 1 := ⟨m - 1, by omega⟩
    have h5 : b * (c + 1) ≤ b * T := Nat.mul_le_mul_left _ (by omega)
    have h6 : b * (c + 1) = b * c + b := by rw [Nat.mul_add, Nat.mul_one]
    have hxr : ∀ r, r < b → (b * c + r) % b = r := fun r hr => bj_mod hr
    have ih2 := ih (c + 1)
    rw [h6] at ih2 h5
    have ec : crs w f b ((q + 1) * b) (b * c) = crs w f b b (b * c) ++ crs w f b (q * b) (b * c + b) := by
      rw [show (q + 1) * b = b + q * b by rw [Nat.add_mul, Nat.one_mul]; omega, crs_add]
    obtain ⟨x, hx⟩ : ∃ x, x = b * c := ⟨_, rfl⟩
    rw [← hx] at hxr h5 ih2 ec h3 ⊢
    rw [ec] at h3 ⊢
    rw [List.length_append] at h3
    have h7 := pTl_tc3 hn hw hxr (show f + x + b ≤ n by omega) b 0 FU len cc sg (by omega) (by show _ < 1000000; omega) (by rw [Nat.add_zero]; omega)
    rw [Nat.add_zero] at h7
    rw [fTl_tellRepeat_68, if_neg (nI_ge (by omega) (by omega)), fTl_tellCorrections, li0, h7, Option.bind_some, if_neg (show ¬ nI b < (1 : Int32) from nI_nlt (b := 1) hb (by omega)), nI_add]
    dsimp only
    rw [show f + x + b = f + (x + b) by omega, ih2 m _ _ _ (by omega) (by omega) (by omega), app_app (by rfl), List.length_append, ct_app, Nat.add_assoc, Nat.add_assoc]
/-- what the loop that chooses knows of the repeats that it has seen -/
def CI (w g : Nat → Nat) (d f t : Nat) (p : List (Nat × Nat × Nat)) (m b : Nat) : Prop := (m = 1 ∧ b = 0 ∧ ∀ q, q ∈ p → q.2.1 ≤ t → val w g d f t q.1 q.2.1 q.2.2 ≠ cst w g d f t) ∨ (∃ x, (b, f + m, x) ∈ p ∧ f + m ≤ t ∧ val w g d f t b (f + m) x = cst w g d f t ∧ ∀ q, q ∈ p → q.2.1 ≤ t → val w g d f t q.1 q.2.1 q.2.2 = cst w g d f t → q.2.1 < f + m ∨ (q.2.1 = f + m ∧ b ≤ q.1))
theorem pTl_ch41 {w g : Nat → Nat} {n d f t : Nat} {l : List (Nat × Nat × Nat)} {B E P tb : Nat → Int32} (hl : l = rl w (g 3) n f) (hn : n ≤ 24) (hg0 : g 0 ≤ 9) (hg1 : g 1 ≤ 20) (hg2 : g 2 ≤ 20) (hg3 : g 3 ≤ 6) (hd : 0 < d) (hd4 : d ≤ 4) (hf : f < t) (ht : t ≤ n) (hR : RLs (g 1) (g 2) l B E P) (hT1 : ∀ q, q ∈ l → q.2.1 ≤ t → tb (ix (d - 1) f (f + q.1)) = nI (cst w g (d - 1) f (f + q.1))) (hT2 : ∀ e, f < e → e ≤ t → tb (ix d e t) = nI (cst w g d e t)) : ∀ (k i mm m b : Nat), i + k = l.length → k < mm → m ≤ 24 → CI w g d f t (l.take i) m b → ∃ m2 b2, m2 ≤ 24 ∧ CI w g d f t l m2 b2 ∧ fTl_choose_41 tb (nI d) (nI f) (nI t) mm (nI (cst w g d f t)) (nI i) (nI (f + m)) (nI b) (nI l.length) B E P = some (nI (f + m2), nI b2, nI l.length, B, E, P) := by
  have hl60 : l.length ≤ 60 := by rw [hl]; exact rl_len hn
  intro k
  induction k with
  | zero =>
    intro i mm m b h1 h2 hm h3
    obtain ⟨mm, rfl⟩ : ∃ q, mm = q + 1 := ⟨mm - 1, by omega⟩
    rw [List.take_of_length_le (by omega)] at h3
    exact ⟨m, b, hm, h3, by rw [fTl_choose_41, if_pos (nI_le (by omega) (by omega))]⟩
  | succ k ih =>
    intro i mm m b h1 h2 hm h3
    obtain ⟨mm, rfl⟩ : ∃ q, mm = q + 1 := ⟨mm - 1, by omega⟩
    have hil : i < l.length := by omega
    obtain ⟨⟨b', e', x'⟩, hqi⟩ : ∃ q, l[i]? = some q := ⟨_, List.getElem?_eq_getElem hil⟩
    have hmem : (b', e', x') ∈ l := List.mem_of_getElem? hqi
    have hmem2 := hmem
    rw [hl] at hmem2
    obtain ⟨r1, r2, r3⟩ := hR i _ hqi
    obtain ⟨⟨s0, s1⟩, s2, s3⟩ := rl_q hn hg3 _ hmem2
    have sR := ((mem_rl' hn).mp hmem2).1
    have sB := Rep_big sR
    simp only at r1 r2 r3 s0 s1 s2 s3 sB
    have htk : l.take (i + 1) = l.take i ++ [(b', e', x')] := by rw [List.take_add_one, hqi]; rfl
    have hsort : ∀ q, q ∈ l.take i → q.1 ≤ b' := fun q hq => by
      rw [hl] at hq hqi
      exact rl_pw hq hqi
    have hmt : ∀ q, q ∈ l.take (i + 1) → q ∈ l.take i ∨ q = (b', e', x') := fun q hq => by
      rw [htk] at hq
      rcases List.mem_append.mp hq with z | z
      · exact Or.inl z
      · exact Or.inr (List.mem_singleton.mp z)
    have hmk : ∀ q, q ∈ l.take i → q ∈ l.take (i + 1) := fun q hq => by rw [htk]; exact List.mem_append_left _ hq
    have hself : (b', e', x') ∈ l.take (i + 1) := by rw [htk]; exact List.mem_append_right _ (List.mem_singleton.mpr rfl)
    have hkeep : (e' ≤ t → val w g d f t b' e' x' = cst w g d f t → e' ≤ f + m) → CI w g d f t (l.take (i + 1)) m b := by
      intro hk
      rcases h3 with ⟨q1, q2, q3⟩ | ⟨x, q1, q2, q3, q4⟩
      · refine Or.inl ⟨q1, q2, fun q hq hqt hv => ?_⟩
        rcases hmt q hq with z | z
        · exact q3 q z hqt hv
        · subst z
          have := hk hqt hv
          omega
      · refine Or.inr ⟨x, hmk _ q1, q2, q3, fun q hq hqt hv => ?_⟩
        rcases hmt q hq with z | z
        · exact q4 q z hqt hv
        · subst z
          have h7 := hk hqt hv
          have h8 := hsort _ q1
          simp only at h8 ⊢
          omega
    have hp1 : ∃ v, fPr_price tb (nI d - (1 : Int32)) (nI f) (nI f + nI b') = some v ∧ (e' ≤ t → v = nI (cst w g (d - 1) f (f + b'))) := by
      rw [li1, pk_sub (by omega), nI_add, pPr_price (by omega) (by omega) (by omega)]
      exact ⟨_, rfl, fun z => hT1 _ hmem z⟩
    obtain ⟨v, hv1, hv2⟩ := hp1
    have hnext : ∀ m2 b2, m2 ≤ 24 → CI w g d f t (l.take (i + 1)) m2 b2 → ∃ m3 b3, m3 ≤ 24 ∧ CI w g d f t l m3 b3 ∧ fTl_choose_41 tb (nI d) (nI f) (nI t) mm (nI (cst w g d f t)) (nI i + 1) (nI (f + m2)) (nI b2) (nI l.length) B E P = some (nI (f + m3), nI b3, nI l.length, B, E, P) := by
      intro m2 b2 y1 y2
      obtain ⟨m3, b3, z1, z2, z3⟩ := ih (i + 1) mm m2 b2 (by omega) (by omega) y1 y2
      exact ⟨m3, b3, z1, z2, by rw [nI_1]; exact z3⟩
    have hun : fTl_choose_41 tb (nI d) (nI f) (nI t) (mm + 1) (nI (cst w g d f t)) (nI i) (nI (f + m)) (nI b) (nI l.length) B E P = if nI e' ≤ nI (f + m) then fTl_choose_41 tb (nI d) (nI f) (nI t) mm (nI (cst w g d f t)) (nI i + 1) (nI (f + m)) (nI b) (nI l.length) B E P else if nI t < nI e' then fTl_choose_41 tb (nI d) (nI f) (nI t) mm (nI (cst w g d f t)) (nI i + 1) (nI (f + m)) (nI b) (nI l.length) B E P else (fPr_price tb (nI d) (nI e') (nI t)).bind fun o9 => if nI (g 1 + x' * g 2) + v + o9 = nI (cst w g d f t) then fTl_choose_41 tb (nI d) (nI f) (nI t) mm (nI (cst w g d f t)) (nI i + 1) (nI e') (nI b') (nI l.length) B E P else fTl_choose_41 tb (nI d) (nI f) (nI t) mm (nI (cst w g d f t)) (nI i + 1) (nI (f + m)) (nI b) (nI l.length) B E P := by
      rw [fTl_choose_41, if_neg (nI_ge (by omega) (by omega)), if_neg (show ¬ (60 : Int32) ≤ nI i from nI_ge (b := 60) (by omega) (by decide)), if_pos (bIn_nI (by omega) (by omega)), if_pos (bIn_nI (by omega) (by omega)), if_pos (bIn_nI (by omega) (by omega)), rd_nI (by omega), rd_nI (by omega), rd_nI (by omega), r1, r2, r3, hv1, Option.bind_some]
    rw [hun]
    by_cases c1 : e' ≤ f + m
    · rw [if_pos (nI_le c1 (by omega))]
      exact hnext m b hm (hkeep (fun _ _ => c1))
    · rw [if_neg (nI_ge (by omega) (by omega))]
      by_cases c2 : t < e'
      · rw [if_pos (nI_lt c2 (by omega))]
        exact hnext m b hm (hkeep (fun z _ => by omega))
      · have hc1 := cst_lt (w := w) (g := g) (d := d - 1) (f := f) (t := f + b') (by omega) hg0
        have hc2 := cst_lt (w := w) (g := g) (d := d) (f := e') (t := t) (by omega) hg0
        have hc3 := cst_lt (w := w) (g := g) (d := d) (f := f) (t := t) (by omega) hg0
        have hxg : x' * g 2 ≤ 6 * 20 := Nat.mul_le_mul s3 hg2
        have hval : val w g d f t b' e' x' = g 1 + x' * g 2 + cst w g (d - 1) f (f + b') + cst w g d e' t := rfl
        rw [if_neg (nI_nlt (by omega) (by omega)), pPr_price (by omega) (by omega) (by omega), Option.bind_some, hT2 e' s0 (by omega), hv2 (by omega), nI_add, nI_add, ← hval]
        obtain ⟨V, hV⟩ : ∃ V, V = val w g d f t b' e' x' := ⟨_, rfl⟩
        have hV2 : V < 1000 := by rw [hV, hval]; omega
        rw [← hV]
        by_cases c3 : V = cst w g d f t
        · rw [if_pos (by rw [c3])]
          obtain ⟨m', hm'⟩ : ∃ m', e' = f + m' := ⟨e' - f, by omega⟩
          rw [hm']
          refine hnext m' b' (by omega) (Or.inr ⟨x', by rw [← hm']; exact hself, by omega, by rw [← hm', ← hV]; exact c3, fun q hq hqt hv => ?_⟩)
          rcases hmt q hq with z | z
          · rcases h3 with ⟨q1, q2, q3⟩ | ⟨x, q1, q2, q3, q4⟩
            · exact absurd hv (q3 q z hqt)
            · have := q4 q z hqt hv
              omega
          · subst z
            exact Or.inr ⟨hm', Nat.le_refl _⟩
        · rw [if_neg (by rw [nI_eq (by omega) (by omega)]; exact c3)]
          exact hnext m b hm (hkeep (fun _ z => absurd (hV.trans z) c3))
theorem pTl_choose {w g : Nat → Nat} {n d f t : Nat} {U tb : Nat → Int32} (hn : n ≤ 24) (hg0 : g 0 ≤ 9) (hg1 : g 1 ≤ 20) (hg2 : g 2 ≤ 20) (hg3 : g 3 ≤ 6) (hg4 : g 4 ≤ 4) (hU : UOK w n U) (hT : TD w g n (g 4) 0 (fun _ _ _ => True) tb) (hd : d ≤ g 4) (hf : f < t) (ht : t ≤ n) (hdm : d < g 4 → t - f ≤ n / 2 ^ (g 4 - d)) (nu : Int32) (B E P : Nat → Int32) : ∃ m b nu2 B2 E2 P2, Ch w g d f t m b ∧ fTl_choose (nI n) (nI (g 1)) (nI (g 2)) (nI (g 3)) U tb nu B E P (nI d) (nI f) (nI t) = some (nI (f + m), nI b, nu2, B2, E2, P2) := by
  by_cases c : d = 0
  · subst c
    refine ⟨1, 0, nu, B, E, P, Or.inl ⟨rfl, rfl, fun _ _ _ z => absurd z (by omega)⟩, ?_⟩
    rw [fTl_choose, if_neg (by decide), nI_1]
    rfl
  · have hTd : ∀ d' f' t', dom n (g 4) 0 d' f' t' → tb (ix d' f' t') = nI (cst w g d' f' t') := fun d' f' t' h => hT d' f' t' h (Or.inr trivial)
    have hdue := hTd d f t ⟨hd, by omega, ht, hdm, fun z => by omega⟩
    obtain ⟨B1, E1, P1, hR, e1⟩ := pRp_find (f := f) hn hU hg3 hg1 hg2 (by omega) B E P
    obtain ⟨m2, b2, y1, y2, y3⟩ := pTl_ch41 (t := t) (tb := tb) (d := d) rfl hn hg0 hg1 hg2 hg3 (by omega) (by omega) hf ht hR (fun q hq hqt => by
      obtain ⟨⟨s0, s1⟩, s2, s3⟩ := rl_q hn hg3 _ hq
      refine hTd _ _ _ ⟨by omega, by omega, by omega, fun _ => ?_, fun z => by omega⟩
      rw [half (by omega) hd]
      have h8 : q.2.1 - f ≤ n / 2 ^ (g 4 - d) := by
        by_cases c2 : d < g 4
        · have := hdm c2; omega
        · rw [show g 4 - d = 0 by omega, Nat.pow_zero, Nat.div_one]; omega
      omega) (fun e he1 he2 => hTd _ _ _ ⟨hd, he2, ht, fun z => by have := hdm z; omega, fun z => by omega⟩) (rl w (g 3) n f).length 0 FU 1 0 (by omega) (by have := rl_len (w := w) (M := g 3) (f := f) hn; show _ < 1000000; omega) (by omega) (Or.inl ⟨rfl, rfl, fun q hq => by simp at hq⟩)
    refine ⟨m2, b2, nI (rl w (g 3) n f).length, B1, E1, P1, ?_, ?_⟩
    · rcases y2 with ⟨q1, q2, q3⟩ | ⟨x, q1, q2, q3, q4⟩
      · exact Or.inl ⟨q1, q2, fun b' e' x' _ hr he => q3 (b', e', x') ((mem_rl hn).mpr ⟨hr, by omega⟩) he⟩
      · exact Or.inr ⟨by omega, x, ((mem_rl hn).mp q1).1, q2, q3, fun b' e' x' hr he hv => q4 (b', e', x') ((mem_rl hn).mpr ⟨hr, by omega⟩) he hv⟩
    · rw [fTl_choose, if_pos (show (0 : Int32) < nI d from nI_lt (a := 0) (by omega) (by omega)), pPr_price (by omega) (by omega) (by omega), hdue, Option.bind_some, e1, Option.bind_some, nI_1]
      exact y3
