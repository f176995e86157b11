/-! the model's describes -/
theorem pMD_writes {len c : Nat} {wr0 : Nat → Int32} (h : len < 400) (hc : c < 65536) : fMD_writes (nI len) wr0 (nI c) = some (nI (len + 1), app wr0 len [c]) := by
  rw [fMD_writes, if_pos (bIn_nI h (by omega)), nI_1, i2c_n hc, wrC_nI (by omega), nar_char hc, app_one]
theorem pMD_num17 {len v : Nat} {sg : Nat → Int32} (hv : v < 100) (h : len < 400) : fMD_number_17 (nI v) (nI len) sg = some (nI (len + 1), app sg len [48 + v % 10]) := by
  rw [fMD_number_17, li10, pk_rem (by omega) (by omega) (by omega), li48, nI_add, pMD_writes h (by omega), Option.bind_some]
theorem pMD_num {len v : Nat} {sg : Nat → Int32} (hv : v < 100) (h : len + (nmb v).length ≤ 400) : fMD_number (nI len) sg (nI v) = some (nI (len + (nmb v).length), app sg len (nmb v)) := by
  rw [fMD_number]
  by_cases c : v < 10
  · have e : nmb v = [48 + v] := if_pos c
    rw [e] at h ⊢
    have h1 : len + 1 ≤ 400 := h
    rw [if_pos (show nI v ≤ (9 : Int32) from nI_le (b := 9) (by omega) (by decide)), pMD_num17 hv (by omega), Nat.mod_eq_of_lt c]
    rfl
  · have e : nmb v = [48 + v / 10, 48 + v % 10] := if_neg c
    rw [e] at h ⊢
    have h1 : len + 2 ≤ 400 := h
    rw [if_neg (show ¬ nI v ≤ (9 : Int32) from nI_ge (a := 9) (by omega) (by omega)), li10, pk_div (by omega) (by omega) (by omega), li48, nI_add, pMD_writes (by omega) (by omega), Option.bind_some]
    dsimp only
    rw [pMD_num17 hv (by omega), app_app (by rfl)]
    rfl
theorem pMD_ends9 {w : Nat → Nat} {n f b T : Nat} {s : Nat → Int32} (hn : n ≤ 24) (hw : ∀ i, i < n → w i < 4 ∧ s (6 + i) = nI (w i)) (hb : 1 ≤ b) (hT : f + b * T ≤ n) : ∀ (q r m len : Nat) (sg : Nat → Int32), r + q = b * T → q < m → len + (crs w f b q r).length ≤ 400 → fMD_ends_9 s (nI f) (nI b) (nI T) m (nI r) (nI len) sg = some (nI (len + (crs w f b q r).length), app sg len (crs w f b q r)) := by
  intro q
  induction q with
  | zero =>
    intro r m len sg h1 h2 h3
    obtain ⟨m, rfl⟩ : ∃ q, m = q + 1 := ⟨m - 1, by omega⟩
    rw [fMD_ends_9, pk_mul, if_pos (nI_le (by omega) (by omega))]
    show _ = some (nI (len + 0), app sg len [])
    rw [app_nil]
    rfl
  | succ q ih =>
    intro r m len sg h1 h2 h3
    obtain ⟨m, rfl⟩ : ∃ q, m = q + 1 := ⟨m - 1, by omega⟩
    have ec : crs w f b (q + 1) r = cr1 w f b r ++ crs w f b q (r + 1) := rfl
    obtain ⟨X, hX⟩ : ∃ X, X = b * T := ⟨_, rfl⟩
    rw [← hX] at hT h1
    have hmod : r % b ≤ r := Nat.mod_le _ _
    have l1 := hw (f + r) (by omega)
    have l2 := hw (f + r % b) (by omega)
    have hbn : b < 2 ^ 31 := by
      by_cases c : T = 0
      · subst c; omega
      · have : b * 1 ≤ b * T := Nat.mul_le_mul_left _ (by omega)
        omega
    rw [ec] at h3 ⊢
    rw [List.length_append] at h3
    rw [fMD_ends_9, pk_mul, ← hX, if_neg (nI_ge (by omega) (by omega)), li6, nI_add, nI_add, if_pos (bIn_nI (by omega) (by omega)), if_neg (show ¬ nI b = 0 from nI_ne0 (by omega) hbn), pk_rem (by omega) (by omega) hbn, nI_add, if_pos (bIn_nI (by omega) (by omega)), rd_nI (by omega), rd_nI (by omega), show 6 + f + r = 6 + (f + r) by omega, show 6 + f + r % b = 6 + (f + r % b) by omega, l1.2, l2.2]
    by_cases e : w (f + r) = w (f + r % b)
    · have e0 : cr1 w f b r = [] := if_pos e
      rw [e0] at h3 ⊢
      rw [if_pos (by rw [e]), nI_1, ih (r + 1) m len sg (by omega) (by omega) (by simpa using h3)]
      rfl
    · have e0 : cr1 w f b r = 91 :: (nmb r ++ [44, 97 + w (f + r), 93]) := if_neg e
      have hl0 : (cr1 w f b r).length = (nmb r).length + 4 := by rw [e0, List.length_cons, List.length_append]; rfl
      rw [if_neg (by rw [nI_eq (by omega) (by omega)]; exact e), li91, pMD_writes (by omega) (by omega), Option.bind_some]
      dsimp only
      rw [pMD_num (by omega) (by omega), Option.bind_some]
      dsimp only
      rw [li44, pMD_writes (by omega) (by omega), Option.bind_some, if_pos (bIn_nI (by omega) (by omega)), li97, nI_add]
      dsimp only
      rw [pMD_writes (by omega) (by omega), Option.bind_some]
      dsimp only
      rw [li93, pMD_writes (by omega) (by omega), Option.bind_some]
      dsimp only
      rw [nI_1, app_app (by first | rfl | assumption), app_app (by first | rfl | assumption), app_app (by first | rfl | assumption), app_app (by first | rfl | assumption)]
      have e2 : [91] ++ (nmb r ++ ([44] ++ ([97 + w (f + r)] ++ [93]))) = cr1 w f b r := by rw [e0]; rfl
      rw [e2, ih (r + 1) m _ _ (by omega) (by omega) (by omega), app_app (by rw [hl0]; omega), List.length_append, show len + 1 + (nmb r).length + 1 + 1 + 1 + (crs w f b q (r + 1)).length = len + ((cr1 w f b r).length + (crs w f b q (r + 1)).length) by omega]
/-- a frame on the model's stack -/
def pu (st : Nat → Int32) (h : Nat) (a b c d : Int32) : Nat → Int32 := upd (upd (upd (upd st (4 * h) a) (4 * h + 1) b) (4 * h + 2) c) (4 * h + 3) d
theorem pu_lo {st : Nat → Int32} {h i : Nat} {a b c d : Int32} (hi : i < 4 * h) : pu st h a b c d i = st i := by
  unfold pu
  rw [pk_un (by omega), pk_un (by omega), pk_un (by omega), pk_un (by omega)]
theorem pu_0 {st : Nat → Int32} {h : Nat} {a b c d : Int32} : pu st h a b c d (4 * h) = a := by
  unfold pu
  rw [pk_un (by omega), pk_un (by omega), pk_un (by omega), pk_us]
theorem pu_1 {st : Nat → Int32} {h : Nat} {a b c d : Int32} : pu st h a b c d (4 * h + 1) = b := by
  unfold pu
  rw [pk_un (by omega), pk_un (by omega), pk_us]
theorem pu_2 {st : Nat → Int32} {h : Nat} {a b c d : Int32} : pu st h a b c d (4 * h + 2) = c := by
  unfold pu
  rw [pk_un (by omega), pk_us]
theorem pu_3 {st : Nat → Int32} {h : Nat} {a b c d : Int32} : pu st h a b c d (4 * h + 3) = d := pk_us
theorem pMD_puts {st : Nat → Int32} {h : Nat} {a b c d : Int32} (hh : h < 100) : fMD_puts (nI h) st a b c d = some (nI (h + 1), pu st h a b c d) := by
  rw [fMD_puts, li4, pk_mul, if_pos (bIn_nI (by omega) (by omega)), li1, nI_add, if_pos (bIn_nI (by omega) (by omega)), li2, nI_add, if_pos (bIn_nI (by omega) (by omega)), li3, nI_add, if_pos (bIn_nI (by omega) (by omega)), nI_add, wr_nI (by omega), wr_nI (by omega), wr_nI (by omega), wr_nI (by omega)]
  rfl
theorem pMD_step {bl fi s st wr0 : Nat → Int32} {h N : Nat} {len : Int32} (hh : h < 100) : fMD_describes_23 bl fi s (N + 1) (nI (h + 1)) len st wr0 = if st (4 * h) = (1 : Int32) then (fMD_ends s len wr0 (st (4 * h + 1)) (st (4 * h + 2)) (st (4 * h + 3))).bind fun o9 => fMD_describes_23 bl fi s N (nI h) o9.1 st o9.2 else if st (4 * h + 2) ≤ st (4 * h + 1) then fMD_describes_23 bl fi s N (nI h) len st wr0 else (fMD_opens bl fi s (nI h) len st wr0 (st (4 * h + 1)) (st (4 * h + 2)) (st (4 * h + 3))).bind fun o8 => fMD_describes_23 bl fi s N o8.1 o8.2.1 o8.2.2.1 o8.2.2.2 := by
  rw [fMD_describes_23, if_neg (show ¬ nI (h + 1) ≤ 0 from nI_nle (by omega) (by omega)), li1, pk_sub (by omega), show h + 1 - 1 = h by omega, li4, pk_mul, nI_add, if_pos (bIn_nI (by omega) (by omega)), li2, nI_add, if_pos (bIn_nI (by omega) (by omega)), li3, nI_add, if_pos (bIn_nI (by omega) (by omega)), if_pos (bIn_nI (by omega) (by omega)), rd_nI (by omega), rd_nI (by omega), rd_nI (by omega), rd_nI (by omega)]
set_option maxHeartbeats 2000000 in
theorem pMD_desc {w g : Nat → Nat} {n : Nat} {s bl co fi : Nat → Int32} (hn : n ≤ 24) (hw : ∀ i, i < n → w i < 4 ∧ s (6 + i) = nI (w i)) (hg4 : g 4 ≤ 4) (hM : MT w g n (fun _ _ _ => True) bl co fi) : ∀ (k d f t h N len : Nat) (st wr0 : Nat → Int32), t ≤ n → f ≤ t → t - f ≤ k → d ≤ g 4 → h + 2 * d ≤ 60 → st (4 * h) = nI 0 → st (4 * h + 1) = nI f → st (4 * h + 2) = nI t → st (4 * h + 3) = nI d → len + (tx w g k d f t).length ≤ 400 → 3 * (t - f) + 1 ≤ N → ∃ N2 st2, N ≤ N2 + 3 * (t - f) + 1 ∧ (∀ i, i < 4 * h → st2 i = st i) ∧ fMD_describes_23 bl fi s N (nI (h + 1)) (nI len) st wr0 = fMD_describes_23 bl fi s N2 (nI h) (nI (len + (tx w g k d f t).length)) st2 (app wr0 len (tx w g k d f t)) := by
  have hexit : ∀ (k d f t h N len : Nat) (st wr0 : Nat → Int32), t ≤ n → t ≤ f → f ≤ t → h ≤ 60 → st (4 * h) = nI 0 → st (4 * h + 1) = nI f → st (4 * h + 2) = nI t → 1 ≤ N → ∃ N2 st2, N ≤ N2 + 3 * (t - f) + 1 ∧ (∀ i, i < 4 * h → st2 i = st i) ∧ fMD_describes_23 bl fi s N (nI (h + 1)) (nI len) st wr0 = fMD_describes_23 bl fi s N2 (nI h) (nI (len + (tx w g k d f t).length)) st2 (app wr0 len (tx w g k d f t)) := by
    intro k d f t h N len st wr0 h1 h2 h3 h4 s0 s1 s2 h5
    obtain ⟨N, rfl⟩ : ∃ q, N = q + 1 := ⟨N - 1, by omega⟩
    refine ⟨N, st, by omega, fun _ _ => rfl, ?_⟩
    rw [pMD_step (by omega), s0, s1, s2, if_neg (by decide), if_pos (nI_le h2 (by omega)), tx_nil h2, app_nil]
    rfl
  intro k
  induction k with
  | zero =>
    intro d f t h N len st wr0 ht hf hk hd hh s0 s1 s2 s3 hlen hN
    exact hexit 0 d f t h N len st wr0 ht (by omega) hf (by omega) s0 s1 s2 (by omega)
  | succ k ih =>
    intro d f t h N len st wr0 ht hf hk hd hh s0 s1 s2 s3 hlen hN
    by_cases c : t ≤ f
    · exact hexit (k + 1) d f t h N len st wr0 ht c hf (by omega) s0 s1 s2 (by omega)
    · obtain ⟨N, rfl⟩ : ∃ q, N = q + 1 := ⟨N - 1, by omega⟩
      obtain ⟨m, b, hch, hfi, hbl⟩ := (hM d f t hd hf ht trivial).2 (by omega)
      obtain ⟨h1, h2, h3, h4, h5⟩ := Ch_b hch (by omega)
      rw [pMD_step (by omega), s0, s1, s2, s3, if_neg (by decide), if_neg (nI_ge (by omega) (by omega)), fMD_opens, pPart, Option.bind_some, if_pos (bIn_nI (by omega) (by omega)), rd_nI (by omega), hfi, nI_add, pMD_puts (by omega), Option.bind_some]
      dsimp only
      by_cases hm1 : m = 1
      · have hb := h5 hm1
        subst hb hm1
        have hwf := hw f (by omega)
        rw [tx_let (by omega) hch, List.length_cons] at hlen
        rw [if_pos (show nI 1 = (1 : Int32) from rfl), li6, nI_add, if_pos (bIn_nI (by omega) (by omega)), rd_nI (by omega), hwf.2, li97, nI_add, pMD_writes (by omega) (by omega), Option.bind_some, Option.bind_some]
        dsimp only
        obtain ⟨N2, st2, y1, y2, y3⟩ := ih d (f + 1) t h N (len + 1) (pu st h (0 : Int32) (nI (f + 1)) (nI t) (nI d)) (app wr0 len [97 + w f]) ht (by omega) (by omega) hd hh pu_0 pu_1 pu_2 pu_3 (by omega) (by omega)
        refine ⟨N2, st2, by omega, fun i hi => by rw [y2 i hi, pu_lo hi], ?_⟩
        rw [y3, tx_let (by omega) hch, app_app (by rfl), List.length_cons, show len + 1 + (tx w g k d (f + 1) t).length = len + ((tx w g k d (f + 1) t).length + 1) by omega]
        rfl
      · have hb0 : 0 < b := by
          rcases Nat.eq_zero_or_pos b with z | z
          · exact absurd (h3 z) hm1
          · exact z
        obtain ⟨q1, q2, q3, q4, q5⟩ := Ch_bad hch hb0
        obtain ⟨_, q6⟩ := h4 hb0
        have q7 : m / b ≤ m := Nat.div_le_self _ _
        have q8 : b * (m / b) = m := by rw [Nat.mul_comm]; exact q2
        rw [tx_rep (by omega) hch hb0, rep_len] at hlen
        rw [if_neg (by rw [li1, nI_eq (by omega) (by omega)]; exact hm1), Option.bind_some, if_pos (bIn_nI (by omega) (by omega)), rd_nI (by omega), hbl (by omega), if_neg (nI_ne0 hb0 (by omega)), pk_div (by omega) hb0 (by omega), pMD_num (by omega) (by omega), Option.bind_some]
        dsimp only
        rw [li40, pMD_writes (by omega) (by omega), Option.bind_some, if_neg (nI_ne0 hb0 (by omega)), pMD_puts (by omega), Option.bind_some]
        dsimp only
        rw [nI_add, li1, pk_sub (by omega), pMD_puts (by omega), Option.bind_some, Option.bind_some]
        dsimp only
        obtain ⟨N1, st1, x1, x2, x3⟩ := ih (d - 1) f (f + b) (h + 2) N (len + (nmb (m / b)).length + 1) (pu (pu (pu st h (0 : Int32) (nI (f + m)) (nI t) (nI d)) (h + 1) (nI 1) (nI f) (nI b) (nI (m / b))) (h + 1 + 1) (0 : Int32) (nI f) (nI (f + b)) (nI (d - 1))) (app (app wr0 len (nmb (m / b))) (len + (nmb (m / b)).length) [40]) (by omega) (by omega) (by omega) (by omega) (by omega) pu_0 pu_1 pu_2 pu_3 (by omega) (by omega)
        obtain ⟨N1, rfl⟩ : ∃ q, N1 = q + 1 := ⟨N1 - 1, by omega⟩
        have w0 : st1 (4 * (h + 1)) = nI 1 := by rw [x2 _ (by omega), pu_lo (by omega)]; exact pu_0
        have w1 : st1 (4 * (h + 1) + 1) = nI f := by rw [x2 _ (by omega), pu_lo (by omega)]; exact pu_1
        have w2 : st1 (4 * (h + 1) + 2) = nI b := by rw [x2 _ (by omega), pu_lo (by omega)]; exact pu_2
        have w3 : st1 (4 * (h + 1) + 3) = nI (m / b) := by rw [x2 _ (by omega), pu_lo (by omega)]; exact pu_3
        have hlo : ∀ i, i < 4 * (h + 1) → st1 i = pu st h (0 : Int32) (nI (f + m)) (nI t) (nI d) i := fun i hi => by rw [x2 _ (by omega), pu_lo (by omega), pu_lo (by omega)]
        obtain ⟨len3, hlen3⟩ : ∃ x, x = len + (nmb (m / b)).length + 1 + (tx w g k (d - 1) f (f + b)).length := ⟨_, rfl⟩
        rw [← hlen3] at x3
        have e5 := pMD_ends9 (T := m / b) hn hw (show 1 ≤ b by omega) (show f + b * (m / b) ≤ n by rw [q8]; omega) (m - b) b FU (len3 + 1) (app (app (app (app wr0 len (nmb (m / b))) (len + (nmb (m / b)).length) [40]) (len + (nmb (m / b)).length + 1) (tx w g k (d - 1) f (f + b))) len3 [41]) (by rw [q8]; omega) (by show _ < 1000000; omega) (by omega)
        obtain ⟨N2, st2, y1, y2, y3⟩ := ih d (f + m) t h N1 (len3 + 1 + (crs w f b (m - b) b).length) st1 (app (app (app (app (app wr0 len (nmb (m / b))) (len + (nmb (m / b)).length) [40]) (len + (nmb (m / b)).length + 1) (tx w g k (d - 1) f (f + b))) len3 [41]) (len3 + 1) (crs w f b (m - b) b)) ht (by omega) (by omega) hd hh (by rw [hlo _ (by omega)]; exact pu_0) (by rw [hlo _ (by omega)]; exact pu_1) (by rw [hlo _ (by omega)]; exact pu_2) (by rw [hlo _ (by omega)]; exact pu_3) (by omega) (by omega)
        refine ⟨N2, st2, by omega, fun i hi => by rw [y2 i hi, hlo i (by omega), pu_lo hi], ?_⟩
        refine x3.trans ?_
        rw [pMD_step (by omega), w0, w1, w2, w3, if_pos (show nI 1 = (1 : Int32) from rfl), fMD_ends, li41, pMD_writes (by omega) (by omega), Option.bind_some]
        dsimp only
        rw [e5, Option.bind_some]
        dsimp only
        rw [y3, tx_rep (by omega) hch hb0, rep_len]
        rw [app_app (by first | rfl | assumption), app_app (by first | rfl | assumption), app_app (by first | rfl | assumption), app_app (by first | rfl | assumption), app_app (by first | rfl | assumption)]
        have el : nmb (m / b) ++ ([40] ++ (tx w g k (d - 1) f (f + b) ++ ([41] ++ (crs w f b (m - b) b ++ tx w g k d (f + m) t)))) = nmb (m / b) ++ 40 :: (tx w g k (d - 1) f (f + b) ++ 41 :: (crs w f b (m - b) b ++ tx w g k d (f + m) t)) := rfl
        rw [el, show len3 + 1 + (crs w f b (m - b) b).length + (tx w g k d (f + m) t).length = len + ((nmb (m / b)).length + 1 + (tx w g k (d - 1) f (f + b)).length + 1 + (crs w f b (m - b) b).length + (tx w g k d (f + m) t).length) by omega]
theorem pMD_describes {w g : Nat → Nat} {n a b : Nat} {s bl co fi : Nat → Int32} (hn : n ≤ 24) (hw : ∀ i, i < n → w i < 4 ∧ s (6 + i) = nI (w i)) (hg3 : g 3 ≤ 6) (hg4 : g 4 ≤ 4) (h5 : s 5 = nI (g 4)) (hC : ChA w g n) (hM : MT w g n (fun _ _ _ => True) bl co fi) (hab : a ≤ b) (hb : b ≤ n) (st wr0 : Nat → Int32) : ∃ st2, fMD_describes bl fi s st wr0 (nI a) (nI b) = some (nI 0, nI (tx w g 24 (g 4) a b).length, st2, app wr0 0 (tx w g 24 (g 4) a b)) := by
  have hl := tx_len hn hg3 hC 24 (g 4) a b (Nat.le_refl _) hb
  have hl2 := bt_24 (b - a) (by omega)
  obtain ⟨N2, st2, y1, y2, y3⟩ := pMD_desc hn hw hg4 hM 24 (g 4) a b 0 FU 0 (pu st 0 (0 : Int32) (nI a) (nI b) (nI (g 4))) wr0 hb hab (by omega) (Nat.le_refl _) (by omega) pu_0 pu_1 pu_2 pu_3 (by omega) (by show _ ≤ 1000000; omega)
  obtain ⟨N2, rfl⟩ : ∃ q, N2 = q + 1 := ⟨N2 - 1, by
    have : (1000000 : Nat) ≤ N2 + 3 * (b - a) + 1 := y1
    omega⟩
  refine ⟨st2, ?_⟩
  rw [fMD_describes, li5, rd_nI (by omega), h5, li0, pMD_puts (by omega), Option.bind_some]
  dsimp only
  rw [li0] at y3
  rw [y3, fMD_describes_23, if_pos (by decide), Nat.zero_add]
