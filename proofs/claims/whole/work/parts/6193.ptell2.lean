/-! the class's telling: items, repeats, the whole -/
theorem dp_le {w g : Nat → Nat} : ∀ k d f t, dp w g k d f t ≤ k := by
  intro k
  induction k with
  | zero => intro d f t; exact Nat.le_refl _
  | succ k ih =>
    intro d f t
    rw [dp]
    have h1 := ih (d - 1) f (f + (cho w g d f t).2)
    have h2 := ih d (f + (cho w g d f t).1) t
    have h3 := ih d (f + 1) t
    split
    · omega
    · split <;> omega
theorem ifmax {a b : Nat} (ha : a < 2 ^ 31) (hb : b < 2 ^ 31) : (if nI a < nI b then nI b else nI a) = nI (max a b) := by
  by_cases c : a < b
  · rw [if_pos (nI_lt c hb), show max a b = b by omega]
  · rw [if_neg (nI_nlt (by omega) ha), show max a b = a by omega]
theorem rep_ct40 {w : Nat → Nat} {f b m v : Nat} {X Y : List Nat} (hv : v < 100) (hm : b + (m - b) ≤ 100) : ct 40 (nmb v ++ 40 :: (X ++ 41 :: (crs w f b (m - b) b ++ Y))) = 1 + ct 40 X + ct 40 Y := by
  rw [ct_app, nmb_ct hv (by omega)]
  show 0 + ((if 40 = 40 then 1 else 0) + ct 40 (X ++ 41 :: (crs w f b (m - b) b ++ Y))) = _
  rw [if_pos rfl, ct_app]
  show 0 + (1 + (ct 40 X + ((if 41 = 40 then 1 else 0) + ct 40 (crs w f b (m - b) b ++ Y)))) = _
  rw [if_neg (by omega), ct_app, crs_ct _ _ hm]
  omega
theorem rep_ct91 {C X Y : List Nat} {v : Nat} (hv : v < 100) : ct 91 (nmb v ++ 40 :: (X ++ 41 :: (C ++ Y))) = ct 91 X + ct 91 C + ct 91 Y := by
  rw [ct_app, nmb_ct hv (by omega)]
  show 0 + ((if 40 = 91 then 1 else 0) + ct 91 (X ++ 41 :: (C ++ Y))) = _
  rw [if_neg (by omega), ct_app]
  show 0 + (0 + (ct 91 X + ((if 41 = 91 then 1 else 0) + ct 91 (C ++ Y)))) = _
  rw [if_neg (by omega), ct_app]
  omega
theorem rep_len {C X Y N : List Nat} : (N ++ 40 :: (X ++ 41 :: (C ++ Y))).length = N.length + 1 + X.length + 1 + C.length + Y.length := by
  rw [List.length_append, List.length_cons, List.length_append, List.length_cons, List.length_append]
  omega
theorem tup {a a2 b b2 c c2 e e2 h h2 : Nat} {x1 x2 x3 : Int32} {X1 X2 X3 S S2 : Nat → Int32} (h1 : a = a2) (h3 : b = b2) (h4 : c = c2) (h5 : e = e2) (h6 : h = h2) (h7 : S = S2) : some (nI a, nI b, nI c, nI e, nI h, x1, x2, x3, X1, X2, X3, S) = some (nI a2, nI b2, nI c2, nI e2, nI h2, x1, x2, x3, X1, X2, X3, S2) := by rw [h1, h3, h4, h5, h6, h7]
set_option maxHeartbeats 2000000 in
theorem pTl_items {w g : Nat → Nat} {n : Nat} {L U tb : Nat → Int32} (hn : n ≤ 24) (hw : ∀ i, i < n → w i < 4 ∧ L i = nI (w i)) (hg0 : g 0 ≤ 9) (hg1 : g 1 ≤ 20) (hg2 : g 2 ≤ 20) (hg3 : g 3 ≤ 6) (hg4 : g 4 ≤ 4) (hU : UOK w n U) (hT : TD w g n (g 4) 0 (fun _ _ _ => True) tb) (pF pT d0 fL fT fr vf : Int32) : ∀ (k d f t j m many most len rp cc : Nat) (it ce cb nu : Int32) (B E P sg : Nat → Int32), k ≤ 24 → most ≤ 100 → t ≤ n → f ≤ t → t - f ≤ k → d ≤ g 4 → (d < g 4 → t - f ≤ n / 2 ^ (g 4 - d)) → d ≤ j → t - f < m → many + (t - f) ≤ 24 → len + (tx w g k d f t).length ≤ 160 → ∃ ce2 cb2 nu2 B2 E2 P2, fTl_tellItems_10 (fTl_tellRepeat (fTl_tellItems j)) pF pT d0 fL fT fr (nI n) (nI (g 1)) (nI (g 2)) (nI (g 3)) U (nI n) L vf tb (nI d) (nI t) m (nI many) (nI most) (nI f) (nI len) it (nI rp) (nI cc) ce cb nu B E P sg = some (nI (max most (dp w g k d f t)), nI (len + (tx w g k d f t).length), nI (many + ni w g k d f t), nI (rp + ct 40 (tx w g k d f t)), nI (cc + ct 91 (tx w g k d f t)), ce2, cb2, nu2, B2, E2, P2, app sg len (tx w g k d f t)) := by
  intro k
  induction k with
  | zero =>
    intro d f t j m many most len rp cc it ce cb nu B E P sg hk hmo ht hf hk2 hd hdm hj hm hmn hlen
    obtain ⟨m, rfl⟩ : ∃ q, m = q + 1 := ⟨m - 1, by omega⟩
    have e : t ≤ f := by omega
    refine ⟨ce, cb, nu, B, E, P, ?_⟩
    rw [fTl_tellItems_10, if_pos (nI_le e (by omega)), tx_nil e, dp_nil e, ni_nil e, app_nil, Nat.max_zero]
    rfl
  | succ k ih =>
    intro d f t j m many most len rp cc it ce cb nu B E P sg hk hmo ht hf hk2 hd hdm hj hm hmn hlen
    obtain ⟨m, rfl⟩ : ∃ q, m = q + 1 := ⟨m - 1, by omega⟩
    by_cases c : t ≤ f
    · refine ⟨ce, cb, nu, B, E, P, ?_⟩
      rw [fTl_tellItems_10, if_pos (nI_le c (by omega)), tx_nil c, dp_nil c, ni_nil c, app_nil, Nat.max_zero]
      rfl
    · obtain ⟨m2, b, nu2, B2, E2, P2, hch, e3⟩ := pTl_choose hn hg0 hg1 hg2 hg3 hg4 hU hT hd (show f < t by omega) ht hdm nu B E P
      obtain ⟨h1, h2, h3, h4, h5⟩ := Ch_b hch (by omega)
      by_cases hb : b = 0
      · subst hb
        have hm1 := h3 rfl
        subst hm1
        rw [tx_let (by omega) hch, List.length_cons] at hlen
        obtain ⟨ce3, cb3, nu3, B3, E3, P3, e4⟩ := ih d (f + 1) t j m (many + 1) most (len + 1) rp cc it (nI (f + 1)) (nI 0) nu2 B2 E2 P2 (app sg len [97 + w f]) (by omega) hmo ht (by omega) (by omega) hd (fun z => by have := hdm z; omega) hj (by omega) (by omega) (by omega)
        refine ⟨ce3, cb3, nu3, B3, E3, P3, ?_⟩
        have hwf := hw f (by omega)
        rw [fTl_tellItems_10, if_neg (nI_ge (by omega) (by omega)), if_neg (show ¬ (24 : Int32) ≤ nI many from nI_ge (b := 24) (by omega) (by decide)), e3, Option.bind_some]
        dsimp only
        rw [if_pos (show nI 0 ≤ 0 by decide), fTl_tellItems_79, pSt_letter_in hn (by omega), Option.bind_some, hwf.2, li97, nI_add, pTl_put (by omega), Option.bind_some]
        dsimp only
        rw [nI_1, e4, tx_let (by omega) hch, dp_let (by omega) hch, ni_let (by omega) hch]
        refine tup rfl (by rw [List.length_cons]; omega) (by omega) ?_ ?_ (by rw [app_app (by rfl)]; rfl)
        · show _ = rp + ((if 97 + w f = 40 then 1 else 0) + _)
          rw [if_neg (by omega), Nat.zero_add]
        · show _ = cc + ((if 97 + w f = 91 then 1 else 0) + _)
          rw [if_neg (by omega), Nat.zero_add]
      · obtain ⟨q1, q2, q3, q4, q5⟩ := Ch_bad hch (by omega)
        obtain ⟨_, q6⟩ := h4 (by omega)
        obtain ⟨j, rfl⟩ : ∃ q, j = q + 1 := ⟨j - 1, by omega⟩
        have q7 : m2 / b ≤ m2 := Nat.div_le_self _ _
        have q8 : b * (m2 / b) = m2 := by rw [Nat.mul_comm]; exact q2
        have q9 : (m2 / b - 1) * b = m2 - b := by rw [Nat.sub_mul, Nat.one_mul, q2]
        have hdb := dp_le (w := w) (g := g) k (d - 1) f (f + b)
        rw [tx_rep (by omega) hch (by omega), rep_len] at hlen
        obtain ⟨ce3, cb3, nu3, B3, E3, P3, e4⟩ := ih (d - 1) f (f + b) j FU 0 0 (len + (nmb (m2 / b)).length + 1) (rp + 1) cc it (nI (f + m2)) (nI b) nu2 B2 E2 P2 (app (app sg len (nmb (m2 / b))) (len + (nmb (m2 / b)).length) [40]) (by omega) (by omega) (by omega) (by omega) (by omega) (by omega) (fun z => by
          rw [half (by omega) hd]
          have h8 : t - f ≤ n / 2 ^ (g 4 - d) := by
            by_cases c2 : d < g 4
            · exact hdm c2
            · rw [show g 4 - d = 0 by omega, Nat.pow_zero, Nat.div_one]; omega
          omega) (by omega) (by show _ < 1000000; omega) (by omega) (by omega)
        obtain ⟨len3, hlen3⟩ : ∃ x, x = len + (nmb (m2 / b)).length + 1 + (tx w g k (d - 1) f (f + b)).length := ⟨_, rfl⟩
        rw [← hlen3] at e4
        have e5 := pTl_r68 (T := m2 / b) (e := f + m2) hn hw (show 1 ≤ b by omega) (by rw [q8]) (by omega) (nI (max 0 (dp w g k (d - 1) f (f + b)))) (nI (0 + ni w g k (d - 1) f (f + b))) (nI (rp + 1 + ct 40 (tx w g k (d - 1) f (f + b)))) ce3 cb3 nu3 B3 E3 P3 (m2 / b - 1) 1 FU (len3 + 1) (cc + ct 91 (tx w g k (d - 1) f (f + b))) (app (app (app (app sg len (nmb (m2 / b))) (len + (nmb (m2 / b)).length) [40]) (len + (nmb (m2 / b)).length + 1) (tx w g k (d - 1) f (f + b))) len3 [41]) (by omega) (by show _ < 1000000; omega) (by rw [q9, Nat.mul_one]; omega)
        rw [q9, Nat.mul_one] at e5
        obtain ⟨ce4, cb4, nu4, B4, E4, P4, e6⟩ := ih d (f + m2) t (j + 1) m (many + 1) (max most (1 + dp w g k (d - 1) f (f + b))) (len3 + 1 + (crs w f b (m2 - b) b).length) (rp + 1 + ct 40 (tx w g k (d - 1) f (f + b))) (cc + ct 91 (tx w g k (d - 1) f (f + b)) + ct 91 (crs w f b (m2 - b) b)) (nI (0 + ni w g k (d - 1) f (f + b))) ce3 cb3 nu3 B3 E3 P3 (app (app (app (app (app sg len (nmb (m2 / b))) (len + (nmb (m2 / b)).length) [40]) (len + (nmb (m2 / b)).length + 1) (tx w g k (d - 1) f (f + b))) len3 [41]) (len3 + 1) (crs w f b (m2 - b) b)) (by omega) (by omega) ht (by omega) (by omega) hd (fun z => by have := hdm z; omega) (by omega) (by omega) (by omega) (by omega)
        refine ⟨ce4, cb4, nu4, B4, E4, P4, ?_⟩
        have hblk : fTl_tellItems (j + 1) (nI (len + (nmb (m2 / b)).length + 1)) pF pT it d0 (nI (rp + 1)) (nI cc) fL fT (nI (f + m2)) (nI b) fr (nI n) (nI (g 1)) (nI (g 2)) (nI (g 3)) nu2 B2 E2 P2 U (app (app sg len (nmb (m2 / b))) (len + (nmb (m2 / b)).length) [40]) (nI n) L vf tb (nI (d - 1)) (nI f) (nI (f + b)) = _ := e4
        rw [fTl_tellItems_10, if_neg (nI_ge (by omega) (by omega)), if_neg (show ¬ (24 : Int32) ≤ nI many from nI_ge (b := 24) (by omega) (by decide)), e3, Option.bind_some]
        dsimp only
        rw [if_neg (nI_nle (by omega) (by omega)), if_neg (nI_nle (by omega) (by omega)), fTl_tellRepeat, if_neg (nI_nle (by omega) (by omega)), if_neg (nI_ne0 (by omega) (by omega)), pk_sub (by omega), show f + m2 - f = m2 by omega, pk_div (by omega) (by omega) (by omega), fTl_tellRepeat_28, pTl_num (by omega) (by omega), Option.bind_some]
        dsimp only
        rw [li40, pTl_put (by omega), Option.bind_some]
        dsimp only
        rw [li1, pk_sub (by omega), nI_add, nI_add, hblk, Option.bind_some]
        dsimp only
        rw [li41, pTl_put (by omega), Option.bind_some]
        dsimp only
        rw [e5, Option.bind_some]
        dsimp only
        rw [nI_add, nI_add, Nat.zero_max, ifmax (by omega) (by omega), e6, tx_rep (by omega) hch (by omega), dp_rep (by omega) hch (by omega), ni_rep (by omega) hch (by omega)]
        refine tup (by omega) (by rw [rep_len]; omega) (by omega) (by rw [rep_ct40 (by omega) (by omega)]; omega) (by rw [rep_ct91 (by omega)]; omega) ?_
        rw [app_app (by first | rfl | assumption), app_app (by first | rfl | assumption), app_app (by first | rfl | assumption), app_app (by first | rfl | assumption), app_app (by first | rfl | assumption)]
        rfl
/-- what telling a part gives -/
def TelO (w g : Nat → Nat) (a b : Nat) (len items deepest reps cors fl_ ft : Int32) (sg : Nat → Int32) : Prop := len = nI (tx w g 24 (g 4) a b).length ∧ items = nI (ni w g 24 (g 4) a b) ∧ deepest = nI (dp w g 24 (g 4) a b) ∧ reps = nI (ct 40 (tx w g 24 (g 4) a b)) ∧ cors = nI (ct 91 (tx w g 24 (g 4) a b)) ∧ (∃ m c, Ch w g (g 4) a b m c ∧ fl_ = nI m ∧ ft = nI (if c = 0 then 1 else m / c)) ∧ ∀ i c, (tx w g 24 (g 4) a b)[i]? = some c → sg i = nI c
set_option maxHeartbeats 1000000 in
theorem pTl_25 {w g : Nat → Nat} {n a b : Nat} {L S tb : Nat → Int32} (hSt : StOK n w g (nI n) L S) (hT : TD w g n (g 4) 0 (fun _ _ _ => True) tb) (hC : ChA w g n) (hab : a < b) (hb : b ≤ n) (vf len pF pT it d0 rp cc fL fT ce cb fr rs rr cp mc nu : Int32) (B E P T U sg : Nat → Int32) : ∃ len2 it2 d2 rp2 cc2 fL2 fT2 ce2 cb2 rs2 rr2 cp2 mc2 nu2 B2 E2 P2 T2 U2 sg2, TelO w g a b len2 it2 d2 rp2 cc2 fL2 fT2 sg2 ∧ fTl_refresh_25 (nI n) L S vf tb (nI a) (nI b) len pF pT it d0 rp cc fL fT ce cb fr rs rr cp mc nu B E P T U sg = some (len2, nI a, nI b, it2, d2, rp2, cc2, fL2, fT2, ce2, cb2, 1, rs2, rr2, cp2, mc2, nu2, B2, E2, P2, T2, U2, sg2) := by
  obtain ⟨T1, U1, hU, e1⟩ := pRp_look hSt T U
  obtain ⟨_, hn, hw, hS5, ⟨_, hg0⟩, hg1, hg2, hg3, hg4⟩ := id hSt
  obtain ⟨m, c, nu1, B1, E1, P1, hch, e2⟩ := pTl_choose hn hg0 hg1 hg2 hg3 hg4 hU hT (Nat.le_refl _) hab hb (fun z => by omega) nu B E P
  obtain ⟨h1, h2, h3, h4, h5⟩ := Ch_b hch hab
  have hl := tx_len hn hg3 hC 24 (g 4) a b (Nat.le_refl _) hb
  have hl2 := bt_24 (b - a) (by omega)
  have key : ∀ ft : Nat, ft = (if c = 0 then 1 else m / c) → ∃ len2 it2 d2 rp2 cc2 fL2 fT2 ce2 cb2 rs2 rr2 cp2 mc2 nu2 B2 E2 P2 T2 U2 sg2, TelO w g a b len2 it2 d2 rp2 cc2 fL2 fT2 sg2 ∧ fTl_refresh_113 (nI n) L vf tb (nI a) (nI b) (nI (g 4)) (nI ft) (nI 0) (nI a) (nI b) it d0 (nI 0) (nI 0) (nI m) fT (nI (a + m)) (nI c) (1 : Int32) (nI n) (nI (g 1)) (nI (g 2)) (nI (g 3)) nu1 B1 E1 P1 T1 U1 sg = some (len2, nI a, nI b, it2, d2, rp2, cc2, fL2, fT2, ce2, cb2, 1, rs2, rr2, cp2, mc2, nu2, B2, E2, P2, T2, U2, sg2) := by
    intro ft hft
    obtain ⟨ce3, cb3, nu3, B3, E3, P3, e4⟩ := pTl_items hn hw hg0 hg1 hg2 hg3 hg4 hU hT (nI a) (nI b) d0 (nI m) (nI ft) (1 : Int32) vf 24 (g 4) a b 7 FU 0 0 0 0 0 it (nI (a + m)) (nI c) nu1 B1 E1 P1 sg (by omega) (by omega) hb (by omega) (by omega) (Nat.le_refl _) (fun z => by omega) (by omega) (by show _ < 1000000; omega) (by omega) (by omega)
    have hblk : fTl_tellItems 8 (nI 0) (nI a) (nI b) it d0 (nI 0) (nI 0) (nI m) (nI ft) (nI (a + m)) (nI c) (1 : Int32) (nI n) (nI (g 1)) (nI (g 2)) (nI (g 3)) nu1 B1 E1 P1 U1 sg (nI n) L vf tb (nI (g 4)) (nI a) (nI b) = _ := e4
    refine ⟨nI (tx w g 24 (g 4) a b).length, nI (ni w g 24 (g 4) a b), nI (dp w g 24 (g 4) a b), nI (ct 40 (tx w g 24 (g 4) a b)), nI (ct 91 (tx w g 24 (g 4) a b)), nI m, nI ft, ce3, cb3, nI n, nI (g 1), nI (g 2), nI (g 3), nu3, B3, E3, P3, T1, U1, app sg 0 (tx w g 24 (g 4) a b), ⟨rfl, rfl, rfl, rfl, rfl, ⟨m, c, hch, rfl, by rw [hft]⟩, fun i c' hi => ?_⟩, ?_⟩
    · have := app_at (sg := sg) (len := 0) hi
      rw [Nat.zero_add] at this
      exact this
    · rw [fTl_refresh_113, hblk, Option.bind_some]
      dsimp only
      rw [Nat.zero_add, Nat.zero_add, Nat.zero_add, Nat.zero_add, Nat.zero_max]
  rw [fTl_refresh_25, e1, Option.bind_some]
  dsimp only
  rw [li4, pSt_setting (by omega), Option.bind_some, hS5 4 (by omega), e2, Option.bind_some]
  dsimp only
  rw [pk_sub (by omega), show a + m - a = m by omega, li0, li1]
  by_cases c0 : c = 0
  · rw [if_pos (by rw [c0]; decide)]
    exact key 1 (by rw [if_pos c0])
  · rw [if_neg (show ¬ nI c ≤ nI 0 from nI_nle (by omega) (by omega)), if_neg (show ¬ nI c = nI 0 from nI_ne0 (by omega) (by omega)), pk_div (by omega) (by omega) (by omega)]
    exact key (m / c) (by rw [if_neg c0])
