/-! what the model reads off its text: levels, signs -/
def cob (co c : Nat) : Nat := if c = 91 then 1 else if co = 0 then 0 else if c = 93 then 0 else 1
def lvb (lv c : Nat) : Nat := if c = 40 then lv + 1 else if c = 41 then lv - 1 else lv
def itb (lv it co c : Nat) : Nat := it + (if lv = 0 ∧ (c = 40 ∨ (97 ≤ c ∧ c ≤ 100 ∧ cob co c = 0)) then 1 else 0)
def ls (s : Nat × Nat × Nat × Nat) (c : Nat) : Nat × Nat × Nat × Nat := (lvb s.1 c, max s.2.1 (lvb s.1 c), itb s.1 s.2.2.1 s.2.2.2 c, cob s.2.2.2 c)
theorem ls_eq {lv mo it co c l2 m2 i2 c2 : Nat} (h1 : lvb lv c = l2) (h2 : max mo l2 = m2) (h3 : itb lv it co c = i2) (h4 : cob co c = c2) : ls (lv, mo, it, co) c = (l2, m2, i2, c2) := by
  subst h1 h2 h3 h4
  rfl
def SC : List Nat → Nat × Nat × Nat × Nat → Nat × Nat × Nat × Nat → Prop
  | [], s, s2 => s2 = s
  | c :: l, s, s2 => (c = 41 → 1 ≤ s.1) ∧ SC l (ls s c) s2
theorem SC_app {l2 : List Nat} {s1 s2 : Nat × Nat × Nat × Nat} (h2 : SC l2 s1 s2) : ∀ (l : List Nat) (s : Nat × Nat × Nat × Nat), SC l s s1 → SC (l ++ l2) s s2 := by
  intro l
  induction l with
  | nil => intro s h; have : s1 = s := h; subst this; exact h2
  | cons c l ih => intro s h; exact ⟨h.1, ih _ h.2⟩
theorem SC_cons {l : List Nat} {c : Nat} {s s1 s2 : Nat × Nat × Nat × Nat} (h0 : c = 41 → 1 ≤ s.1) (h1 : ls s c = s1) (h : SC l s1 s2) : SC (c :: l) s s2 := ⟨h0, by rw [h1]; exact h⟩
theorem ls_o {lv mo it co c : Nat} (h : lv ≤ mo) (h1 : c ≠ 40) (h2 : c ≠ 41) (h3 : c < 97 ∨ co = 1) (h4 : c ≠ 91) (h5 : c ≠ 93) (hc : co = 0 ∨ co = 1) : ls (lv, mo, it, co) c = (lv, mo, it, co) := by
  have e : cob co c = co := by
    unfold cob
    rw [if_neg h4]
    rcases hc with z | z
    · rw [if_pos z, z]
    · rw [if_neg (by omega), if_neg h5, z]
  refine ls_eq ?_ (by omega) ?_ e
  · unfold lvb
    rw [if_neg h1, if_neg h2]
  · unfold itb
    rw [e, if_neg (by omega)]
    rfl
theorem SC_nmb {l : List Nat} {lv mo it co v : Nat} {s2 : Nat × Nat × Nat × Nat} (h : lv ≤ mo) (hv : v < 100) (hc : co = 0 ∨ co = 1) (hl : SC l (lv, mo, it, co) s2) : SC (nmb v ++ l) (lv, mo, it, co) s2 := by
  have hd : ∀ x, x < 10 → ls (lv, mo, it, co) (48 + x) = (lv, mo, it, co) := fun x hx => ls_o h (by omega) (by omega) (by omega) (by omega) (by omega) hc
  unfold nmb
  by_cases c : v < 10
  · rw [if_pos c]
    exact SC_cons (fun z => by omega) (hd v c) hl
  · rw [if_neg c]
    exact SC_cons (fun z => by omega) (hd (v / 10) (by omega)) (SC_cons (fun z => by omega) (hd (v % 10) (by omega)) hl)
theorem SC_crs {w : Nat → Nat} {f b n lv mo it : Nat} (hw : ∀ i, i < n → w i < 4) (h : lv ≤ mo) {l : List Nat} {s2 : Nat × Nat × Nat × Nat} (hl : SC l (lv, mo, it, 0) s2) : ∀ k s, f + s + k ≤ n → n ≤ 24 → SC (crs w f b k s ++ l) (lv, mo, it, 0) s2 := by
  intro k
  induction k with
  | zero => intro s _ _; exact hl
  | succ k ih =>
    intro s h1 h2
    have h3 := ih (s + 1) (by omega) h2
    show SC (cr1 w f b s ++ crs w f b k (s + 1) ++ l) _ _
    rw [List.append_assoc]
    unfold cr1
    by_cases c : w (f + s) = w (f + s % b)
    · rw [if_pos c]; exact h3
    · rw [if_neg c]
      have h4 := hw (f + s) (by omega)
      have e1 : ls (lv, mo, it, 0) 91 = (lv, mo, it, 1) := by
        refine ls_eq rfl (by omega) ?_ rfl
        unfold itb
        rw [if_neg (by omega)]
        rfl
      have e2 : ls (lv, mo, it, 1) 93 = (lv, mo, it, 0) := by
        refine ls_eq rfl (by omega) ?_ rfl
        unfold itb
        rw [if_neg (by omega)]
        rfl
      rw [show (91 :: (nmb s ++ [44, 97 + w (f + s), 93])) ++ (crs w f b k (s + 1) ++ l) = 91 :: (nmb s ++ (44 :: (97 + w (f + s)) :: 93 :: (crs w f b k (s + 1) ++ l))) by simp]
      refine SC_cons (fun z => by omega) e1 (SC_nmb h (by omega) (Or.inr rfl) ?_)
      exact SC_cons (fun z => by omega) (ls_o h (by omega) (by omega) (Or.inl (by omega)) (by omega) (by omega) (Or.inr rfl)) (SC_cons (fun z => by omega) (ls_o h (by omega) (by omega) (Or.inr rfl) (by omega) (by omega) (Or.inr rfl)) (SC_cons (fun z => by omega) e2 h3))
theorem SC_tx {w g : Nat → Nat} {n : Nat} (hn : n ≤ 24) (hw : ∀ i, i < n → w i < 4) (hC : ChA w g n) : ∀ k d f t lv mo it (l : List Nat) (s2 : Nat × Nat × Nat × Nat), d ≤ g 4 → t ≤ n → lv ≤ mo → SC l (lv, max mo (lv + dp w g k d f t), it + (if lv = 0 then ni w g k d f t else 0), 0) s2 → SC (tx w g k d f t ++ l) (lv, mo, it, 0) s2 := by
  intro k
  induction k with
  | zero =>
    intro d f t lv mo it l s2 hd ht hm hl
    have e : max mo (lv + dp w g 0 d f t) = mo := by show max mo (lv + 0) = mo; omega
    have e2 : it + (if lv = 0 then ni w g 0 d f t else 0) = it := by show it + (if lv = 0 then 0 else 0) = it; split <;> omega
    rw [e, e2] at hl
    exact hl
  | succ k ih =>
    intro d f t lv mo it l s2 hd ht hm hl
    by_cases c : t ≤ f
    · rw [dp_nil c, ni_nil c] at hl
      rw [tx_nil c]
      have e : max mo (lv + 0) = mo := by omega
      have e2 : it + (if lv = 0 then 0 else 0) = it := by split <;> omega
      rw [e, e2] at hl
      exact hl
    · obtain ⟨m, b, hch⟩ := hC d f t hd (by omega) ht
      obtain ⟨h1, h2, h3, h4, h5⟩ := Ch_b hch (by omega)
      by_cases hb : b = 0
      · subst hb
        rw [dp_let (by omega) hch, ni_let (by omega) hch] at hl
        rw [tx_let (by omega) hch]
        have hwf := hw f (by omega)
        have e1 : ls (lv, mo, it, 0) (97 + w f) = (lv, mo, it + (if lv = 0 then 1 else 0), 0) := by
          have e0 : cob 0 (97 + w f) = 0 := by
            unfold cob
            rw [if_neg (show ¬ 97 + w f = 91 by omega), if_pos rfl]
          refine ls_eq (by unfold lvb; rw [if_neg (show ¬ 97 + w f = 40 by omega), if_neg (show ¬ 97 + w f = 41 by omega)]) (by omega) ?_ e0
          unfold itb
          rw [e0]
          by_cases z : lv = 0
          · rw [if_pos z, if_pos ⟨z, Or.inr ⟨by omega, by omega, rfl⟩⟩]
          · rw [if_neg z, if_neg (fun q => z q.1)]
        refine SC_cons (fun z => by omega) e1 (ih d (f + 1) t lv mo _ l s2 hd ht hm ?_)
        have e2 : it + (if lv = 0 then 1 else 0) + (if lv = 0 then ni w g k d (f + 1) t else 0) = it + (if lv = 0 then 1 + ni w g k d (f + 1) t else 0) := by split <;> omega
        rw [e2]
        exact hl
      · obtain ⟨q1, q2, q3, q4, q5⟩ := Ch_bad hch (by omega)
        obtain ⟨_, q6⟩ := h4 (by omega)
        have q7 : m / b ≤ m := Nat.div_le_self _ _
        rw [dp_rep (by omega) hch (by omega), ni_rep (by omega) hch (by omega)] at hl
        rw [tx_rep (by omega) hch (by omega)]
        have e1 : ls (lv, mo, it, 0) 40 = (lv + 1, max mo (lv + 1), it + (if lv = 0 then 1 else 0), 0) := by
          refine ls_eq rfl rfl ?_ rfl
          unfold itb
          by_cases z : lv = 0
          · rw [if_pos z, if_pos ⟨z, Or.inl rfl⟩]
          · rw [if_neg z, if_neg (fun q => z q.1)]
        have e2 : ∀ mo2 it2, lv + 1 ≤ mo2 → ls (lv + 1, mo2, it2, 0) 41 = (lv, mo2, it2, 0) := by
          intro mo2 it2 z
          refine ls_eq rfl (by show max mo2 (lv + 1 - 1) = mo2; omega) ?_ rfl
          unfold itb
          rw [if_neg (by omega)]
          rfl
        rw [show nmb (m / b) ++ 40 :: (tx w g k (d - 1) f (f + b) ++ 41 :: (crs w f b (m - b) b ++ tx w g k d (f + m) t)) ++ l = nmb (m / b) ++ (40 :: (tx w g k (d - 1) f (f + b) ++ (41 :: (crs w f b (m - b) b ++ (tx w g k d (f + m) t ++ l))))) by simp [List.append_assoc]]
        refine SC_nmb hm (by omega) (Or.inl rfl) (SC_cons (fun z => by omega) e1 (ih (d - 1) f (f + b) (lv + 1) (max mo (lv + 1)) _ _ s2 (by omega) (by omega) (by omega) ?_))
        rw [if_neg (show ¬ lv + 1 = 0 by omega)]
        refine SC_cons (fun _ => by show 1 ≤ lv + 1; omega) (e2 _ _ (by omega)) (SC_crs hw (by omega) (ih d (f + m) t lv _ _ l s2 hd ht (by omega) ?_) (m - b) b (by omega) hn)
        have e3 : max (max (max mo (lv + 1)) (lv + 1 + dp w g k (d - 1) f (f + b))) (lv + dp w g k d (f + m) t) = max mo (lv + max (1 + dp w g k (d - 1) f (f + b)) (dp w g k d (f + m) t)) := by omega
        have e4 : it + (if lv = 0 then 1 else 0) + 0 + (if lv = 0 then ni w g k d (f + m) t else 0) = it + (if lv = 0 then 1 + ni w g k d (f + m) t else 0) := by split <;> omega
        rw [e3, e4]
        exact hl
/-- one sign of the text -/
theorem pMD_levstep {wr0 : Nat → Int32} {x1 tot i lv mo it co c N : Nat} (hi : i < tot) (ht : tot ≤ 400) (hc : wr0 i = nI c) (hc2 : c < 1000) (hco : co = 0 ∨ co = 1) (hlv : lv < 1000) (hmo : mo < 1000) (hit : it < 1000) (h41 : c = 41 → 1 ≤ lv) : fMD_levels_13 (nI tot) wr0 (nI x1) (N + 1) (nI lv) (nI mo) (nI it) (nI co) (nI i) = fMD_levels_13 (nI tot) wr0 (nI x1) N (nI (ls (lv, mo, it, co) c).1) (nI (ls (lv, mo, it, co) c).2.1) (nI (ls (lv, mo, it, co) c).2.2.1) (nI (ls (lv, mo, it, co) c).2.2.2) (nI (i + 1)) := by
  have k119 : ∀ (K : Int32 → Int32 → Int32 → Int32 → Int32 → Option Int32) (x4 x5 : Int32) (l2 : Nat), l2 < 2000 → fMD_levels_119 K (nI mo) x4 x5 (nI i) (nI l2) (0 : Int32) = K (nI l2) (nI (max mo l2)) x4 x5 (nI (i + 1)) := by
    intro K x4 x5 l2 h
    rw [fMD_levels_119, li0, nI_add, Nat.add_zero, nI_1]
    by_cases z : l2 ≤ mo
    · rw [if_pos (nI_le z (by omega)), show max mo l2 = mo by omega]
    · rw [if_neg (nI_ge (by omega) (by omega)), show max mo l2 = l2 by omega]
  have k92 : ∀ (K : Int32 → Int32 → Int32 → Int32 → Int32 → Option Int32) (x5 s1 : Int32) (j : Nat), s1 = nI j → fMD_levels_92 K (nI lv) (nI mo) x5 (nI i) (nI c) (nI it) s1 = K (nI (lvb lv c)) (nI (max mo (lvb lv c))) (nI (it + j)) x5 (nI (i + 1)) := by
    intro K x5 s1 j hs
    rw [hs, fMD_levels_92, nI_add]
    unfold lvb
    by_cases z1 : c = 40
    · rw [if_pos (show nI c = (40 : Int32) by rw [z1]; rfl), if_pos z1]
      have := k119 K (nI (it + j)) x5 (lv + 1) (by omega)
      rw [fMD_levels_119, li0, nI_add, Nat.add_zero] at this
      rw [fMD_levels_119, li1, nI_add, ← li1]
      exact this
    · rw [if_neg (show ¬ nI c = (40 : Int32) from fun q => z1 ((nI_eq (b := 40) (by omega) (by omega)).mp q)), if_neg z1]
      by_cases z2 : c = 41
      · rw [if_pos (show nI c = (41 : Int32) by rw [z2]; rfl), if_pos z2]
        have := k119 K (nI (it + j)) x5 (lv - 1) (by omega)
        rw [fMD_levels_119, li0, nI_add, Nat.add_zero] at this
        rw [fMD_levels_119, nI_m1 (h41 z2)]
        exact this
      · rw [if_neg (show ¬ nI c = (41 : Int32) from fun q => z2 ((nI_eq (b := 41) (by omega) (by omega)).mp q)), if_neg z2]
        exact k119 K (nI (it + j)) x5 lv (by omega)
  have k55 : ∀ (K : Int32 → Int32 → Int32 → Int32 → Int32 → Option Int32) (co2 : Nat), co2 = 0 ∨ co2 = 1 → cob co c = co2 → fMD_levels_55 K (nI lv) (nI mo) (nI it) (nI i) (nI c) (nI co2) = K (nI (ls (lv, mo, it, co) c).1) (nI (ls (lv, mo, it, co) c).2.1) (nI (ls (lv, mo, it, co) c).2.2.1) (nI (ls (lv, mo, it, co) c).2.2.2) (nI (i + 1)) := by
    intro K co2 h1 h2
    have hfin : ∀ (s1 : Int32) (j : Nat), s1 = nI j → (if lv = 0 ∧ (c = 40 ∨ (97 ≤ c ∧ c ≤ 100 ∧ co2 = 0)) then 1 else 0) = j → fMD_levels_92 K (nI lv) (nI mo) (nI co2) (nI i) (nI c) (nI it) s1 = K (nI (ls (lv, mo, it, co) c).1) (nI (ls (lv, mo, it, co) c).2.1) (nI (ls (lv, mo, it, co) c).2.2.1) (nI (ls (lv, mo, it, co) c).2.2.2) (nI (i + 1)) := by
      intro s1 j hs hj
      have e : ls (lv, mo, it, co) c = (lvb lv c, max mo (lvb lv c), it + j, co2) := by
        refine ls_eq rfl rfl ?_ h2
        unfold itb
        rw [h2, hj]
      rw [k92 K (nI co2) s1 j hs, e]
    rw [fMD_levels_55]
    by_cases z : lv = 0
    · rw [if_pos (show nI lv = 0 by rw [z]; rfl)]
      by_cases z1 : c = 40
      · rw [if_pos (show nI c = (40 : Int32) by rw [z1]; rfl), fMD_levels_87]
        exact hfin _ 1 rfl (by rw [if_pos ⟨z, Or.inl z1⟩])
      · rw [if_neg (show ¬ nI c = (40 : Int32) from fun q => z1 ((nI_eq (b := 40) (by omega) (by omega)).mp q)), fMD_in]
        by_cases z2 : c < 97
        · rw [if_pos (show nI c < (97 : Int32) from nI_lt (b := 97) z2 (by omega)), Option.bind_some, if_pos rfl, fMD_levels_91]
          exact hfin _ 0 rfl (by rw [if_neg (by omega)])
        · rw [if_neg (show ¬ nI c < (97 : Int32) from nI_nlt (b := 97) (by omega) (by omega))]
          by_cases z3 : 100 < c
          · rw [if_pos (show (100 : Int32) < nI c from nI_lt (a := 100) z3 (by omega)), Option.bind_some, if_pos rfl, fMD_levels_91]
            exact hfin _ 0 rfl (by rw [if_neg (by omega)])
          · rw [if_neg (show ¬ (100 : Int32) < nI c from nI_nlt (a := 100) (by omega) (by omega)), Option.bind_some, if_neg (by decide)]
            by_cases z4 : co2 = 0
            · rw [if_pos (show nI co2 = 0 by rw [z4]; rfl), fMD_levels_87]
              exact hfin _ 1 rfl (by rw [if_pos ⟨z, Or.inr ⟨by omega, by omega, z4⟩⟩])
            · rw [if_neg (show ¬ nI co2 = 0 from nI_ne0 (by omega) (by omega)), fMD_levels_91]
              exact hfin _ 0 rfl (by rw [if_neg (by omega)])
    · rw [if_neg (show ¬ nI lv = 0 from nI_ne0 (by omega) (by omega)), fMD_levels_91]
      exact hfin _ 0 rfl (by rw [if_neg (by omega)])
  rw [fMD_levels_13, if_neg (nI_ge hi (by omega)), if_pos (bIn_nI (by omega) (by omega)), rd_nI (by omega), hc]
  by_cases y1 : c = 91
  · rw [if_pos (show nI c = (91 : Int32) by rw [y1]; rfl), fMD_levels_50]
    exact k55 _ 1 (Or.inr rfl) (by unfold cob; rw [if_pos y1])
  · rw [if_neg (show ¬ nI c = (91 : Int32) from fun q => y1 ((nI_eq (b := 91) (by omega) (by omega)).mp q))]
    by_cases y2 : co = 0
    · rw [if_pos (show nI co = 0 by rw [y2]; rfl), fMD_levels_54]
      exact k55 _ 0 (Or.inl rfl) (by unfold cob; rw [if_neg y1, if_pos y2])
    · rw [if_neg (show ¬ nI co = 0 from nI_ne0 (by omega) (by omega))]
      by_cases y3 : c = 93
      · rw [if_pos (show nI c = (93 : Int32) by rw [y3]; rfl), fMD_levels_54]
        exact k55 _ 0 (Or.inl rfl) (by unfold cob; rw [if_neg y1, if_neg y2, if_pos y3])
      · rw [if_neg (show ¬ nI c = (93 : Int32) from fun q => y3 ((nI_eq (b := 93) (by omega) (by omega)).mp q)), fMD_levels_50]
        exact k55 _ 1 (Or.inr rfl) (by unfold cob; rw [if_neg y1, if_neg y2, if_neg y3])
theorem ls_b {s : Nat × Nat × Nat × Nat} {c B : Nat} (h1 : s.1 ≤ B) (h2 : s.2.1 ≤ B) (h3 : s.2.2.1 ≤ B) : (ls s c).1 ≤ B + 1 ∧ (ls s c).2.1 ≤ B + 1 ∧ (ls s c).2.2.1 ≤ B + 1 ∧ ((ls s c).2.2.2 = 0 ∨ (ls s c).2.2.2 = 1) := by
  have hl : lvb s.1 c ≤ B + 1 := by
    unfold lvb
    split
    · omega
    · split <;> omega
  refine ⟨hl, ?_, ?_, ?_⟩
  · show max s.2.1 (lvb s.1 c) ≤ B + 1
    omega
  · show itb s.1 s.2.2.1 s.2.2.2 c ≤ B + 1
    unfold itb
    split <;> omega
  · show cob s.2.2.2 c = 0 ∨ cob s.2.2.2 c = 1
    unfold cob
    split
    · exact Or.inr rfl
    · split
      · exact Or.inl rfl
      · split
        · exact Or.inl rfl
        · exact Or.inr rfl
theorem pMD_lev13 {wr0 : Nat → Int32} {x1 tot : Nat} (hx : x1 ≤ 1) (ht : tot ≤ 400) : ∀ (l : List Nat) (i N B : Nat) (s s2 : Nat × Nat × Nat × Nat), i + l.length = tot → l.length < N → B + l.length ≤ 500 → SC l s s2 → (∀ j c, l[j]? = some c → wr0 (i + j) = nI c) → (∀ c, c ∈ l → c < 1000) → s.1 ≤ B → s.2.1 ≤ B → s.2.2.1 ≤ B → (s.2.2.2 = 0 ∨ s.2.2.2 = 1) → fMD_levels_13 (nI tot) wr0 (nI x1) N (nI s.1) (nI s.2.1) (nI s.2.2.1) (nI s.2.2.2) (nI i) = some (if x1 = 0 then nI s2.2.2.1 else nI s2.2.1) := by
  intro l
  induction l with
  | nil =>
    intro i N B s s2 h1 h2 h3 h4 h5 h6 h7 h8 h9 h10
    obtain ⟨N, rfl⟩ : ∃ q, N = q + 1 := ⟨N - 1, by omega⟩
    have e : s2 = s := h4
    subst e
    have hi : i = tot := by simpa using h1
    rw [fMD_levels_13, if_pos (nI_le (by omega) (by omega))]
    by_cases z : x1 = 0
    · rw [if_pos (show nI x1 = 0 by rw [z]; rfl), if_pos z]
    · rw [if_neg (show ¬ nI x1 = 0 from nI_ne0 (by omega) (by omega)), if_neg z]
  | cons c l ih =>
    intro i N B s s2 h1 h2 h3 h4 h5 h6 h7 h8 h9 h10
    rw [List.length_cons] at h1 h2 h3
    obtain ⟨N, rfl⟩ : ∃ q, N = q + 1 := ⟨N - 1, by omega⟩
    obtain ⟨b1, b2, b3, b4⟩ := ls_b (c := c) h7 h8 h9
    have hc := h5 0 c rfl
    rw [Nat.add_zero] at hc
    have e := pMD_levstep (x1 := x1) (N := N) (lv := s.1) (mo := s.2.1) (it := s.2.2.1) (co := s.2.2.2) (show i < tot by omega) ht hc (h6 c List.mem_cons_self) h10 (by omega) (by omega) (by omega) h4.1
    rw [e]
    exact ih (i + 1) N (B + 1) (ls s c) s2 (by omega) (by omega) (by omega) h4.2 (fun j c' hj => by
      have := h5 (j + 1) c' hj
      rw [show i + 1 + j = i + (j + 1) by omega]
      exact this) (fun c' hc' => h6 c' (List.mem_cons_of_mem _ hc')) b1 b2 b3 b4
theorem pMD_signs4 {wr0 : Nat → Int32} {x tot : Nat} (hx : x < 1000) (ht : tot ≤ 400) : ∀ (l : List Nat) (i N a : Nat), i + l.length = tot → l.length < N → (∀ j c, l[j]? = some c → wr0 (i + j) = nI c) → (∀ c, c ∈ l → c < 1000) → fMD_signs_4 (nI tot) wr0 (nI x) N (nI a) (nI i) = some (nI (a + ct x l)) := by
  intro l
  induction l with
  | nil =>
    intro i N a h1 h2 h5 h6
    obtain ⟨N, rfl⟩ : ∃ q, N = q + 1 := ⟨N - 1, by omega⟩
    have hi : i = tot := by simpa using h1
    rw [fMD_signs_4, if_pos (nI_le (by omega) (by omega))]
    rfl
  | cons c l ih =>
    intro i N a h1 h2 h5 h6
    rw [List.length_cons] at h1 h2
    obtain ⟨N, rfl⟩ : ∃ q, N = q + 1 := ⟨N - 1, by omega⟩
    have hc := h5 0 c rfl
    rw [Nat.add_zero] at hc
    have hc2 := h6 c List.mem_cons_self
    have hrest := fun a2 => ih (i + 1) N a2 (by omega) (by omega) (fun j c' hj => by
      have := h5 (j + 1) c' hj
      rw [show i + 1 + j = i + (j + 1) by omega]
      exact this) (fun c' hc' => h6 c' (List.mem_cons_of_mem _ hc'))
    rw [fMD_signs_4, if_neg (nI_ge (by omega) (by omega)), if_pos (bIn_nI (by omega) (by omega)), rd_nI (by omega), hc, nI_1]
    show _ = some (nI (a + ((if c = x then 1 else 0) + ct x l)))
    by_cases z : c = x
    · rw [if_pos (by rw [z]), if_pos z, nI_1, hrest, Nat.add_assoc]
    · rw [if_neg (by rw [nI_eq (by omega) (by omega)]; exact z), if_neg z, nI_1, li0, nI_add, hrest, Nat.add_zero, Nat.zero_add]
theorem crs_small {w : Nat → Nat} {f b n : Nat} (hw : ∀ i, i < n → w i < 4) (hn : n ≤ 24) : ∀ k s, f + s + k ≤ n → ∀ c, c ∈ crs w f b k s → c < 128 := by
  intro k
  induction k with
  | zero => intro s _ c h; simp [crs] at h
  | succ k ih =>
    intro s h1 c h
    rcases List.mem_append.mp (show c ∈ cr1 w f b s ++ crs w f b k (s + 1) from h) with h | h
    · unfold cr1 at h
      have h4 := hw (f + s) (by omega)
      split at h
      · simp at h
      · unfold nmb at h
        split at h <;> simp at h <;> omega
    · exact ih (s + 1) (by omega) c h
theorem nmb_small {v : Nat} (hv : v < 100) : ∀ c, c ∈ nmb v → c < 128 := by
  intro c h
  unfold nmb at h
  split at h <;> simp at h <;> omega
theorem tx_small {w g : Nat → Nat} {n : Nat} (hn : n ≤ 24) (hw : ∀ i, i < n → w i < 4) (hC : ChA w g n) : ∀ k d f t, d ≤ g 4 → t ≤ n → ∀ c, c ∈ tx w g k d f t → c < 128 := by
  intro k
  induction k with
  | zero => intro d f t _ _ c h; simp [tx] at h
  | succ k ih =>
    intro d f t hd ht c h
    by_cases z : t ≤ f
    · rw [tx_nil z] at h; simp at h
    · obtain ⟨m, b, hch⟩ := hC d f t hd (by omega) ht
      obtain ⟨h1, h2, h3, h4, h5⟩ := Ch_b hch (by omega)
      by_cases hb : b = 0
      · subst hb
        rw [tx_let (by omega) hch] at h
        rcases List.mem_cons.mp h with h | h
        · have := hw f (by omega); omega
        · exact ih _ _ _ hd ht c h
      · obtain ⟨_, q6⟩ := h4 (by omega)
        have q7 : m / b ≤ m := Nat.div_le_self _ _
        rw [tx_rep (by omega) hch (by omega)] at h
        rcases List.mem_append.mp h with h | h
        · exact nmb_small (by omega) c h
        · rcases List.mem_cons.mp h with h | h
          · omega
          · rcases List.mem_append.mp h with h | h
            · exact ih _ _ _ (by omega) (by omega) c h
            · rcases List.mem_cons.mp h with h | h
              · omega
              · rcases List.mem_append.mp h with h | h
                · exact crs_small hw hn _ _ (by omega) c h
                · exact ih _ _ _ hd ht c h
/-- levels and signs of the text -/
theorem pMD_levels {w g : Nat → Nat} {n a b x : Nat} {wr0 : Nat → Int32} (hn : n ≤ 24) (hw : ∀ i, i < n → w i < 4) (hg3 : g 3 ≤ 6) (hC : ChA w g n) (hb : b ≤ n) (hx : x ≤ 1) : fMD_levels (nI (tx w g 24 (g 4) a b).length) (app wr0 0 (tx w g 24 (g 4) a b)) (nI x) = some (if x = 0 then nI (ni w g 24 (g 4) a b) else nI (dp w g 24 (g 4) a b)) := by
  have hl := tx_len hn hg3 hC 24 (g 4) a b (Nat.le_refl _) hb
  have hl2 := bt_24 (b - a) (by omega)
  have hs := SC_tx hn hw hC 24 (g 4) a b 0 0 0 [] _ (Nat.le_refl _) hb (Nat.le_refl _) rfl
  rw [List.append_nil] at hs
  have e := pMD_lev13 (wr0 := app wr0 0 (tx w g 24 (g 4) a b)) (x1 := x) (tot := (tx w g 24 (g 4) a b).length) hx (by omega) (tx w g 24 (g 4) a b) 0 FU 0 (0, 0, 0, 0) _ (Nat.zero_add _) (by show _ < 1000000; omega) (by omega) hs (fun j c hj => app_at hj) (fun c hc => by have := tx_small hn hw hC 24 (g 4) a b (Nat.le_refl _) hb c hc; omega) (Nat.le_refl _) (Nat.le_refl _) (Nat.le_refl _) (Or.inl rfl)
  rw [fMD_levels, li0]
  refine Eq.trans e ?_
  simp
theorem pMD_signs {w g : Nat → Nat} {n a b x : Nat} {wr0 : Nat → Int32} (hn : n ≤ 24) (hw : ∀ i, i < n → w i < 4) (hg3 : g 3 ≤ 6) (hC : ChA w g n) (hb : b ≤ n) (hx : x < 1000) : fMD_signs (nI (tx w g 24 (g 4) a b).length) (app wr0 0 (tx w g 24 (g 4) a b)) (nI x) = some (nI (ct x (tx w g 24 (g 4) a b))) := by
  have hl := tx_len hn hg3 hC 24 (g 4) a b (Nat.le_refl _) hb
  have hl2 := bt_24 (b - a) (by omega)
  have e := pMD_signs4 (wr0 := app wr0 0 (tx w g 24 (g 4) a b)) (x := x) (tot := (tx w g 24 (g 4) a b).length) hx (by omega) (tx w g 24 (g 4) a b) 0 FU 0 (Nat.zero_add _) (by show _ < 1000000; omega) (fun j c hj => app_at hj) (fun c hc => by have := tx_small hn hw hC 24 (g 4) a b (Nat.le_refl _) hb c hc; omega)
  rw [fMD_signs, li0]
  refine Eq.trans e ?_
  rw [Nat.zero_add]
