/-! the class's numbers -/
def TN (w g : Nat → Nat) (n D : Nat) (F : Nat → Nat → Nat → Prop) (tb : Nat → Int64) : Prop := ∀ d f t, dom n D 0 d f t → (f = t ∨ F d f t) → tb (ix d f t) = cnt w g d f t
def INOK (w g : Nat → Nat) (d a last : Nat) (l : List (Nat × Nat × Nat)) (I : Nat → Int64) : Prop := ∀ e, a < e → e ≤ last → I e = itN (fun q => cnt w g (d - 1) a (a + q.1)) a e (if d = 0 then [] else l)
theorem OD_upd {tb : Nat → Int64} {d a t : Nat} {v : Int64} (h : OD tb) (hat : a < t) (ht : t < 25) : OD (vp_updL tb (ix d a t) v) := by
  intro d' p h1 h2
  rw [uL_n (pp_ne hat ht (by assumption))]
  exact h d' p h1 h2
theorem TN_upd {w g : Nat → Nat} {n D : Nat} {F F2 : Nat → Nat → Nat → Prop} {tb : Nat → Int64} {d a t : Nat} (hn : n ≤ 24) (hD : D ≤ 4) (h : TN w g n D F tb) (hat : a < t) (ht : t ≤ 24) (hd : d < 5) (hF : ∀ d' f' t', dom n D 0 d' f' t' → F2 d' f' t' → F d' f' t' ∨ (d' = d ∧ f' = a ∧ t' = t)) : TN w g n D F2 (vp_updL tb (ix d a t) (cnt w g d a t)) := by
  intro d' f' t' h1 h2
  obtain ⟨z1, z2, z3, z4, z5⟩ := id h1
  by_cases c : d' = d ∧ f' = a ∧ t' = t
  · obtain ⟨rfl, rfl, rfl⟩ := c
    rw [uL_s]
  · rw [uL_n (fun h => c (ix_inj z2 (by omega) (by omega) ht h))]
    refine h d' f' t' h1 ?_
    rcases h2 with h2 | h2
    · exact Or.inl h2
    · rcases hF d' f' t' h1 h2 with h3 | h3
      · exact Or.inr h3
      · exact absurd h3 c
theorem pNu_put {i : Nat} {v : Int64} {tb : Nat → Int64} (h : i < 1625) : fNu_put tb (nI i) v = some (vp_updL tb i v) := by
  rw [fNu_put, if_neg (nI_pos (by omega)), if_neg (show ¬ (1625 : Int32) ≤ nI i from nI_ge (b := 1625) h (by omega)), if_pos (bIn_nI h (by omega)), wrL_nI (by omega)]
theorem pNu_fill80 {d a t : Nat} {v : Int64} {tb : Nat → Int64} (hd : d < 5) (ha : a ≤ t) (ht : t ≤ 24) : fNu_fillPart_80 (nI d) (nI a) (nI t) v tb = some (vp_updL tb (ix d a t) v) := by
  rw [fNu_fillPart_80, pIdx ht, Option.bind_some, pNu_put (ix_lt hd ha ht), Option.bind_some]
theorem pNu_fill18 {w g : Nat → Nat} {d a t : Nat} {I tb : Nat → Int64} (hd : d < 5) (hat : a < t) (ht : t ≤ 24) (hT : ∀ e, a < e → e ≤ t → tb (ix d e t) = cnt w g d e t) : ∀ (k e m : Nat), e + k = t + 1 → k < m → a < e → fNu_fillPart_18 I (nI d) (nI a) (nI t) m (sE (fun e => I e * cnt w g d e t) (a + 1) (e - (a + 1))) (nI (ix d e t)) (nI e) tb = some (vp_updL tb (ix d a t) (sE (fun e => I e * cnt w g d e t) (a + 1) (t - a))) := by
  intro k
  induction k with
  | zero =>
    intro e m h1 h2 h3
    obtain ⟨m, rfl⟩ : ∃ q, m = q + 1 := ⟨m - 1, by omega⟩
    have : e = t + 1 := by omega
    subst this
    rw [fNu_fillPart_18, if_neg (nI_pos (by omega)), if_pos (nI_lt (by omega) (by omega)), pNu_fill80 hd (by omega) (by omega), show t + 1 - (a + 1) = t - a by omega]
  | succ k ih =>
    intro e m h1 h2 h3
    obtain ⟨m, rfl⟩ : ∃ q, m = q + 1 := ⟨m - 1, by omega⟩
    have hs := ih (e + 1) m (by omega) (by omega) (by omega)
    rw [show e + 1 - (a + 1) = (e - (a + 1)) + 1 by omega, sE, show a + 1 + (e - (a + 1)) = e by omega] at hs
    have hix := ix_lt (d := d) (f := e) (t := t) hd (by omega) ht
    rw [fNu_fillPart_18, if_neg (nI_pos (by omega)), if_neg (nI_nlt (by omega) (by omega)), if_neg (show ¬ (25 : Int32) ≤ nI e from nI_ge (b := 25) (by omega) (by omega)), if_neg (nI_pos (by omega)), if_neg (show ¬ (1625 : Int32) ≤ nI (ix d e t) from nI_ge (b := 1625) hix (by omega)), if_pos (bIn_nI (by omega) (by omega)), if_pos (bIn_nI hix (by omega)), rdL_nI (by omega), rdL_nI (by omega), hT e h3 (by omega), nI_1, nI_1, ix_s]
    exact hs
theorem pNu_fillPart {w g : Nat → Nat} {n d a t : Nat} {I tb : Nat → Int64} (hd : d < 5) (hat : a < t) (htn : t ≤ n) (hn : n ≤ 24) (hI : INOK w g d a t (rl w (g 3) n a) I) (hT : ∀ e, a < e → e ≤ t → tb (ix d e t) = cnt w g d e t) : fNu_fillPart I tb (nI d) (nI a) (nI t) = some (vp_updL tb (ix d a t) (cnt w g d a t)) := by
  have h := pNu_fill18 (I := I) hd hat (show t ≤ 24 by omega) hT (t - a) (a + 1) FU (by omega) (by show _ < 1000000; omega) (by omega)
  rw [Nat.sub_self, sE] at h
  rw [fNu_fillPart, li1, nI_add, pIdx (by omega), Option.bind_some, h, ← cnt_items (w := w) (g := g) (d := d) hat htn hn]
  congr 2
  refine sE_cong _ (fun e h1 h2 => ?_)
  rw [hI e (by omega) (by omega)]
theorem itN_take {A : Nat × Nat × Nat → Int64} {a e : Nat} {l : List (Nat × Nat × Nat)} {q : Nat × Nat × Nat} : itN A a e (l ++ [q]) = itN A a e l + (if q.2.1 = e then A q else 0) := by
  rw [itN, itN, List.map_append, sL_app, List.map_cons, List.map_nil, sL, sL, Int64.add_zero, Int64.add_assoc]
theorem pNu_items53 {w g : Nat → Nat} {d a last : Nat} {l : List (Nat × Nat × Nat)} {B E P : Nat → Int32} {tb : Nat → Int64} {g1 g2 : Nat} (hd : d < 5) (hd0 : 0 < d) (hla : last ≤ 24) (ha : a < 25) (hl : l.length ≤ 60) (hR : RLs g1 g2 l B E P) (hq : ∀ q, q ∈ l → (a < q.2.1 ∧ a + 2 * q.1 ≤ q.2.1) ∧ q.2.1 ≤ 24 ∧ q.2.2 ≤ 6) (hT : ∀ q, q ∈ l → q.2.1 ≤ last → tb (ix (d - 1) a (a + q.1)) = cnt w g (d - 1) a (a + q.1)) : ∀ (k i m : Nat) (I : Nat → Int64), i + k = l.length → k < m → (∀ e, a < e → e ≤ last → I e = itN (fun q => cnt w g (d - 1) a (a + q.1)) a e (l.take i)) → ∃ I2, (∀ e, a < e → e ≤ last → I2 e = itN (fun q => cnt w g (d - 1) a (a + q.1)) a e l) ∧ fNu_findItems_53 (nI l.length) B E tb (nI d) (nI a) (nI last) m (nI i) I = some I2 := by
  intro k
  induction k with
  | zero =>
    intro i m I h1 h2 h3
    obtain ⟨m, rfl⟩ : ∃ q, m = q + 1 := ⟨m - 1, by omega⟩
    refine ⟨I, ?_, ?_⟩
    · rw [List.take_of_length_le (by omega)] at h3; exact h3
    · rw [fNu_findItems_53, if_neg (show ¬ nI d ≤ 0 from nI_nle (by omega) (by omega)), if_pos (nI_le (by omega) (by omega))]
  | succ k ih =>
    intro i m I h1 h2 h3
    obtain ⟨m, rfl⟩ : ∃ q, m = q + 1 := ⟨m - 1, by omega⟩
    have hil : i < l.length := by omega
    obtain ⟨⟨b, e, x⟩, hqi⟩ : ∃ q, l[i]? = some q := ⟨_, List.getElem?_eq_getElem hil⟩
    have hmem : (b, e, x) ∈ l := List.mem_of_getElem? hqi
    obtain ⟨r1, r2, r3⟩ := hR i _ hqi
    obtain ⟨s1, s2, s3⟩ := hq _ hmem
    simp only at r1 r2 r3 s1 s2 s3
    have htk : l.take (i + 1) = l.take i ++ [(b, e, x)] := by rw [List.take_add_one, hqi]; rfl
    have hix := ix_lt (d := d - 1) (f := a) (t := a + b) (by omega) (by omega) (by omega)
    rw [fNu_findItems_53, if_neg (show ¬ nI d ≤ 0 from nI_nle (by omega) (by omega)), if_neg (nI_ge (by omega) (by omega)), if_neg (show ¬ (60 : Int32) ≤ nI i from nI_ge (b := 60) (by omega) (by omega)), if_pos (bIn_nI (by omega) (by omega)), if_pos (bIn_nI (by omega) (by omega)), rd_nI (by omega), rd_nI (by omega), r1, r2, nI_1, li1, pk_sub (by omega), nI_add, pIdx (by omega), Option.bind_some, if_neg (nI_pos (by omega))]
    by_cases c : last < e
    · rw [if_pos (nI_lt c (by omega))]
      refine ih (i + 1) m I (by omega) (by omega) (fun e' h4 h5 => ?_)
      rw [h3 e' h4 h5, htk, itN_take, if_neg (show ¬ e = e' by omega), Int64.add_zero]
    · have hTb := hT _ hmem (show e ≤ last by omega)
      simp only at hTb
      rw [if_neg (nI_nlt (by omega) (by omega)), if_neg (show ¬ (25 : Int32) ≤ nI e from nI_ge (b := 25) (by omega) (by omega)), if_neg (nI_pos (by omega)), if_neg (show ¬ (1625 : Int32) ≤ nI (ix (d - 1) a (a + b)) from nI_ge (b := 1625) hix (by omega)), if_pos (bIn_nI (by omega) (by omega)), if_pos (bIn_nI hix (by omega)), if_pos (bIn_nI (by omega) (by omega)), rdL_nI (by omega), rdL_nI (by omega), wrL_nI (by omega), hTb]
      refine ih (i + 1) m _ (by omega) (by omega) (fun e' h4 h5 => ?_)
      rw [htk, itN_take]
      by_cases c3 : e' = e
      · subst c3
        rw [uL_s, if_pos rfl, h3 e' h4 h5]
      · rw [uL_n c3, if_neg (fun z => c3 z.symm), Int64.add_zero, h3 e' h4 h5]
theorem pNu_items5 {w g : Nat → Nat} {d a last : Nat} {l : List (Nat × Nat × Nat)} {B E P : Nat → Int32} {tb : Nat → Int64} {g1 g2 : Nat} (hd : d < 5) (hla : last ≤ 24) (ha : a < 25) (hl : l.length ≤ 60) (hR : RLs g1 g2 l B E P) (hq : ∀ q, q ∈ l → (a < q.2.1 ∧ a + 2 * q.1 ≤ q.2.1) ∧ q.2.1 ≤ 24 ∧ q.2.2 ≤ 6) (hT : 0 < d → ∀ q, q ∈ l → q.2.1 ≤ last → tb (ix (d - 1) a (a + q.1)) = cnt w g (d - 1) a (a + q.1)) : ∀ (k e m : Nat) (I : Nat → Int64), e + k = max (last + 1) (a + 1) → k < m → a < e → (∀ e', a < e' → e' < e → e' ≤ last → I e' = (if a + 1 = e' then 1 else 0)) → ∃ I2, INOK w g d a last l I2 ∧ fNu_findItems_5 (nI l.length) B E tb (nI d) (nI a) (nI last) m (nI e) I = some I2 := by
  intro k
  induction k with
  | zero =>
    intro e m I h1 h2 h3 h4
    obtain ⟨m, rfl⟩ : ∃ q, m = q + 1 := ⟨m - 1, by omega⟩
    rw [fNu_findItems_5, if_neg (nI_pos (by omega)), if_pos (nI_lt (by omega) (by omega)), li0]
    by_cases c : 0 < d
    · obtain ⟨I2, q1, q2⟩ := pNu_items53 (w := w) (g := g) hd c hla ha hl hR hq (hT c) l.length 0 FU I (by omega) (by show _ < 1000000; omega) (fun e' z1 z2 => by
        rw [h4 e' z1 (by omega) z2, List.take_zero, itN, List.map_nil, sL, Int64.add_zero])
      refine ⟨I2, ?_, q2⟩
      intro e' z1 z2
      rw [q1 e' z1 z2, if_neg (by omega)]
    · have : d = 0 := by omega
      subst this
      refine ⟨I, ?_, ?_⟩
      · intro e' z1 z2
        rw [h4 e' z1 (by omega) z2, if_pos rfl, itN, List.map_nil, sL, Int64.add_zero]
      · obtain ⟨mm, hmm⟩ := FU_s
        rw [hmm, fNu_findItems_53, if_pos (by decide)]
  | succ k ih =>
    intro e m I h1 h2 h3 h4
    obtain ⟨m, rfl⟩ : ∃ q, m = q + 1 := ⟨m - 1, by omega⟩
    by_cases c0 : last < e
    · exfalso; omega
    rw [fNu_findItems_5, if_neg (nI_pos (by omega)), if_neg (nI_nlt (by omega) (by omega)), if_neg (show ¬ (25 : Int32) ≤ nI e from nI_ge (b := 25) (by omega) (by omega)), li1, nI_add]
    by_cases c : e = a + 1
    · rw [if_pos (by rw [c]), if_pos (bIn_nI (by omega) (by omega)), wrL_nI (by omega), nI_add]
      refine ih (e + 1) m _ (by omega) (by omega) (by omega) (fun e' z1 z2 z3 => ?_)
      by_cases c3 : e' = e
      · rw [c3, uL_s, if_pos c.symm]
      · rw [uL_n c3]; exact h4 e' z1 (by omega) z3
    · rw [if_neg (by rw [nI_eq (by omega) (by omega)]; exact c), if_pos (bIn_nI (by omega) (by omega)), wrL_nI (by omega), nI_add]
      refine ih (e + 1) m _ (by omega) (by omega) (by omega) (fun e' z1 z2 z3 => ?_)
      by_cases c3 : e' = e
      · rw [c3, uL_s, if_neg (fun z => c z.symm)]
      · rw [uL_n c3]; exact h4 e' z1 (by omega) z3
theorem pNu_findItems {w g : Nat → Nat} {d a last : Nat} {l : List (Nat × Nat × Nat)} {B E P : Nat → Int32} {tb : Nat → Int64} {g1 g2 : Nat} (hd : d < 5) (hla : last ≤ 24) (ha : a < 25) (hl : l.length ≤ 60) (hR : RLs g1 g2 l B E P) (hq : ∀ q, q ∈ l → (a < q.2.1 ∧ a + 2 * q.1 ≤ q.2.1) ∧ q.2.1 ≤ 24 ∧ q.2.2 ≤ 6) (hT : 0 < d → ∀ q, q ∈ l → q.2.1 ≤ last → tb (ix (d - 1) a (a + q.1)) = cnt w g (d - 1) a (a + q.1)) (I : Nat → Int64) : ∃ I2, INOK w g d a last l I2 ∧ fNu_findItems (nI l.length) B E tb I (nI d) (nI a) (nI last) = some I2 := by
  rw [fNu_findItems, li1, nI_add]
  exact pNu_items5 hd hla ha hl hR hq hT (max (last + 1) (a + 1) - (a + 1)) (a + 1) FU I (by omega) (by show _ < 1000000; omega) (by omega) (fun e' z1 z2 => absurd z2 (by omega))
abbrev NR : Type := Option ((Nat → Int64) × Int32 × Int32 × Int32 × Int32 × Int32 × (Nat → Int32) × (Nat → Int32) × (Nat → Int32) × (Nat → Int32) × (Nat → Int32) × (Nat → Int64))
abbrev K22 : Type := Int32 → Int32 → (Nat → Int64) → Int32 → Int32 → Int32 → Int32 → Int32 → (Nat → Int32) → (Nat → Int32) → (Nat → Int32) → (Nat → Int32) → (Nat → Int32) → (Nat → Int64) → NR
abbrev K39 : Type := Int32 → Int32 → Int32 → (Nat → Int64) → Int32 → Int32 → Int32 → Int32 → Int32 → (Nat → Int32) → (Nat → Int32) → (Nat → Int32) → (Nat → Int32) → (Nat → Int32) → (Nat → Int64) → NR
set_option maxHeartbeats 1000000 in
theorem pNu_fill111 {w g : Nat → Nat} {n D a dd last : Nat} {I : Nat → Int64} (hn : n ≤ 24) (hD : D ≤ 4) (hdd : dd ≤ D) (ha : a < n) (hla : last ≤ n) (hI : INOK w g dd a last (rl w (g 3) n a) I) (h1 : ∀ t, a < t → dom n D 0 dd a t → t ≤ last) (h2 : ∀ tt e, tt ≤ last → a < e → e ≤ tt → dom n D 0 dd e tt) (k22 : K22) (k39 : K39) (z1 z2 z3 z4 z5 : Int32) (B E P T U : Nat → Int32) : ∀ (k tt m : Nat) (tb : Nat → Int64), last + 1 ≤ tt + k → k < m → tt ≤ 25 → a < tt → OD tb → TN w g n D (fun d f t => a < f ∨ (f = a ∧ (d < dd ∨ (d = dd ∧ (t < tt ∨ last < t))))) tb → ∃ tb2, OD tb2 ∧ TN w g n D (fun d f t => a < f ∨ (f = a ∧ d < dd + 1)) tb2 ∧ fNu_fill_111 k22 k39 m (nI D) (nI a) (nI dd) (nI last) (nI tt) I z1 z2 z3 z4 z5 B E P T U tb = k39 (nI D) (nI a) (nI (dd + 1)) I z1 z2 z3 z4 z5 B E P T U tb2 := by
  have hexit : ∀ (tt m : Nat) (tb : Nat → Int64), last < tt → tt ≤ 25 → OD tb → TN w g n D (fun d f t => a < f ∨ (f = a ∧ (d < dd ∨ (d = dd ∧ (t < tt ∨ last < t))))) tb → ∃ tb2, OD tb2 ∧ TN w g n D (fun d f t => a < f ∨ (f = a ∧ d < dd + 1)) tb2 ∧ fNu_fill_111 k22 k39 (m + 1) (nI D) (nI a) (nI dd) (nI last) (nI tt) I z1 z2 z3 z4 z5 B E P T U tb = k39 (nI D) (nI a) (nI (dd + 1)) I z1 z2 z3 z4 z5 B E P T U tb2 := by
    intro tt m tb h3 h4 h5 h6
    refine ⟨tb, h5, ?_, ?_⟩
    · intro d f t q1 q2
      refine h6 d f t q1 ?_
      rcases q2 with q2 | q2 | ⟨q2, q3⟩
      · exact Or.inl q2
      · exact Or.inr (Or.inl q2)
      · right; right
        refine ⟨q2, ?_⟩
        by_cases c : d < dd
        · exact Or.inl c
        · exact Or.inr ⟨by omega, by omega⟩
    · rw [fNu_fill_111, if_pos (nI_lt h3 (by omega)), nI_1]
  intro k
  induction k with
  | zero =>
    intro tt m tb q1 q2 q3 q4 q6 q7
    obtain ⟨m, rfl⟩ : ∃ q, m = q + 1 := ⟨m - 1, by omega⟩
    exact hexit tt m tb (by omega) q3 q6 q7
  | succ k ih =>
    intro tt m tb q1 q2 q3 q4 q6 q7
    obtain ⟨m, rfl⟩ : ∃ q, m = q + 1 := ⟨m - 1, by omega⟩
    by_cases c : last < tt
    · exact hexit tt m tb c q3 q6 q7
    · have hfp := pNu_fillPart (w := w) (g := g) (n := n) (d := dd) (a := a) (t := tt) (I := I) (tb := tb) (by omega) q4 (by omega) hn (fun e z1 z2 => hI e z1 (by omega)) (fun e z1 z2 => q7 dd e tt (h2 tt e (by omega) z1 z2) (Or.inr (Or.inl z1)))
      rw [fNu_fill_111, if_neg (nI_nlt (by omega) (by omega)), hfp, Option.bind_some, nI_1]
      exact ih (tt + 1) m _ (by omega) (by omega) (by omega) (by omega) (OD_upd q6 q4 (by omega)) (TN_upd hn hD q7 q4 (by omega) (by omega) (fun d' f' t' y1 y2 => by
        rcases y2 with y2 | ⟨y2, y3 | ⟨y3, y4⟩⟩
        · exact Or.inl (Or.inl y2)
        · exact Or.inl (Or.inr ⟨y2, Or.inl y3⟩)
        · by_cases c2 : t' = tt
          · exact Or.inr ⟨y3, y2, c2⟩
          · exact Or.inl (Or.inr ⟨y2, Or.inr ⟨y3, by omega⟩⟩)))
set_option maxHeartbeats 1000000 in
theorem pNu_fill39 {w g : Nat → Nat} {n D a : Nat} (hn : n ≤ 24) (hD : D ≤ 4) (ha : a < n) (hg3 : g 3 ≤ 6) (k22 : K22) (z1 z2 z3 z4 : Int32) {B E P : Nat → Int32} (T U : Nat → Int32) (hR : RLs (g 1) (g 2) (rl w (g 3) n a) B E P) : ∀ (k dd m : Nat) (I tb : Nat → Int64), dd + k = D + 1 → k < m → OD tb → TN w g n D (fun d f _ => a < f ∨ (f = a ∧ d < dd)) tb → ∃ I2 tb2, OD tb2 ∧ TN w g n D (fun _ f _ => a ≤ f) tb2 ∧ fNu_fill_39 (nI n) (nI 0) k22 m (nI D) (nI a) (nI dd) I z1 z2 z3 z4 (nI (rl w (g 3) n a).length) B E P T U tb = k22 (nI D) (nI a + (-1)) I2 z1 z2 z3 z4 (nI (rl w (g 3) n a).length) B E P T U tb2 := by
  intro k
  induction k with
  | zero =>
    intro dd m I tb q1 q2 q3 q4
    obtain ⟨m, rfl⟩ : ∃ q, m = q + 1 := ⟨m - 1, by omega⟩
    refine ⟨I, tb, q3, ?_, ?_⟩
    · intro d f t y1 y2
      obtain ⟨x1, x2, x3, x4, x5⟩ := id y1
      refine q4 d f t y1 ?_
      rcases y2 with y2 | y2
      · exact Or.inl y2
      · right
        by_cases c : a < f
        · exact Or.inl c
        · exact Or.inr ⟨by omega, by omega⟩
    · rw [fNu_fill_39, if_pos (nI_lt (by omega) (by omega))]
  | succ k ih =>
    intro dd m I tb q1 q2 q3 q4
    obtain ⟨m, rfl⟩ : ∃ q, m = q + 1 := ⟨m - 1, by omega⟩
    have hdv := Nat.div_le_self n (2 ^ (D - dd))
    obtain ⟨last, hlast⟩ : ∃ last, last = min n (a + n / 2 ^ (D - dd)) := ⟨_, rfl⟩
    have hl60 := rl_len (w := w) (M := g 3) (f := a) hn
    have hq := rl_q (w := w) (a := a) hn hg3
    obtain ⟨I1, hI1, e1⟩ := pNu_findItems (w := w) (g := g) (d := dd) (a := a) (last := last) (B := B) (E := E) (P := P) (tb := tb) (by omega) (by omega) (by omega) hl60 hR hq (fun h0 q hqm hql => by
      obtain ⟨y1, y2, y3⟩ := hq q hqm
      refine q4 (dd - 1) a (a + q.1) ⟨by omega, by omega, by omega, fun _ => ?_, fun z _ => absurd z (by omega)⟩ (Or.inr (Or.inr ⟨rfl, by omega⟩))
      rw [half h0 (by omega)]
      omega) I
    have h1 : ∀ t, a < t → dom n D 0 dd a t → t ≤ last := by
      rintro t y0 ⟨y1, y2, y3, y4, y5⟩
      by_cases c : dd < D
      · have := y4 c; omega
      · have : D - dd = 0 := by omega
        rw [this, Nat.pow_zero, Nat.div_one] at hlast
        omega
    have hdom : ∀ tt e, tt ≤ last → a < e → e ≤ tt → dom n D 0 dd e tt := by
      intro tt e y1 y2 y3
      exact ⟨by omega, y3, by omega, fun _ => by omega, fun y4 => absurd y4 (by omega)⟩
    obtain ⟨tb1, x1, x2, x3⟩ := pNu_fill111 hn hD (show dd ≤ D by omega) ha (show last ≤ n by omega) hI1 h1 hdom k22 (fNu_fill_39 (nI n) (nI 0) k22 m) z1 z2 z3 z4 (nI (rl w (g 3) n a).length) B E P T U 25 (a + 1) FU tb (by omega) (by decide) (by omega) (by omega) q3 (by
        intro d f t u1 u2
        refine q4 d f t u1 ?_
        rcases u2 with u2 | u2 | ⟨u2, u3 | ⟨u3, u4⟩⟩
        · exact Or.inl u2
        · exact Or.inr (Or.inl u2)
        · exact Or.inr (Or.inr ⟨u2, u3⟩)
        · by_cases c : f = t
          · exact Or.inl c
          · exfalso
            subst u2 u3
            have v1 := u1.2.1
            have v2 := h1 t (by omega) u1
            omega)
    obtain ⟨I2, tb2, x4, x5, x6⟩ := ih (dd + 1) m I1 tb1 (by omega) (by omega) x1 x2
    refine ⟨I2, tb2, x4, x5, ?_⟩
    rw [fNu_fill_39, if_neg (nI_nlt (by omega) (by omega)), last_eq (by omega) hn hD (by omega), ← hlast, if_pos (show nI 0 = 0 from rfl), fNu_fill_90, li1, nI_add, fNu_fill_94, e1, Option.bind_some, x3]
    exact x6
theorem pNu_fill22 {w g : Nat → Nat} {n D : Nat} {U : Nat → Int32} (hn : n ≤ 24) (hD : D ≤ 4) (hg1 : g 1 ≤ 20) (hg2 : g 2 ≤ 20) (hg3 : g 3 ≤ 6) (T : Nat → Int32) (hU : UOK w n U) : ∀ (c m : Nat) (z5 : Int32) (B E P : Nat → Int32) (I tb : Nat → Int64), c ≤ n → c < m → OD tb → TN w g n D (fun _ f _ => c ≤ f) tb → ∃ z5' B' E' P' I' tb', OD tb' ∧ TN w g n D (fun _ _ _ => True) tb' ∧ fNu_fill_22 (nI n) (nI 0) m (nI D) (nI c + (-1)) I (nI n) (nI (g 1)) (nI (g 2)) (nI (g 3)) z5 B E P T U tb = some (I', nI n, nI (g 1), nI (g 2), nI (g 3), z5', B', E', P', T, U, tb') := by
  intro c
  induction c with
  | zero =>
    intro m z5 B E P I tb h1 h2 h3 h4
    obtain ⟨m, rfl⟩ : ∃ q, m = q + 1 := ⟨m - 1, by omega⟩
    refine ⟨z5, B, E, P, I, tb, h3, ?_, ?_⟩
    · intro d f t y1 y2
      exact h4 d f t y1 (Or.inr (Nat.zero_le _))
    · rw [fNu_fill_22, if_pos (by decide)]
  | succ c ih =>
    intro m z5 B E P I tb h1 h2 h3 h4
    obtain ⟨m, rfl⟩ : ∃ q, m = q + 1 := ⟨m - 1, by omega⟩
    obtain ⟨B1, E1, P1, hR, e1⟩ := pRp_find (f := c) hn hU hg3 hg1 hg2 (by omega) B E P
    obtain ⟨I2, tb2, x1, x2, x3⟩ := pNu_fill39 (w := w) (a := c) hn hD (show c < n by omega) hg3 (fNu_fill_22 (nI n) (nI 0) m) (nI n) (nI (g 1)) (nI (g 2)) (nI (g 3)) T U hR (D + 1) 0 FU I tb (by omega) (by show _ < 1000000; omega) h3 (by
      intro d f t y1 y2
      refine h4 d f t y1 ?_
      rcases y2 with y2 | y2 | ⟨y2, y3⟩
      · exact Or.inl y2
      · exact Or.inr y2
      · omega)
    obtain ⟨z5', B', E', P', I', tb', v1, v2, v3⟩ := ih m _ B1 E1 P1 I2 tb2 (by omega) (by omega) x1 x2
    refine ⟨z5', B', E', P', I', tb', v1, v2, ?_⟩
    rw [fNu_fill_22, nI_m1 (by omega), Nat.add_sub_cancel, if_neg (nI_pos (by omega)), e1, Option.bind_some, li0]
    exact x3.trans v3
theorem TN_none {w g : Nat → Nat} {n D c : Nat} (hD : D ≤ 4) (hn : n ≤ 24) (hc : n ≤ c) {tb : Nat → Int64} (hz : OD tb) : TN w g n D (fun _ f _ => c ≤ f) tb := by
  intro d f t h1 h2
  obtain ⟨x1, x2, x3, x4, x5⟩ := h1
  have : f = t := by omega
  subst this
  rw [cnt_0 (Nat.le_refl _)]
  exact hz d f (by omega) (by omega)
/-- fill, of all -/
theorem pNu_fill {w g : Nat → Nat} {n : Nat} {L S : Nat → Int32} (hSt : StOK n w g (nI n) L S) {tb : Nat → Int64} (hz : OD tb) (I : Nat → Int64) (z5 : Int32) (B E P T U : Nat → Int32) : ∃ z5' B' E' P' T' U' I' tb', OD tb' ∧ TN w g n (g 4) (fun _ _ _ => True) tb' ∧ fNu_fill (nI n) L S I z5 B E P T U tb (nI n + (-1)) (nI 0) = some (I', nI n, nI (g 1), nI (g 2), nI (g 3), z5', B', E', P', T', U', tb') := by
  obtain ⟨T1, U1, hU, e1⟩ := pRp_look hSt T U
  obtain ⟨_, hn, hw, hS5, ⟨_, hg0⟩, hg1, hg2, hg3, hg4⟩ := id hSt
  obtain ⟨z5', B', E', P', I', tb', v1, v2, v3⟩ := pNu_fill22 (w := w) (g := g) hn hg4 hg1 hg2 hg3 T1 hU n FU z5 B E P I tb (Nat.le_refl _) (by show _ < 1000000; omega) hz (TN_none hg4 hn (Nat.le_refl _) hz)
  refine ⟨z5', B', E', P', T1, U1, I', tb', v1, v2, ?_⟩
  rw [fNu_fill, e1, Option.bind_some, li4, pSt_setting (by omega), hS5 4 (by omega), Option.bind_some, if_neg (nI_nlt (by omega) (by omega))]
  exact v3
theorem pNu_number {d a t : Nat} {tb : Nat → Int64} (hd : d < 5) (ha : a ≤ t) (ht : t ≤ 24) : fNu_number tb (nI d) (nI a) (nI t) = some (tb (ix d a t)) := by
  have hx := ix_lt hd ha ht
  rw [fNu_number, pIdx ht, Option.bind_some, if_neg (nI_pos (by omega)), if_neg (show ¬ (1625 : Int32) ≤ nI (ix d a t) from nI_ge (b := 1625) hx (by omega)), if_pos (bIn_nI hx (by omega)), rdL_nI (by omega)]
