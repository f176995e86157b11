/-! the class's prices -/
theorem pIdx {d f t : Nat} (ht : t ≤ 24) : fRN_partIndex (nI d) (nI f) (nI t) = some (nI (ix d f t)) := by
  have h : t * (t + 1) ≤ 24 * 25 := Nat.mul_le_mul ht (by omega)
  rw [fRN_partIndex, li325, pk_mul, li1, nI_add, pk_mul, li2, pk_div (by omega) (by omega) (by omega), nI_add, nI_add, Nat.mul_comm d 325]
  rfl
/-- the parts that a table is to hold -/
def dom (n D wo d f t : Nat) : Prop := d ≤ D ∧ f ≤ t ∧ t ≤ n ∧ (d < D → t - f ≤ n / 2 ^ (D - d)) ∧ (wo = 1 → d = D → f < t → t = n)
def TD (w g : Nat → Nat) (n D wo : Nat) (F : Nat → Nat → Nat → Prop) (tb : Nat → Int32) : Prop := ∀ d f t, dom n D wo d f t → (f = t ∨ F d f t) → tb (ix d f t) = nI (cst w g d f t)
/-- the items that end at e -/
def Itm (w g : Nat → Nat) (d a e u : Nat) : Prop := (e = a + 1 ∧ u = g 0) ∨ (0 < d ∧ ∃ b x, Rep w (g 3) a b e x ∧ u = g 1 + x * g 2 + cst w g (d - 1) a (a + b))
def ItOK (w g : Nat → Nat) (d a last : Nat) (I : Nat → Int32) : Prop := ∀ e, a < e → e ≤ last → ∃ v, I e = nI v ∧ Mn (Itm w g d a e) v
theorem pPr_fill89 {d a t v : Nat} {tb : Nat → Int32} (hd : d < 5) (ha : a ≤ t) (ht : t ≤ 24) : fPr_fillPart_89 (nI d) (nI a) (nI t) (nI v) tb = some (upd tb (ix d a t) (nI v)) := by
  have hx := ix_lt hd ha ht
  rw [fPr_fillPart_89, pIdx ht, Option.bind_some, if_neg (nI_pos (by omega)), if_neg (show ¬ (1625 : Int32) ≤ nI (ix d a t) from nI_ge (b := 1625) hx (by omega)), if_pos (bIn_nI hx (by omega)), wr_nI (by omega)]
def Two (w g : Nat → Nat) (d a t e u : Nat) : Prop := ∃ e' v, a < e' ∧ e' < e ∧ Mn (Itm w g d a e') v ∧ u = v + cst w g d e' t
theorem Mn_one {P : Nat → Prop} {v v2 : Nat} (h : Mn P v) (h2 : Mn P v2) : v = v2 := Mn_eq h h2 h2.2.2 h.2.2
theorem Two_mn {w g : Nat → Nat} {d a t v : Nat} {I : Nat → Int32} (hat : a < t) (ht : t ≤ 24) (hI : ItOK w g d a t I) (h : Mn (Two w g d a t (t + 1)) v) : v = cst w g d a t := by
  have hc := cst_mn (w := w) (g := g) (d := d) hat ht
  refine Mn_eq h hc ?_ ?_
  · rintro u ⟨e, x, h1, h2, h3, rfl⟩
    rcases h3.1 with z | z
    · have := hc.2.1; omega
    · rcases z with ⟨rfl, rfl⟩ | ⟨z1, b, y, z2, rfl⟩
      · exact hc.2.2 _ (Or.inl rfl)
      · exact hc.2.2 _ (Or.inr ⟨z1, b, e, y, z2, by omega, rfl⟩)
  · rintro u (rfl | ⟨z1, b, e, y, z2, z3, rfl⟩)
    · obtain ⟨x, _, hx⟩ := hI (a + 1) (by omega) (by omega)
      have h1 := hx.2.2 _ (Or.inl ⟨rfl, rfl⟩)
      have h2 := h.2.2 _ ⟨a + 1, x, by omega, by omega, hx, rfl⟩
      omega
    · have hb := Rep_big z2
      obtain ⟨x, _, hx⟩ := hI e (by omega) (by omega)
      have h1 := hx.2.2 _ (Or.inr ⟨z1, b, y, z2, rfl⟩)
      have h2 := h.2.2 _ ⟨e, x, by omega, by omega, hx, rfl⟩
      unfold val
      omega
theorem pPr_fill19 {w g : Nat → Nat} {d a t : Nat} {I tb : Nat → Int32} (hd : d < 5) (hat : a < t) (ht : t ≤ 24) (hI : ItOK w g d a t I) (hT : ∀ e, a < e → e ≤ t → tb (ix d e t) = nI (cst w g d e t)) : ∀ (k e m v : Nat), e + k = t + 1 → k < m → a < e → Mn (Two w g d a t e) v → fPr_fillPart_19 I (nI d) (nI a) (nI t) m (nI v) (nI (ix d e t)) (nI e) tb = some (upd tb (ix d a t) (nI (cst w g d a t))) := by
  intro k
  induction k with
  | zero =>
    intro e m v h1 h2 h3 h4
    obtain ⟨m, rfl⟩ : ∃ q, m = q + 1 := ⟨m - 1, by omega⟩
    have : e = t + 1 := by omega
    subst this
    rw [fPr_fillPart_19, if_neg (nI_pos (by omega)), if_pos (nI_lt (by omega) (by omega)), pPr_fill89 hd (by omega) (by omega), Two_mn hat ht hI h4]
  | succ k ih =>
    intro e m v h1 h2 h3 h4
    obtain ⟨m, rfl⟩ : ∃ q, m = q + 1 := ⟨m - 1, by omega⟩
    obtain ⟨x, hx1, hx2⟩ := hI e h3 (by omega)
    have hv := h4.2.1
    have hx := hx2.2.1
    have hc := cst_le (w := w) (g := g) (d := d) (f := e) ht
    have hstep := Mn_add (Q := Two w g d a t (e + 1)) (x := x + cst w g d e t) h4 (fun u => by
      constructor
      · rintro ⟨e', y, z1, z2, z3, z4⟩
        by_cases c : e' = e
        · right; subst c; rw [z4, Mn_one z3 hx2]
        · left; exact ⟨e', y, z1, by omega, z3, z4⟩
      · rintro (⟨e', y, z1, z2, z3, z4⟩ | z)
        · exact ⟨e', y, z1, by omega, z3, z4⟩
        · exact ⟨e, x, h3, by omega, hx2, z⟩)
    have hix := ix_lt (d := d) (f := e) (t := t) hd (by omega) ht
    rw [fPr_fillPart_19, if_neg (nI_pos (by omega)), if_neg (nI_nlt (by omega) (by omega)), if_neg (show ¬ (25 : Int32) ≤ nI e from nI_ge (b := 25) (by omega) (by omega)), if_neg (nI_pos (by omega)), if_neg (show ¬ (1625 : Int32) ≤ nI (ix d e t) from nI_ge (b := 1625) hix (by omega)), if_pos (bIn_nI (by omega) (by omega)), if_pos (bIn_nI hix (by omega)), rd_nI (by omega), rd_nI (by omega), hx1, hT e h3 (by omega), nI_add, nI_1, nI_1, ix_s]
    by_cases c : v ≤ x + cst w g d e t
    · rw [if_pos c] at hstep
      rw [if_pos (nI_le c (by omega))]
      exact ih (e + 1) m v (by omega) (by omega) (by omega) hstep
    · rw [if_neg c] at hstep
      rw [if_neg (nI_ge (by omega) (by omega))]
      exact ih (e + 1) m _ (by omega) (by omega) (by omega) hstep
theorem pPr_fillPart {w g : Nat → Nat} {d a t : Nat} {I tb : Nat → Int32} (hd : d < 5) (hat : a < t) (ht : t ≤ 24) (hI : ItOK w g d a t I) (hT : ∀ e, a < e → e ≤ t → tb (ix d e t) = nI (cst w g d e t)) : fPr_fillPart I tb (nI d) (nI a) (nI t) = some (upd tb (ix d a t) (nI (cst w g d a t))) := by
  rw [fPr_fillPart, li1, nI_add, pIdx ht, Option.bind_some, li1000000]
  refine pPr_fill19 hd hat ht hI hT (t - a) (a + 1) FU 1000000 (by omega) (by show _ < 1000000; omega) (by omega) ⟨Or.inl rfl, Nat.le_refl _, ?_⟩
  rintro u ⟨e', v, z1, z2, _⟩
  omega
/-- the items, of the first i repeats -/
def ItP (w g : Nat → Nat) (d a : Nat) (l : List (Nat × Nat × Nat)) (e u : Nat) : Prop := (e = a + 1 ∧ u = g 0) ∨ ∃ q, q ∈ l ∧ q.2.1 = e ∧ u = g 1 + q.2.2 * g 2 + cst w g (d - 1) a (a + q.1)
theorem pPr_items58 {w g : Nat → Nat} {d a last : Nat} {l : List (Nat × Nat × Nat)} {B E P tb : Nat → Int32} (hd : d < 5) (hd0 : 0 < d) (hla : last ≤ 24) (ha : a < 25) (hg1 : g 1 ≤ 20) (hg2 : g 2 ≤ 20) (hl : l.length ≤ 60) (hR : RLs (g 1) (g 2) l B E P) (hq : ∀ q, q ∈ l → (a < q.2.1 ∧ a + 2 * q.1 ≤ q.2.1) ∧ q.2.1 ≤ 24 ∧ q.2.2 ≤ 6) (hT : ∀ q, q ∈ l → q.2.1 ≤ last → tb (ix (d - 1) a (a + q.1)) = nI (cst w g (d - 1) a (a + q.1))) : ∀ (k i m : Nat) (I : Nat → Int32), i + k = l.length → k < m → (∀ e, a < e → e ≤ last → ∃ v, I e = nI v ∧ Mn (ItP w g d a (l.take i) e) v) → ∃ I2, (∀ e, a < e → e ≤ last → ∃ v, I2 e = nI v ∧ Mn (ItP w g d a l e) v) ∧ fPr_findItems_58 (nI l.length) B E P tb (nI d) (nI a) (nI last) m (nI i) I = some I2 := by
  intro k
  induction k with
  | zero =>
    intro i m I h1 h2 h3
    obtain ⟨m, rfl⟩ : ∃ q, m = q + 1 := ⟨m - 1, by omega⟩
    refine ⟨I, ?_, ?_⟩
    · rw [List.take_of_length_le (by omega)] at h3; exact h3
    · rw [fPr_findItems_58, if_neg (show ¬ nI d ≤ 0 from nI_nle (by omega) (by omega)), if_pos (nI_le (by omega) (by omega))]
  | succ k ih =>
    intro i m I h1 h2 h3
    obtain ⟨m, rfl⟩ : ∃ q, m = q + 1 := ⟨m - 1, by omega⟩
    have hil : i < l.length := by omega
    obtain ⟨⟨b, e, x⟩, hqi⟩ : ∃ q, l[i]? = some q := ⟨_, List.getElem?_eq_getElem hil⟩
    have hmem : (b, e, x) ∈ l := List.mem_of_getElem? hqi
    obtain ⟨r1, r2, r3⟩ := hR i _ hqi
    obtain ⟨s1, s2, s3⟩ := hq _ hmem
    simp only at r1 r2 r3 s1 s2 s3
    have htk : l.take (i + 1) = l.take i ++ [(b, e, x)] := by rw [List.take_add_one, hqi]; rfl
    have hother : ∀ e', e' ≠ e → ∀ u, ItP w g d a (l.take (i + 1)) e' u ↔ ItP w g d a (l.take i) e' u := by
      intro e' he u
      unfold ItP
      rw [htk]
      constructor
      · rintro (z | ⟨q, z1, z2, z3⟩)
        · exact Or.inl z
        · rcases List.mem_append.mp z1 with z1 | z1
          · exact Or.inr ⟨q, z1, z2, z3⟩
          · rw [List.mem_singleton] at z1
            rw [z1] at z2
            exact absurd z2.symm he
      · rintro (z | ⟨q, z1, z2, z3⟩)
        · exact Or.inl z
        · exact Or.inr ⟨q, List.mem_append_left _ z1, z2, z3⟩
    have hix := ix_lt (d := d - 1) (f := a) (t := a + b) (by omega) (by omega) (by omega)
    rw [fPr_findItems_58, if_neg (show ¬ nI d ≤ 0 from nI_nle (by omega) (by omega)), if_neg (nI_ge (by omega) (by omega)), if_neg (show ¬ (60 : Int32) ≤ nI i from nI_ge (b := 60) (by omega) (by omega)), if_pos (bIn_nI (by omega) (by omega)), if_pos (bIn_nI (by omega) (by omega)), rd_nI (by omega), rd_nI (by omega), rd_nI (by omega), r1, r2, r3, nI_1, li1, pk_sub (by omega), nI_add, pIdx (by omega), Option.bind_some, if_neg (nI_pos (by omega))]
    by_cases c : last < e
    · rw [if_pos (nI_lt c (by omega))]
      refine ih (i + 1) m I (by omega) (by omega) (fun e' h4 h5 => ?_)
      obtain ⟨v, h6, h7⟩ := h3 e' h4 h5
      exact ⟨v, h6, Mn_iff h7 (hother e' (by omega))⟩
    · have hTb := hT _ hmem (show e ≤ last by omega)
      simp only at hTb
      have hcb := cst_le (w := w) (g := g) (d := d - 1) (f := a) (t := a + b) (by omega)
      obtain ⟨v, h6, h7⟩ := h3 e (by omega) (by omega)
      have hv := h7.2.1
      have hxg : x * g 2 ≤ 6 * 20 := Nat.mul_le_mul s3 hg2
      have hstep := Mn_add (Q := ItP w g d a (l.take (i + 1)) e) (x := g 1 + x * g 2 + cst w g (d - 1) a (a + b)) h7 (fun u => by
        unfold ItP
        rw [htk]
        constructor
        · rintro (z | ⟨q, z1, z2, z3⟩)
          · exact Or.inl (Or.inl z)
          · rcases List.mem_append.mp z1 with z1 | z1
            · exact Or.inl (Or.inr ⟨q, z1, z2, z3⟩)
            · rw [List.mem_singleton] at z1
              rw [z1] at z3
              exact Or.inr z3
        · rintro ((z | ⟨q, z1, z2, z3⟩) | z)
          · exact Or.inl z
          · exact Or.inr ⟨q, List.mem_append_left _ z1, z2, z3⟩
          · exact Or.inr ⟨_, List.mem_append_right _ List.mem_cons_self, rfl, z⟩)
      obtain ⟨X, hX⟩ : ∃ X, X = x * g 2 := ⟨_, rfl⟩
      rw [← hX] at hstep hxg ⊢
      rw [if_neg (nI_nlt (by omega) (by omega)), if_neg (show ¬ (25 : Int32) ≤ nI e from nI_ge (b := 25) (by omega) (by omega)), if_neg (nI_pos (by omega)), if_neg (show ¬ (1625 : Int32) ≤ nI (ix (d - 1) a (a + b)) from nI_ge (b := 1625) hix (by omega)), if_pos (bIn_nI (by omega) (by omega)), if_pos (bIn_nI hix (by omega)), if_pos (bIn_nI (by omega) (by omega)), rd_nI (by omega), rd_nI (by omega), hTb, nI_add, h6]
      by_cases c2 : v ≤ g 1 + X + cst w g (d - 1) a (a + b)
      · rw [if_pos c2] at hstep
        rw [if_pos (nI_le c2 (by omega))]
        refine ih (i + 1) m I (by omega) (by omega) (fun e' h4 h5 => ?_)
        by_cases c3 : e' = e
        · subst c3
          exact ⟨v, h6, hstep⟩
        · obtain ⟨v', h6', h7'⟩ := h3 e' h4 h5
          exact ⟨v', h6', Mn_iff h7' (hother e' c3)⟩
      · rw [if_neg c2] at hstep
        rw [if_neg (nI_ge (by omega) (by omega)), if_pos (bIn_nI (by omega) (by omega)), wr_nI (by omega)]
        refine ih (i + 1) m _ (by omega) (by omega) (fun e' h4 h5 => ?_)
        by_cases c3 : e' = e
        · subst c3
          exact ⟨_, pk_us, hstep⟩
        · obtain ⟨v', h6', h7'⟩ := h3 e' h4 h5
          exact ⟨v', by rw [pk_un c3]; exact h6', Mn_iff h7' (hother e' c3)⟩
theorem pPr_items5 {w g : Nat → Nat} {d a last : Nat} {l : List (Nat × Nat × Nat)} {B E P tb S : Nat → Int32} (hd : d < 5) (hla : last ≤ 24) (ha : a < 25) (hS0 : S 0 = nI (g 0)) (hg0 : g 0 ≤ 9) (hg1 : g 1 ≤ 20) (hg2 : g 2 ≤ 20) (hl : l.length ≤ 60) (hR : RLs (g 1) (g 2) l B E P) (hq : ∀ q, q ∈ l → (a < q.2.1 ∧ a + 2 * q.1 ≤ q.2.1) ∧ q.2.1 ≤ 24 ∧ q.2.2 ≤ 6) (hm : ∀ b e x, e ≤ last → ((b, e, x) ∈ l ↔ Rep w (g 3) a b e x)) (hT : 0 < d → ∀ q, q ∈ l → q.2.1 ≤ last → tb (ix (d - 1) a (a + q.1)) = nI (cst w g (d - 1) a (a + q.1))) : ∀ (k e m : Nat) (I : Nat → Int32), e + k = max (last + 1) (a + 1) → k < m → a < e → (∀ e', a < e' → e' < e → e' ≤ last → I e' = nI (if e' = a + 1 then g 0 else 1000000)) → ∃ I2, ItOK w g d a last I2 ∧ fPr_findItems_5 (nI l.length) B E P tb S (nI d) (nI a) (nI last) m (nI e) I = some I2 := by
  intro k
  induction k with
  | zero =>
    intro e m I h1 h2 h3 h4
    obtain ⟨m, rfl⟩ : ∃ q, m = q + 1 := ⟨m - 1, by omega⟩
    rw [fPr_findItems_5, if_neg (nI_pos (by omega)), if_pos (nI_lt (by omega) (by omega)), li0]
    by_cases c : 0 < d
    · obtain ⟨I2, q1, q2⟩ := pPr_items58 hd c hla ha hg1 hg2 hl hR hq (hT c) l.length 0 FU I (by omega) (by show _ < 1000000; omega) (fun e' z1 z2 => by
        refine ⟨_, h4 e' z1 (by omega) z2, ?_⟩
        rw [List.take_zero]
        by_cases c2 : e' = a + 1
        · rw [if_pos c2]
          refine ⟨Or.inr (Or.inl ⟨c2, rfl⟩), by omega, ?_⟩
          rintro u (⟨_, z⟩ | ⟨q, z, _⟩)
          · omega
          · simp at z
        · rw [if_neg c2]
          refine ⟨Or.inl rfl, Nat.le_refl _, ?_⟩
          rintro u (⟨z, _⟩ | ⟨q, z, _⟩)
          · exact absurd z c2
          · simp at z)
      refine ⟨I2, ?_, q2⟩
      intro e' z1 z2
      obtain ⟨v, z3, z4⟩ := q1 e' z1 z2
      refine ⟨v, z3, Mn_iff z4 (fun u => ?_)⟩
      constructor
      · rintro (z | ⟨_, b, x, z5, z6⟩)
        · exact Or.inl z
        · exact Or.inr ⟨(b, e', x), (hm b e' x z2).mpr z5, rfl, z6⟩
      · rintro (z | ⟨⟨b, e2, x⟩, z5, z6, z7⟩)
        · exact Or.inl z
        · simp only at z6 z7
          subst z6
          exact Or.inr ⟨c, b, x, (hm b e2 x z2).mp z5, z7⟩
    · have : d = 0 := by omega
      subst this
      refine ⟨I, ?_, ?_⟩
      · intro e' z1 z2
        refine ⟨_, h4 e' z1 (by omega) z2, ?_⟩
        by_cases c2 : e' = a + 1
        · rw [if_pos c2]
          refine ⟨Or.inr (Or.inl ⟨c2, rfl⟩), by omega, ?_⟩
          rintro u (⟨_, z⟩ | ⟨z, _⟩)
          · omega
          · omega
        · rw [if_neg c2]
          refine ⟨Or.inl rfl, Nat.le_refl _, ?_⟩
          rintro u (⟨z, _⟩ | ⟨z, _⟩)
          · exact absurd z c2
          · omega
      · obtain ⟨mm, hmm⟩ := FU_s
        rw [hmm, fPr_findItems_58, if_pos (by decide)]
  | succ k ih =>
    intro e m I h1 h2 h3 h4
    obtain ⟨m, rfl⟩ : ∃ q, m = q + 1 := ⟨m - 1, by omega⟩
    by_cases c0 : last < e
    · exfalso; omega
    rw [fPr_findItems_5, if_neg (nI_pos (by omega)), if_neg (nI_nlt (by omega) (by omega)), if_neg (show ¬ (25 : Int32) ≤ nI e from nI_ge (b := 25) (by omega) (by omega)), li1, nI_add, nI_add]
    by_cases c : e = a + 1
    · rw [if_pos (by rw [c]), li0, pSt_setting (by omega), hS0, Option.bind_some, if_pos (bIn_nI (by omega) (by omega)), wr_nI (by omega)]
      refine ih (e + 1) m _ (by omega) (by omega) (by omega) (fun e' z1 z2 z3 => ?_)
      by_cases c3 : e' = e
      · rw [c3, pk_us, if_pos c]
      · rw [pk_un c3]; exact h4 e' z1 (by omega) z3
    · rw [if_neg (by rw [nI_eq (by omega) (by omega)]; exact c), if_pos (bIn_nI (by omega) (by omega)), wr_nI (by omega), li1000000]
      refine ih (e + 1) m _ (by omega) (by omega) (by omega) (fun e' z1 z2 z3 => ?_)
      by_cases c3 : e' = e
      · rw [c3, pk_us, if_neg c]
      · rw [pk_un c3]; exact h4 e' z1 (by omega) z3
theorem pPr_findItems {w g : Nat → Nat} {d a last : Nat} {l : List (Nat × Nat × Nat)} {B E P tb S : Nat → Int32} (hd : d < 5) (hla : last ≤ 24) (ha : a < 25) (hS0 : S 0 = nI (g 0)) (hg0 : g 0 ≤ 9) (hg1 : g 1 ≤ 20) (hg2 : g 2 ≤ 20) (hl : l.length ≤ 60) (hR : RLs (g 1) (g 2) l B E P) (hq : ∀ q, q ∈ l → (a < q.2.1 ∧ a + 2 * q.1 ≤ q.2.1) ∧ q.2.1 ≤ 24 ∧ q.2.2 ≤ 6) (hm : ∀ b e x, e ≤ last → ((b, e, x) ∈ l ↔ Rep w (g 3) a b e x)) (hT : 0 < d → ∀ q, q ∈ l → q.2.1 ≤ last → tb (ix (d - 1) a (a + q.1)) = nI (cst w g (d - 1) a (a + q.1))) (I : Nat → Int32) : ∃ I2, ItOK w g d a last I2 ∧ fPr_findItems (nI l.length) B E P tb S I (nI d) (nI a) (nI last) = some I2 := by
  rw [fPr_findItems, li1, nI_add]
  exact pPr_items5 hd hla ha hS0 hg0 hg1 hg2 hl hR hq hm hT (max (last + 1) (a + 1) - (a + 1)) (a + 1) FU I (by omega) (by show _ < 1000000; omega) (by omega) (fun e' z1 z2 => absurd z2 (by omega))
theorem pp_ne {d a t d2 p : Nat} (hat : a < t) (ht : t < 25) (hp : p < 25) : ix d2 p p ≠ ix d a t := by
  intro h
  obtain ⟨_, h1, h2⟩ := ix_inj (Nat.le_refl p) (by omega) (by omega) (by omega) h
  omega
theorem ZD_upd {tb : Nat → Int32} {d a t : Nat} {v : Int32} (h : ZD tb) (hat : a < t) (ht : t < 25) : ZD (upd tb (ix d a t) v) := by
  intro d' p h1 h2
  rw [pk_un (pp_ne hat ht h2)]
  exact h d' p h1 h2
theorem TD_upd {w g : Nat → Nat} {n D wo : Nat} {F F2 : Nat → Nat → Nat → Prop} {tb : Nat → Int32} {d a t : Nat} (hn : n ≤ 24) (hD : D ≤ 4) (h : TD w g n D wo F tb) (hat : a < t) (ht : t ≤ 24) (hd : d < 5) (hF : ∀ d' f' t', dom n D wo d' f' t' → F2 d' f' t' → F d' f' t' ∨ (d' = d ∧ f' = a ∧ t' = t)) : TD w g n D wo F2 (upd tb (ix d a t) (nI (cst w g d a t))) := by
  intro d' f' t' h1 h2
  obtain ⟨z1, z2, z3, z4, z5⟩ := id h1
  by_cases c : d' = d ∧ f' = a ∧ t' = t
  · obtain ⟨rfl, rfl, rfl⟩ := c
    rw [pk_us]
  · rw [pk_un (fun h => c (ix_inj z2 (by omega) (by omega) ht h))]
    refine h d' f' t' h1 ?_
    rcases h2 with h2 | h2
    · exact Or.inl h2
    · rcases hF d' f' t' h1 h2 with h3 | h3
      · exact Or.inr h3
      · exact absurd h3 c
set_option maxHeartbeats 1000000 in
theorem pPr_fill111 {w g : Nat → Nat} {n D wo a dd last first : Nat} {I : Nat → Int32} (hn : n ≤ 24) (hD : D ≤ 4) (hdd : dd ≤ D) (ha : a < n) (hla : last ≤ n) (hI : ItOK w g dd a last I) (h1 : ∀ t, a < t → dom n D wo dd a t → t ≤ last) (h2 : ∀ tt e, first ≤ tt → tt ≤ last → a < e → e ≤ tt → dom n D wo dd e tt) (k22 : Int32 → Int32 → (Nat → Int32) → Int32 → Int32 → Int32 → Int32 → Int32 → (Nat → Int32) → (Nat → Int32) → (Nat → Int32) → (Nat → Int32) → (Nat → Int32) → (Nat → Int32) → Option ((Nat → Int32) × Int32 × Int32 × Int32 × Int32 × Int32 × (Nat → Int32) × (Nat → Int32) × (Nat → Int32) × (Nat → Int32) × (Nat → Int32) × (Nat → Int32))) (k39 : Int32 → Int32 → Int32 → (Nat → Int32) → Int32 → Int32 → Int32 → Int32 → Int32 → (Nat → Int32) → (Nat → Int32) → (Nat → Int32) → (Nat → Int32) → (Nat → Int32) → (Nat → Int32) → Option ((Nat → Int32) × Int32 × Int32 × Int32 × Int32 × Int32 × (Nat → Int32) × (Nat → Int32) × (Nat → Int32) × (Nat → Int32) × (Nat → Int32) × (Nat → Int32))) (z1 z2 z3 z4 z5 : Int32) (B E P T U : Nat → Int32) : ∀ (k tt m : Nat) (tb : Nat → Int32), last + 1 ≤ tt + k → k < m → tt ≤ 25 → a < tt → first ≤ tt → ZD tb → TD w g n D wo (fun d f t => a < f ∨ (f = a ∧ (d < dd ∨ (d = dd ∧ (t < tt ∨ last < t))))) tb → ∃ tb2, ZD tb2 ∧ TD w g n D wo (fun d f t => a < f ∨ (f = a ∧ d < dd + 1)) tb2 ∧ fPr_fill_111 k22 k39 m (nI D) (nI a) (nI dd) (nI last) (nI tt) I z1 z2 z3 z4 z5 B E P T U tb = k39 (nI D) (nI a) (nI (dd + 1)) I z1 z2 z3 z4 z5 B E P T U tb2 := by
  have hexit : ∀ (tt m : Nat) (tb : Nat → Int32), last < tt → tt ≤ 25 → ZD tb → TD w g n D wo (fun d f t => a < f ∨ (f = a ∧ (d < dd ∨ (d = dd ∧ (t < tt ∨ last < t))))) tb → ∃ tb2, ZD tb2 ∧ TD w g n D wo (fun d f t => a < f ∨ (f = a ∧ d < dd + 1)) tb2 ∧ fPr_fill_111 k22 k39 (m + 1) (nI D) (nI a) (nI dd) (nI last) (nI tt) I z1 z2 z3 z4 z5 B E P T U tb = k39 (nI D) (nI a) (nI (dd + 1)) I z1 z2 z3 z4 z5 B E P T U tb2 := by
    intro tt m tb h3 h4 h5 h6
    refine ⟨tb, h5, ?_, ?_⟩
    · intro d f t q1 q2
      refine h6 d f t q1 ?_
      rcases q2 with q2 | q2 | ⟨q2, q3⟩
      · exact Or.inl q2
      · exact Or.inr (Or.inl q2)
      · right; right
        refine ⟨q2, ?_⟩
        by_cases c : d < dd
        · exact Or.inl c
        · exact Or.inr ⟨by omega, by omega⟩
    · rw [fPr_fill_111, if_pos (nI_lt h3 (by omega)), nI_1]
  intro k
  induction k with
  | zero =>
    intro tt m tb q1 q2 q3 q4 q5 q6 q7
    obtain ⟨m, rfl⟩ : ∃ q, m = q + 1 := ⟨m - 1, by omega⟩
    exact hexit tt m tb (by omega) q3 q6 q7
  | succ k ih =>
    intro tt m tb q1 q2 q3 q4 q5 q6 q7
    obtain ⟨m, rfl⟩ : ∃ q, m = q + 1 := ⟨m - 1, by omega⟩
    by_cases c : last < tt
    · exact hexit tt m tb c q3 q6 q7
    · have hfp := pPr_fillPart (w := w) (g := g) (d := dd) (a := a) (t := tt) (I := I) (tb := tb) (by omega) q4 (by omega) (fun e z1 z2 => hI e z1 (by omega)) (fun e z1 z2 => q7 dd e tt (h2 tt e q5 (by omega) z1 z2) (Or.inr (Or.inl z1)))
      rw [fPr_fill_111, if_neg (nI_nlt (by omega) (by omega)), hfp, Option.bind_some, nI_1]
      exact ih (tt + 1) m _ (by omega) (by omega) (by omega) (by omega) (by omega) (ZD_upd q6 q4 (by omega)) (TD_upd hn hD q7 q4 (by omega) (by omega) (fun d' f' t' y1 y2 => by
        rcases y2 with y2 | ⟨y2, y3 | ⟨y3, y4⟩⟩
        · exact Or.inl (Or.inl y2)
        · exact Or.inl (Or.inr ⟨y2, Or.inl y3⟩)
        · by_cases c2 : t' = tt
          · exact Or.inr ⟨y3, y2, c2⟩
          · exact Or.inl (Or.inr ⟨y2, Or.inr ⟨y3, by omega⟩⟩)))
theorem last_eq {a n D dd : Nat} (ha : a < 25) (hn : n ≤ 24) (hD : D ≤ 4) (hdd : dd ≤ D) : (if (nI a + (nI n >>> ((nI D - nI dd) &&& 31))) < nI n then (nI a + (nI n >>> ((nI D - nI dd) &&& 31))) else nI n) = nI (min n (a + n / 2 ^ (D - dd))) := by
  have h := Nat.div_le_self n (2 ^ (D - dd))
  rw [pk_sub hdd, shr_n (by omega) (by omega), nI_add]
  obtain ⟨x, hx⟩ : ∃ x, x = n / 2 ^ (D - dd) := ⟨_, rfl⟩
  rw [← hx] at h ⊢
  by_cases c : a + x < n
  · rw [if_pos (nI_lt c (by omega)), show min n (a + x) = a + x by omega]
  · rw [if_neg (nI_nlt (by omega) (by omega)), show min n (a + x) = n by omega]
theorem rl_q {w : Nat → Nat} {M n a : Nat} (hn : n ≤ 24) (hM : M ≤ 6) : ∀ q, q ∈ rl w M n a → (a < q.2.1 ∧ a + 2 * q.1 ≤ q.2.1) ∧ q.2.1 ≤ 24 ∧ q.2.2 ≤ 6 := by
  intro q hq
  obtain ⟨h1, h2⟩ := (mem_rl' hn).mp hq
  have h3 := Rep_big h1
  obtain ⟨_, i, _, _, _, h4⟩ := h1
  omega
theorem half {n D d : Nat} (h0 : 0 < d) (hd : d ≤ D) : n / 2 ^ (D - (d - 1)) = n / 2 ^ (D - d) / 2 := by
  rw [show D - (d - 1) = D - d + 1 by omega, Nat.pow_succ, Nat.div_div_eq_div_mul]
set_option maxHeartbeats 1000000 in
theorem pPr_fill39 {w g : Nat → Nat} {n D wo a : Nat} {S : Nat → Int32} (hn : n ≤ 24) (hD : D ≤ 4) (ha : a < n) (hwo : wo ≤ 1) (hS0 : S 0 = nI (g 0)) (hg0 : g 0 ≤ 9) (hg1 : g 1 ≤ 20) (hg2 : g 2 ≤ 20) (hg3 : g 3 ≤ 6) (k22 : Int32 → Int32 → (Nat → Int32) → Int32 → Int32 → Int32 → Int32 → Int32 → (Nat → Int32) → (Nat → Int32) → (Nat → Int32) → (Nat → Int32) → (Nat → Int32) → (Nat → Int32) → Option ((Nat → Int32) × Int32 × Int32 × Int32 × Int32 × Int32 × (Nat → Int32) × (Nat → Int32) × (Nat → Int32) × (Nat → Int32) × (Nat → Int32) × (Nat → Int32))) (z1 z2 z3 z4 : Int32) {B E P : Nat → Int32} (T U : Nat → Int32) (hR : RLs (g 1) (g 2) (rl w (g 3) n a) B E P) : ∀ (k dd m : Nat) (I tb : Nat → Int32), dd + k = D + 1 → k < m → ZD tb → TD w g n D wo (fun d f _ => a < f ∨ (f = a ∧ d < dd)) tb → ∃ I2 tb2, ZD tb2 ∧ TD w g n D wo (fun _ f _ => a ≤ f) tb2 ∧ fPr_fill_39 (nI n) S (nI wo) k22 m (nI D) (nI a) (nI dd) I z1 z2 z3 z4 (nI (rl w (g 3) n a).length) B E P T U tb = k22 (nI D) (nI a + (-1)) I2 z1 z2 z3 z4 (nI (rl w (g 3) n a).length) B E P T U tb2 := by
  intro k
  induction k with
  | zero =>
    intro dd m I tb q1 q2 q3 q4
    obtain ⟨m, rfl⟩ : ∃ q, m = q + 1 := ⟨m - 1, by omega⟩
    refine ⟨I, tb, q3, ?_, ?_⟩
    · intro d f t y1 y2
      obtain ⟨x1, x2, x3, x4, x5⟩ := id y1
      refine q4 d f t y1 ?_
      rcases y2 with y2 | y2
      · exact Or.inl y2
      · right
        by_cases c : a < f
        · exact Or.inl c
        · exact Or.inr ⟨by omega, by omega⟩
    · rw [fPr_fill_39, if_pos (nI_lt (by omega) (by omega))]
  | succ k ih =>
    intro dd m I tb q1 q2 q3 q4
    obtain ⟨m, rfl⟩ : ∃ q, m = q + 1 := ⟨m - 1, by omega⟩
    have hdv := Nat.div_le_self n (2 ^ (D - dd))
    obtain ⟨last, hlast⟩ : ∃ last, last = min n (a + n / 2 ^ (D - dd)) := ⟨_, rfl⟩
    have hl60 := rl_len (w := w) (M := g 3) (f := a) hn
    have hq := rl_q (w := w) (a := a) hn hg3
    obtain ⟨I1, hI1, e1⟩ := pPr_findItems (w := w) (g := g) (d := dd) (a := a) (last := last) (B := B) (E := E) (P := P) (tb := tb) (S := S) (by omega) (by omega) (by omega) hS0 hg0 hg1 hg2 hl60 hR hq (fun b e x h => ⟨fun z => ((mem_rl hn).mp z).1, fun z => (mem_rl hn).mpr ⟨z, by omega⟩⟩) (fun h0 q hqm hql => by
      obtain ⟨y1, y2, y3⟩ := hq q hqm
      refine q4 (dd - 1) a (a + q.1) ⟨by omega, by omega, by omega, fun _ => ?_, fun _ z => by omega⟩ (Or.inr (Or.inr ⟨rfl, by omega⟩))
      rw [half h0 (by omega)]
      omega) I
    have h1 : ∀ t, a < t → dom n D wo dd a t → t ≤ last := by
      rintro t y0 ⟨y1, y2, y3, y4, y5⟩
      by_cases c : dd < D
      · have := y4 c; omega
      · have : D - dd = 0 := by omega
        rw [this, Nat.pow_zero, Nat.div_one] at hlast
        omega
    have hdom : ∀ tt e, (wo = 1 → dd = D → n ≤ tt) → tt ≤ last → a < e → e ≤ tt → dom n D wo dd e tt := by
      intro tt e y0 y1 y2 y3
      exact ⟨by omega, y3, by omega, fun _ => by omega, fun y4 y5 _ => by have := y0 y4 y5; omega⟩
    have hgo : ∀ first, a < first → first ≤ 25 → (first ≤ last + 1 ∨ first ≤ n) → (wo = 1 → dd = D → n ≤ first) → (∀ t, dom n D wo dd a t → a < t → first ≤ t ∨ last < t) → ∃ I2 tb2, ZD tb2 ∧ TD w g n D wo (fun _ f _ => a ≤ f) tb2 ∧ fPr_fill_94 S k22 (fPr_fill_39 (nI n) S (nI wo) k22 m) (nI D) (nI a) (nI dd) (nI last) (nI first) I z1 z2 z3 z4 (nI (rl w (g 3) n a).length) B E P T U tb = k22 (nI D) (nI a + (-1)) I2 z1 z2 z3 z4 (nI (rl w (g 3) n a).length) B E P T U tb2 := by
      intro first y1 y2 y3 y4 y5
      obtain ⟨tb1, x1, x2, x3⟩ := pPr_fill111 (first := first) hn hD (show dd ≤ D by omega) ha (show last ≤ n by omega) hI1 h1 (fun tt e u1 u2 u3 u4 => hdom tt e (fun v1 v2 => by have := y4 v1 v2; omega) u2 u3 u4) k22 (fPr_fill_39 (nI n) S (nI wo) k22 m) z1 z2 z3 z4 (nI (rl w (g 3) n a).length) B E P T U 25 first FU tb (by omega) (by decide) y2 y1 (Nat.le_refl _) q3 (by
        intro d f t u1 u2
        refine q4 d f t u1 ?_
        rcases u2 with u2 | u2 | ⟨u2, u3 | ⟨u3, u4⟩⟩
        · exact Or.inl u2
        · exact Or.inr (Or.inl u2)
        · exact Or.inr (Or.inr ⟨u2, u3⟩)
        · by_cases c : f = t
          · exact Or.inl c
          · exfalso
            subst u2 u3
            have v1 := u1.2.1
            have v2 := h1 t (by omega) u1
            have v3 := y5 t u1 (by omega)
            omega)
      obtain ⟨I2, tb2, x4, x5, x6⟩ := ih (dd + 1) m I1 tb1 (by omega) (by omega) x1 x2
      refine ⟨I2, tb2, x4, x5, ?_⟩
      rw [fPr_fill_94, e1, Option.bind_some, x3]
      exact x6
    rw [fPr_fill_39, if_neg (nI_nlt (by omega) (by omega)), last_eq (by omega) hn hD (by omega), ← hlast]
    by_cases c : wo = 0
    · rw [c, if_pos (show nI 0 = 0 from rfl), fPr_fill_90, li1, nI_add]
      rw [c] at hgo
      exact hgo (a + 1) (by omega) (by omega) (by omega) (fun z => by omega) (fun t u1 u2 => by omega)
    · have : wo = 1 := by omega
      subst this
      rw [if_neg (show ¬ nI 1 = 0 by decide)]
      by_cases c2 : dd = D
      · rw [if_pos (by rw [c2])]
        refine hgo n ha (by omega) (by omega) (fun _ _ => Nat.le_refl _) (fun t u1 u2 => ?_)
        have := u1.2.2.2.2 rfl c2 u2
        omega
      · rw [if_neg (by rw [nI_eq (by omega) (by omega)]; exact c2), fPr_fill_90, li1, nI_add]
        exact hgo (a + 1) (by omega) (by omega) (by omega) (fun _ z => absurd z c2) (fun t u1 u2 => by omega)
theorem pPr_fill22 {w g : Nat → Nat} {n D wo : Nat} {S U : Nat → Int32} (hn : n ≤ 24) (hD : D ≤ 4) (hwo : wo ≤ 1) (hS0 : S 0 = nI (g 0)) (hg0 : g 0 ≤ 9) (hg1 : g 1 ≤ 20) (hg2 : g 2 ≤ 20) (hg3 : g 3 ≤ 6) (T : Nat → Int32) (hU : UOK w n U) : ∀ (c m : Nat) (z5 : Int32) (B E P I tb : Nat → Int32), c ≤ n → c < m → ZD tb → TD w g n D wo (fun _ f _ => c ≤ f) tb → ∃ z5' B' E' P' I' tb', ZD tb' ∧ TD w g n D wo (fun _ _ _ => True) tb' ∧ fPr_fill_22 (nI n) S (nI wo) m (nI D) (nI c + (-1)) I (nI n) (nI (g 1)) (nI (g 2)) (nI (g 3)) z5 B E P T U tb = some (I', nI n, nI (g 1), nI (g 2), nI (g 3), z5', B', E', P', T, U, tb') := by
  intro c
  induction c with
  | zero =>
    intro m z5 B E P I tb h1 h2 h3 h4
    obtain ⟨m, rfl⟩ : ∃ q, m = q + 1 := ⟨m - 1, by omega⟩
    refine ⟨z5, B, E, P, I, tb, h3, ?_, ?_⟩
    · intro d f t y1 y2
      exact h4 d f t y1 (Or.inr (Nat.zero_le _))
    · rw [fPr_fill_22, if_pos (by decide)]
  | succ c ih =>
    intro m z5 B E P I tb h1 h2 h3 h4
    obtain ⟨m, rfl⟩ : ∃ q, m = q + 1 := ⟨m - 1, by omega⟩
    obtain ⟨B1, E1, P1, hR, e1⟩ := pRp_find (f := c) hn hU hg3 hg1 hg2 (by omega) B E P
    obtain ⟨I2, tb2, x1, x2, x3⟩ := pPr_fill39 (wo := wo) (w := w) (a := c) hn hD (show c < n by omega) hwo hS0 hg0 hg1 hg2 hg3 (fPr_fill_22 (nI n) S (nI wo) m) (nI n) (nI (g 1)) (nI (g 2)) (nI (g 3)) T U hR (D + 1) 0 FU I tb (by omega) (by show _ < 1000000; omega) h3 (by
      intro d f t y1 y2
      refine h4 d f t y1 ?_
      rcases y2 with y2 | y2 | ⟨y2, y3⟩
      · exact Or.inl y2
      · exact Or.inr y2
      · omega)
    obtain ⟨z5', B', E', P', I', tb', v1, v2, v3⟩ := ih m _ B1 E1 P1 I2 tb2 (by omega) (by omega) x1 x2
    refine ⟨z5', B', E', P', I', tb', v1, v2, ?_⟩
    rw [fPr_fill_22, nI_m1 (by omega), Nat.add_sub_cancel, if_neg (nI_pos (by omega)), e1, Option.bind_some, li0]
    exact x3.trans v3
/-- fill: the parts from c on stand, all stand then -/
theorem pPr_fill {w g : Nat → Nat} {n wo c : Nat} {L S : Nat → Int32} (hSt : StOK n w g (nI n) L S) (hwo : wo ≤ 1) (hc : c ≤ n) {tb : Nat → Int32} (hz : ZD tb) (hT : TD w g n (g 4) wo (fun _ f _ => c ≤ f) tb) (I : Nat → Int32) (z5 : Int32) (B E P T U : Nat → Int32) : ∃ z5' B' E' P' T' U' I' tb', ZD tb' ∧ TD w g n (g 4) wo (fun _ _ _ => True) tb' ∧ fPr_fill (nI n) L S I z5 B E P T U tb (nI c + (-1)) (nI wo) = some (I', nI n, nI (g 1), nI (g 2), nI (g 3), z5', B', E', P', T', U', tb') := by
  obtain ⟨T1, U1, hU, e1⟩ := pRp_look hSt T U
  obtain ⟨_, hn, hw, hS5, ⟨_, hg0⟩, hg1, hg2, hg3, hg4⟩ := id hSt
  obtain ⟨z5', B', E', P', I', tb', v1, v2, v3⟩ := pPr_fill22 (w := w) (g := g) hn hg4 hwo (hS5 0 (by omega)) hg0 hg1 hg2 hg3 T1 hU c FU z5 B E P I tb hc (by show _ < 1000000; omega) hz hT
  refine ⟨z5', B', E', P', T1, U1, I', tb', v1, v2, ?_⟩
  rw [fPr_fill, e1, Option.bind_some, li4, pSt_setting (by omega), hS5 4 (by omega), Option.bind_some, if_neg (nI_nlt (by omega) (by omega))]
  exact v3
/-- price -/
theorem pPr_price {d a t : Nat} {tb : Nat → Int32} (hd : d < 5) (ha : a ≤ t) (ht : t ≤ 24) : fPr_price tb (nI d) (nI a) (nI t) = some (tb (ix d a t)) := by
  have hx := ix_lt hd ha ht
  rw [fPr_price, pIdx ht, Option.bind_some, if_neg (nI_pos (by omega)), if_neg (show ¬ (1625 : Int32) ≤ nI (ix d a t) from nI_ge (b := 1625) hx (by omega)), if_pos (bIn_nI hx (by omega)), rd_nI (by omega)]
theorem pPr_rowPrice {w g : Nat → Nat} {n wo : Nat} {L S : Nat → Int32} (hSt : StOK n w g (nI n) L S) {tb : Nat → Int32} (hT : TD w g n (g 4) wo (fun _ _ _ => True) tb) : fPr_rowPrice tb (nI n) S = some (nI (cst w g (g 4) 0 n)) := by
  obtain ⟨_, hn, hw, hS5, hg⟩ := id hSt
  have h := hT (g 4) 0 n ⟨Nat.le_refl _, by omega, Nat.le_refl _, fun z => by omega, fun _ _ _ => rfl⟩ (Or.inr trivial)
  rw [fPr_rowPrice, li4, li0, pSt_setting (by omega), Option.bind_some, hS5 4 (by omega), pPr_price (by omega) (by omega) (by omega), h]
  rfl
theorem TD_none {w g : Nat → Nat} {n D wo c : Nat} (hD : D ≤ 4) (hn : n ≤ 24) (hc : n ≤ c) {tb : Nat → Int32} (hz : ZD tb) : TD w g n D wo (fun _ f _ => c ≤ f) tb := by
  intro d f t h1 h2
  obtain ⟨x1, x2, x3, x4, x5⟩ := h1
  have : f = t := by omega
  subst this
  rw [cst_0 (Nat.le_refl _)]
  exact hz d f (by omega) (by omega)
