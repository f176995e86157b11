/-! the least price of a part at a depth -/
/-- where the class's tables hold a part: the ends' sums, then the beginnings -/
def tgl (t : Nat) : Nat := t * (t + 1) / 2
theorem tgl_s (t : Nat) : tgl (t + 1) = tgl t + (t + 1) := by
  unfold tgl
  rw [show (t + 1) * (t + 1 + 1) = t * (t + 1) + (t + 1) * 2 from by rw [Nat.mul_add (t + 1) (t + 1) 1, Nat.add_mul t 1 (t + 1)]; omega]
  exact Nat.add_mul_div_right _ _ (by omega)
theorem tgl_lt {a : Nat} : ∀ {b : Nat}, a < b → tgl a + (a + 1) ≤ tgl b := by
  intro b
  induction b with
  | zero => intro h; exact absurd h (Nat.not_lt_zero _)
  | succ b ih =>
    intro h
    rw [tgl_s]
    rcases Nat.lt_or_eq_of_le (Nat.le_of_lt_succ h) with c | c
    · have := ih c; omega
    · subst c; omega
theorem tgl_24 : tgl 24 = 300 := rfl
theorem tgl_le {t : Nat} (h : t ≤ 24) : tgl t ≤ 300 := by
  rcases Nat.lt_or_eq_of_le h with c | c
  · have := tgl_lt c; rw [tgl_24] at this; omega
  · exact Nat.le_of_eq (by rw [c, tgl_24])
def ix (d f t : Nat) : Nat := 325 * d + tgl t + f
theorem ix_s {d f t : Nat} : ix d f t + 1 = ix d (f + 1) t := rfl
theorem ix_lt {d f t : Nat} (hd : d < 5) (hf : f ≤ t) (ht : t ≤ 24) : ix d f t < 1625 := by
  have := tgl_le ht
  unfold ix
  omega
theorem ix_inj {d f t d' f' t' : Nat} (hf : f ≤ t) (ht : t ≤ 24) (hf' : f' ≤ t') (ht' : t' ≤ 24) (h : ix d f t = ix d' f' t') : d = d' ∧ f = f' ∧ t = t' := by
  have h1 := tgl_le ht
  have h2 := tgl_le ht'
  unfold ix at h
  have hd : d = d' := by omega
  subst hd
  rcases Nat.lt_trichotomy t t' with c | c | c
  · have := tgl_lt c; omega
  · subst c; exact ⟨rfl, by omega, rfl⟩
  · have := tgl_lt c; omega
def ZD (tb : Nat → Int32) : Prop := ∀ d p, d < 5 → p < 25 → tb (ix d p p) = 0
def OD (tb : Nat → Int64) : Prop := ∀ d p, d < 5 → p < 25 → tb (ix d p p) = 1
def mnl : List Nat → Nat
  | [] => 1000000
  | a :: l => min a (mnl l)
/-- v is the least of P, or 1000000 if that is less -/
def Mn (P : Nat → Prop) (v : Nat) : Prop := (v = 1000000 ∨ P v) ∧ v ≤ 1000000 ∧ ∀ u, P u → v ≤ u
theorem Mn_eq {P Q : Nat → Prop} {v v2 : Nat} (h : Mn P v) (h2 : Mn Q v2) (a : ∀ u, P u → v2 ≤ u) (b : ∀ u, Q u → v ≤ u) : v = v2 := by
  apply Nat.le_antisymm
  · rcases h2.1 with e | e
    · rw [e]; exact h.2.1
    · exact b _ e
  · rcases h.1 with e | e
    · rw [e]; exact h2.2.1
    · exact a _ e
theorem mnl_mn : ∀ l : List Nat, Mn (fun u => u ∈ l) (mnl l) := by
  intro l
  induction l with
  | nil => exact ⟨Or.inl rfl, Nat.le_refl _, fun u h => by simp at h⟩
  | cons a l ih =>
    obtain ⟨h1, h2, h3⟩ := ih
    refine ⟨?_, ?_, ?_⟩
    · show min a (mnl l) = 1000000 ∨ min a (mnl l) ∈ a :: l
      by_cases c : a ≤ mnl l
      · rw [Nat.min_eq_left c]; right; exact List.mem_cons_self
      · rw [Nat.min_eq_right (by omega)]
        rcases h1 with h1 | h1
        · left; exact h1
        · right; exact List.mem_cons_of_mem _ h1
    · show min a (mnl l) ≤ 1000000
      omega
    · intro u hu
      show min a (mnl l) ≤ u
      rcases List.mem_cons.mp hu with rfl | hu
      · omega
      · have := h3 u hu; omega
theorem Mn_add {P Q : Nat → Prop} {v x : Nat} (h : Mn P v) (hq : ∀ u, Q u ↔ P u ∨ u = x) : Mn Q (if v ≤ x then v else x) := by
  obtain ⟨h1, h2, h3⟩ := h
  by_cases c : v ≤ x
  · rw [if_pos c]
    refine ⟨h1.elim Or.inl (fun z => Or.inr ((hq v).mpr (Or.inl z))), h2, fun u hu => ?_⟩
    rcases (hq u).mp hu with z | z
    · exact h3 u z
    · omega
  · rw [if_neg c]
    refine ⟨Or.inr ((hq x).mpr (Or.inr rfl)), by omega, fun u hu => ?_⟩
    rcases (hq u).mp hu with z | z
    · have := h3 u z; omega
    · omega
theorem Mn_iff {P Q : Nat → Prop} {v : Nat} (h : Mn P v) (hq : ∀ u, Q u ↔ P u) : Mn Q v := ⟨h.1.elim Or.inl (fun z => Or.inr ((hq v).mpr z)), h.2.1, fun u hu => h.2.2 u ((hq u).mp hu)⟩
def cstF (w g : Nat → Nat) : Nat → Nat → Nat → Nat → Nat
  | 0, _, _, _ => 0
  | k + 1, d, f, t => if t ≤ f then 0 else mnl ((g 0 + cstF w g k d (f + 1) t) :: (if d = 0 then [] else (rl w (g 3) t f).map (fun q => g 1 + q.2.2 * g 2 + cstF w g k (d - 1) f (f + q.1) + cstF w g k d q.2.1 t)))
/-- the least price -/
def cst (w g : Nat → Nat) (d f t : Nat) : Nat := cstF w g (t - f) d f t
theorem mem_rl' {w : Nat → Nat} {M n f : Nat} {q : Nat × Nat × Nat} (hn : n ≤ 24) : q ∈ rl w M n f ↔ Rep w M f q.1 q.2.1 q.2.2 ∧ q.2.1 ≤ n := mem_rl (b := q.1) (e := q.2.1) (x := q.2.2) hn
theorem cstF_fuel {w g : Nat → Nat} : ∀ k k2 d f t, t ≤ 24 → t - f ≤ k → t - f ≤ k2 → cstF w g k d f t = cstF w g k2 d f t := by
  intro k
  induction k with
  | zero =>
    intro k2 d f t h h1 h2
    cases k2 with
    | zero => rfl
    | succ k2 => rw [cstF, cstF, if_pos (by omega)]
  | succ k ih =>
    intro k2 d f t h h1 h2
    cases k2 with
    | zero => rw [cstF, cstF, if_pos (by omega)]
    | succ k2 =>
      rw [cstF, cstF]
      by_cases c : t ≤ f
      · rw [if_pos c, if_pos c]
      · rw [if_neg c, if_neg c, ih k2 d (f + 1) t h (by omega) (by omega)]
        congr 2
        by_cases c2 : d = 0
        · rw [if_pos c2, if_pos c2]
        · rw [if_neg c2, if_neg c2]
          apply List.map_congr_left
          intro q hq
          obtain ⟨a1, a2⟩ := (mem_rl' h).mp hq
          obtain ⟨a3, a4⟩ := Rep_big a1
          rw [ih k2 (d - 1) f (f + q.1) (by omega) (by omega) (by omega), ih k2 d q.2.1 t h (by omega) (by omega)]
theorem cst_0 {w g : Nat → Nat} {d f t : Nat} (h : t ≤ f) : cst w g d f t = 0 := by
  unfold cst
  rw [show t - f = 0 by omega]
  rfl
theorem cst_s {w g : Nat → Nat} {d f t : Nat} (h : f < t) (ht : t ≤ 24) : cst w g d f t = mnl ((g 0 + cst w g d (f + 1) t) :: (if d = 0 then [] else (rl w (g 3) t f).map (fun q => g 1 + q.2.2 * g 2 + cst w g (d - 1) f (f + q.1) + cst w g d q.2.1 t))) := by
  unfold cst
  obtain ⟨k, hk⟩ : ∃ k, t - f = k + 1 := ⟨t - f - 1, by omega⟩
  rw [hk, cstF, if_neg (by omega), cstF_fuel k (t - (f + 1)) d (f + 1) t ht (by omega) (by omega)]
  congr 2
  by_cases c2 : d = 0
  · rw [if_pos c2, if_pos c2]
  · rw [if_neg c2, if_neg c2]
    apply List.map_congr_left
    intro q hq
    obtain ⟨a1, a2⟩ := (mem_rl' ht).mp hq
    obtain ⟨a3, a4⟩ := Rep_big a1
    rw [cstF_fuel k (f + q.1 - f) (d - 1) f (f + q.1) (by omega) (by omega) (by omega), cstF_fuel k (t - q.2.1) d q.2.1 t ht (by omega) (by omega)]
/-- what the description costs that begins with this repeat -/
def val (w g : Nat → Nat) (d f t b e x : Nat) : Nat := g 1 + x * g 2 + cst w g (d - 1) f (f + b) + cst w g d e t
def Cand (w g : Nat → Nat) (d f t u : Nat) : Prop := u = g 0 + cst w g d (f + 1) t ∨ (0 < d ∧ ∃ b e x, Rep w (g 3) f b e x ∧ e ≤ t ∧ u = val w g d f t b e x)
theorem cst_mn {w g : Nat → Nat} {d f t : Nat} (h : f < t) (ht : t ≤ 24) : Mn (Cand w g d f t) (cst w g d f t) := by
  rw [cst_s h ht]
  refine Mn_iff (mnl_mn _) (fun u => ?_)
  rw [List.mem_cons]
  unfold Cand
  by_cases c : d = 0
  · rw [if_pos c]
    constructor
    · rintro (z | ⟨z, _⟩)
      · exact Or.inl z
      · omega
    · rintro (z | z)
      · exact Or.inl z
      · simp at z
  · rw [if_neg c, List.mem_map]
    constructor
    · rintro (z | ⟨_, b, e, x, z1, z2, z3⟩)
      · exact Or.inl z
      · exact Or.inr ⟨(b, e, x), (mem_rl ht).mpr ⟨z1, z2⟩, z3.symm⟩
    · rintro (z | ⟨q, z1, z2⟩)
      · exact Or.inl z
      · obtain ⟨a1, a2⟩ := (mem_rl' ht).mp z1
        exact Or.inr ⟨by omega, q.1, q.2.1, q.2.2, a1, a2, z2.symm⟩
theorem cst_le {w g : Nat → Nat} {d f t : Nat} (ht : t ≤ 24) : cst w g d f t ≤ 1000000 := by
  by_cases c : f < t
  · exact (cst_mn c ht).2.1
  · rw [cst_0 (by omega)]; omega
theorem cst_len {w g : Nat → Nat} {d t : Nat} (ht : t ≤ 24) : ∀ k f, f + k = t → cst w g d f t ≤ g 0 * k := by
  intro k
  induction k with
  | zero => intro f h; rw [cst_0 (by omega)]; omega
  | succ k ih =>
    intro f h
    have h1 := (cst_mn (w := w) (g := g) (d := d) (show f < t by omega) ht).2.2 _ (Or.inl rfl)
    have h2 := ih (f + 1) (by omega)
    rw [Nat.mul_succ]
    omega
theorem cst_lt {w g : Nat → Nat} {d f t : Nat} (ht : t ≤ 24) (hg : g 0 ≤ 9) : cst w g d f t ≤ 216 := by
  by_cases c : f < t
  · have h := cst_len (w := w) (g := g) (d := d) ht (t - f) f (by omega)
    have h2 : g 0 * (t - f) ≤ 9 * 24 := Nat.mul_le_mul hg (by omega)
    omega
  · rw [cst_0 (by omega)]; omega
theorem rbl_cong {w v : Nat → Nat} {M n f b : Nat} (h : ∀ i, f ≤ i → i < n → w i = v i) : ∀ k j, rbl w M n f b k j = rbl v M n f b k j := by
  intro k
  induction k with
  | zero => intro j; rfl
  | succ k ih =>
    intro j
    rw [rbl, rbl]
    by_cases c : f + (j + 1) * b ≤ n
    · rw [wrg_cong h j c, ih]
    · rw [if_neg (fun z => c z.1), if_neg (fun z => c z.1)]
theorem rls_cong {w v : Nat → Nat} {M n f : Nat} (h : ∀ i, f ≤ i → i < n → w i = v i) : ∀ k b, rls w M n f k b = rls v M n f k b := by
  intro k
  induction k with
  | zero => intro b; rfl
  | succ k ih => intro b; rw [rls, rls, rbl_cong h, ih]
theorem cstF_cong {w v g : Nat → Nat} : ∀ k d f t, t ≤ 24 → (∀ i, f ≤ i → i < t → w i = v i) → cstF w g k d f t = cstF v g k d f t := by
  intro k
  induction k with
  | zero => intro d f t ht h; rfl
  | succ k ih =>
    intro d f t ht h
    rw [cstF, cstF]
    by_cases c : t ≤ f
    · rw [if_pos c, if_pos c]
    · rw [if_neg c, if_neg c, ih d (f + 1) t ht (fun i a b => h i (by omega) b)]
      congr 2
      by_cases c2 : d = 0
      · rw [if_pos c2, if_pos c2]
      · rw [if_neg c2, if_neg c2]
        have e : rl w (g 3) t f = rl v (g 3) t f := rls_cong h 24 1
        rw [e]
        apply List.map_congr_left
        intro q hq
        obtain ⟨a1, a2⟩ := (mem_rl' ht).mp hq
        obtain ⟨a3, a4⟩ := Rep_big a1
        rw [ih (d - 1) f (f + q.1) (by omega) (fun i a b => h i a (by omega)), ih d q.2.1 t ht (fun i a b => h i (by omega) b)]
theorem cst_cong {w v g : Nat → Nat} {d f t : Nat} (ht : t ≤ 24) (h : ∀ i, f ≤ i → i < t → w i = v i) : cst w g d f t = cst v g d f t := cstF_cong _ d f t ht h
/-- the first item that is told: its letters, its block (0: a letter) -/
def Ch (w g : Nat → Nat) (d f t m b : Nat) : Prop := (m = 1 ∧ b = 0 ∧ ∀ b' e' x', 0 < d → Rep w (g 3) f b' e' x' → e' ≤ t → val w g d f t b' e' x' ≠ cst w g d f t) ∨ (0 < d ∧ ∃ x, Rep w (g 3) f b (f + m) x ∧ f + m ≤ t ∧ val w g d f t b (f + m) x = cst w g d f t ∧ ∀ b' e' x', Rep w (g 3) f b' e' x' → e' ≤ t → val w g d f t b' e' x' = cst w g d f t → e' < f + m ∨ (e' = f + m ∧ b ≤ b'))
theorem Ch_one {w g : Nat → Nat} {d f t m b m2 b2 : Nat} (h : Ch w g d f t m b) (h2 : Ch w g d f t m2 b2) : m = m2 ∧ b = b2 := by
  rcases h with ⟨rfl, rfl, h⟩ | ⟨hd, x, h3, h4, h5, h6⟩
  · rcases h2 with ⟨rfl, rfl, h2⟩ | ⟨hd, x, h3, h4, h5, h6⟩
    · exact ⟨rfl, rfl⟩
    · exact absurd h5 (h _ _ _ hd h3 h4)
  · rcases h2 with ⟨rfl, rfl, h2⟩ | ⟨_, x', g3, g4, g5, g6⟩
    · exact absurd h5 (h2 _ _ _ hd h3 h4)
    · have r1 := h6 _ _ _ g3 g4 g5
      have r2 := g6 _ _ _ h3 h4 h5
      omega
theorem Ch_b {w g : Nat → Nat} {d f t m b : Nat} (h : Ch w g d f t m b) (hf : f < t) : 1 ≤ m ∧ f + m ≤ t ∧ (b = 0 → m = 1) ∧ (0 < b → 0 < d ∧ 2 * b ≤ m) ∧ (m = 1 → b = 0) := by
  rcases h with ⟨rfl, rfl, h⟩ | ⟨hd, x, h3, h4, h5, h6⟩
  · exact ⟨by omega, by omega, fun _ => rfl, fun z => absurd z (by omega), fun _ => rfl⟩
  · obtain ⟨a1, a2⟩ := Rep_big h3
    exact ⟨by omega, h4, fun z => by omega, fun z => ⟨hd, by omega⟩, fun z => by omega⟩
