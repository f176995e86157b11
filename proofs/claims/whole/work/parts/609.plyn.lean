/-! a row of n letters has at most n runs (by Lyndon roots) -/
theorem fb_holes : ∀ (m n : Nat) (f : Nat → Nat), (∀ i, i < n → f i < m) → (∀ i j, i < j → j < n → f i ≠ f j) → n ≤ m := by
  intro m
  induction m with
  | zero =>
    intro n f h1 _
    rcases Nat.eq_zero_or_pos n with h | h
    · omega
    · exact absurd (h1 0 h) (Nat.not_lt_zero _)
  | succ m ih =>
    intro n f h1 h2
    by_cases hx : ∃ i, i < n ∧ f i = m
    · obtain ⟨a, ha, hfa⟩ := hx
      have hg := ih (n - 1) (fun i => if i < a then f i else f (i + 1)) (by
        intro i hi
        by_cases q : i < a
        · simp only [if_pos q]
          have b1 := h1 i (by omega)
          have b2 := h2 i a q ha
          omega
        · simp only [if_neg q]
          have b1 := h1 (i + 1) (by omega)
          have b2 := h2 a (i + 1) (by omega) (by omega)
          omega) (by
        intro i j hij hj
        by_cases q : i < a
        · by_cases r : j < a
          · simp only [if_pos q, if_pos r]
            exact h2 i j hij (by omega)
          · simp only [if_pos q, if_neg r]
            exact h2 i (j + 1) (by omega) (by omega)
        · have r : ¬ j < a := by omega
          simp only [if_neg q, if_neg r]
          exact h2 (i + 1) (j + 1) (by omega) (by omega))
      omega
    · have hg := ih n f (fun i hi => by
        have b1 := h1 i hi
        have b2 : f i ≠ m := fun e => hx ⟨i, hi, e⟩
        omega) h2
      omega
def od (o : Bool) (x y : Int32) : Prop := if o = true then x < y else y < x
theorem od_ne {o : Bool} {x y : Int32} (h : od o x y) : x ≠ y := by
  intro e
  subst e
  unfold od at h
  cases o <;> simp at h
theorem od_tr {o : Bool} {x y z : Int32} (h : od o x y) (h2 : od o y z) : od o x z := by
  unfold od at h h2 ⊢
  cases o
  · simp only [Bool.false_eq_true, if_false] at h h2 ⊢
    rw [Int32.lt_iff_toInt_lt] at h h2 ⊢
    omega
  · simp only [if_true] at h h2 ⊢
    rw [Int32.lt_iff_toInt_lt] at h h2 ⊢
    omega
theorem od_as {o : Bool} {x y : Int32} (h : od o x y) (h2 : od o y x) : False := od_ne (od_tr h h2) rfl
theorem od_tot (o : Bool) {x y : Int32} (h : x ≠ y) : od o x y ∨ od o y x := by
  have hi : x.toInt ≠ y.toInt := fun e => h (Int32.toInt_inj.mp e)
  unfold od
  cases o
  · simp only [Bool.false_eq_true, if_false]
    rw [Int32.lt_iff_toInt_lt, Int32.lt_iff_toInt_lt]
    omega
  · simp only [if_true]
    rw [Int32.lt_iff_toInt_lt, Int32.lt_iff_toInt_lt]
    omega
theorem od_op {o o2 : Bool} {x y : Int32} (hne : o ≠ o2) (h : od o x y) (h2 : od o2 x y) : False := by
  unfold od at h h2
  cases o <;> cases o2 <;> simp at hne h h2
  · rw [Int32.lt_iff_toInt_lt] at h h2; omega
  · rw [Int32.lt_iff_toInt_lt] at h h2; omega
theorem od_ex {x y : Int32} (h : x ≠ y) : ∃ o, od o x y := by
  rcases od_tot true h with q | q
  · exact ⟨true, q⟩
  · exact ⟨false, by unfold od at q ⊢; simpa using q⟩
def Lyn (L : Nat → Int32) (o : Bool) (s e : Nat) : Prop := ∀ t, s < t → t < e → ∃ k, t + k < e ∧ (∀ j, j < k → L (s + j) = L (t + j)) ∧ od o (L (s + k)) (L (t + k))
def Per (L : Nat → Int32) (p a b : Nat) : Prop := ∀ i, a ≤ i → i + p < b → L i = L (i + p)
/-- the sequence that goes on periodically -/
def lx (Q : Nat → Int32) (o : Bool) (s t : Nat) : Prop := ∃ k, (∀ j, j < k → Q (s + j) = Q (t + j)) ∧ od o (Q (s + k)) (Q (t + k))
theorem lx_tr {Q : Nat → Int32} {o : Bool} {s t u : Nat} (h : lx Q o s t) (h2 : lx Q o t u) : lx Q o s u := by
  obtain ⟨k, a1, a2⟩ := h
  obtain ⟨m, b1, b2⟩ := h2
  rcases Nat.lt_trichotomy k m with c | c | c
  · exact ⟨k, fun j hj => (a1 j hj).trans (b1 j (by omega)), by rw [← b1 k c]; exact a2⟩
  · subst c
    exact ⟨k, fun j hj => (a1 j hj).trans (b1 j hj), od_tr a2 b2⟩
  · exact ⟨m, fun j hj => (a1 j (by omega)).trans (b1 j hj), by rw [a1 m c]; exact b2⟩
theorem lx_ir {Q : Nat → Int32} {o : Bool} {s : Nat} (h : lx Q o s s) : False := by
  obtain ⟨k, _, h⟩ := h
  exact od_ne h rfl
theorem lx_tot {Q : Nat → Int32} (o : Bool) {s t : Nat} (h : ∃ k, Q (s + k) ≠ Q (t + k)) : lx Q o s t ∨ lx Q o t s := by
  obtain ⟨k, h1, h2⟩ := pk_least (fun k => Q (s + k) ≠ Q (t + k)) h
  have h3 : ∀ j, j < k → Q (s + j) = Q (t + j) := fun j hj => by
    by_cases c : Q (s + j) = Q (t + j)
    · exact c
    · exact absurd c (h2 j hj)
  rcases od_tot o h1 with q | q
  · exact Or.inl ⟨k, h3, q⟩
  · exact Or.inr ⟨k, fun j hj => (h3 j hj).symm, q⟩
theorem lx_min (Q : Nat → Int32) (o : Bool) : ∀ m, ∃ s, 1 ≤ s ∧ s ≤ m + 1 ∧ ∀ t, 1 ≤ t → t ≤ m + 1 → ¬ lx Q o t s := by
  intro m
  induction m with
  | zero =>
    refine ⟨1, Nat.le_refl _, Nat.le_refl _, fun t h1 h2 h => ?_⟩
    have : t = 1 := by omega
    subst this
    exact lx_ir h
  | succ m ih =>
    obtain ⟨s, s1, s2, s3⟩ := ih
    by_cases c : lx Q o (m + 1 + 1) s
    · refine ⟨m + 1 + 1, by omega, Nat.le_refl _, fun t h1 h2 h => ?_⟩
      by_cases e : t = m + 1 + 1
      · subst e
        exact lx_ir h
      · exact s3 t h1 (by omega) (lx_tr h c)
    · refine ⟨s, s1, by omega, fun t h1 h2 h => ?_⟩
      by_cases e : t = m + 1 + 1
      · subst e
        exact c h
      · exact s3 t h1 (by omega) h
theorem per_mod {L : Nat → Int32} {p a b : Nat} (hp : 1 ≤ p) (h : Per L p a b) : ∀ k, a + k < b → L (a + k) = L (a + k % p) := by
  intro k
  induction k using Nat.strongRecOn with
  | ind k ih =>
    intro hk
    by_cases c : k < p
    · rw [Nat.mod_eq_of_lt c]
    · have e := h (a + (k - p)) (by omega) (by omega)
      rw [show a + (k - p) + p = a + k by omega] at e
      rw [← e, ih (k - p) (by omega) (by omega), Nat.mod_eq_sub_mod (by omega : p ≤ k)]
/-- a run has a Lyndon root that begins behind its first place -/
theorem lyn_ex {L : Nat → Int32} {p a b : Nat} (hp : 1 ≤ p) (h2 : 2 * p ≤ b - a) (h : Per L p a b) (hl : ∀ q, 1 ≤ q → q < p → ¬ Per L q a b) (o : Bool) : ∃ s, a + 1 ≤ s ∧ s ≤ a + p ∧ Lyn L o s (s + p) := by
  obtain ⟨Q, hQ⟩ : ∃ Q : Nat → Int32, Q = fun k => L (a + k % p) := ⟨_, rfl⟩
  have qL : ∀ k, a + k < b → L (a + k) = Q k := fun k hk => by rw [hQ]; exact per_mod hp h k hk
  have qp : ∀ k, Q (k + p) = Q k := fun k => by rw [hQ]; show L (a + (k + p) % p) = L (a + k % p); rw [Nat.add_mod_right]
  obtain ⟨s, s1, s2, s3⟩ := lx_min Q o (p - 1)
  have s2 : s ≤ p := by omega
  have s4 : ∀ t, 1 ≤ t → t ≤ 2 * p → ¬ lx Q o t s := by
    intro t t1 t2 ht
    by_cases c : t ≤ p
    · exact s3 t t1 (by omega) ht
    · refine s3 (t - p) (by omega) (by omega) ?_
      obtain ⟨k, k1, k2⟩ := ht
      refine ⟨k, fun j hj => ?_, ?_⟩
      · rw [← k1 j hj, ← qp (t - p + j), show t - p + j + p = t + j by omega]
      · rw [← qp (t - p + k), show t - p + k + p = t + k by omega]
        exact k2
  refine ⟨a + s, by omega, by omega, fun t t1 t2 => ?_⟩
  obtain ⟨u, rfl⟩ : ∃ u, t = a + u := ⟨t - a, by omega⟩
  have hne : ∃ k, Q (s + k) ≠ Q (u + k) := by
    refine Classical.byContradiction fun hn => ?_
    have hall : ∀ k, Q (s + k) = Q (u + k) := fun k => Classical.byContradiction fun q => hn ⟨k, q⟩
    refine hl (u - s) (by omega) (by omega) (fun i i1 i2 => ?_)
    obtain ⟨x, rfl⟩ : ∃ x, i = a + x := ⟨i - a, by omega⟩
    rw [show a + x + (u - s) = a + (x + (u - s)) by omega, qL x (by omega), qL (x + (u - s)) (by omega)]
    have key : Q (x + p) = Q (x + p + (u - s)) := by
      have := hall (x + p - s)
      rw [show s + (x + p - s) = x + p by omega, show u + (x + p - s) = x + p + (u - s) by omega] at this
      exact this
    rw [qp, show x + p + (u - s) = x + (u - s) + p by omega, qp] at key
    exact key
  rcases lx_tot o hne with ht | ht
  · obtain ⟨k, k1, k2⟩ := ht
    by_cases c : u + k < s + p
    · refine ⟨k, by omega, fun j hj => ?_, ?_⟩
      · rw [Nat.add_assoc, Nat.add_assoc, qL (s + j) (by omega), qL (u + j) (by omega)]
        exact k1 j hj
      · rw [Nat.add_assoc, Nat.add_assoc, qL (s + k) (by omega), qL (u + k) (by omega)]
        exact k2
    · exfalso
      refine s4 (s + (s + p - u)) (by omega) (by omega) ⟨k - (s + p - u), fun j hj => ?_, ?_⟩
      · rw [Nat.add_assoc, k1 (s + p - u + j) (by omega), show u + (s + p - u + j) = s + j + p by omega, qp]
      · rw [Nat.add_assoc, show s + p - u + (k - (s + p - u)) = k by omega, ← qp (s + (k - (s + p - u))), show s + (k - (s + p - u)) + p = u + k by omega]
        exact k2
  · exact absurd ht (s4 u (by omega) (by omega))
/-- what makes a run: its least period, and that it can't be longer -/
def RunP (L : Nat → Int32) (n a b p : Nat) : Prop := 1 ≤ p ∧ 2 * p ≤ b - a ∧ b ≤ n ∧ Per L p a b ∧ (∀ q, 1 ≤ q → q < p → ¬ Per L q a b) ∧ (a = 0 ∨ L (a - 1) ≠ L (a - 1 + p)) ∧ (b = n ∨ L b ≠ L (b - p))
/-- a place of a run's Lyndon root -/
def Root (L : Nat → Int32) (n a b p S : Nat) (o : Bool) : Prop := a + 1 ≤ S ∧ S + p ≤ b ∧ Lyn L o S (S + p) ∧ (b < n → od o (L b) (L (b - p)))
theorem root_ex {L : Nat → Int32} {n a b p : Nat} (h : RunP L n a b p) : ∃ S o, Root L n a b p S o := by
  obtain ⟨h1, h2, h3, h4, h5, h6, h7⟩ := h
  have ho : ∃ o, b < n → od o (L b) (L (b - p)) := by
    rcases h7 with q | q
    · exact ⟨true, fun z => absurd z (by omega)⟩
    · obtain ⟨o, ho⟩ := od_ex q
      exact ⟨o, fun _ => ho⟩
  obtain ⟨o, ho⟩ := ho
  obtain ⟨s, s1, s2, s3⟩ := lyn_ex h1 h2 h4 h5 o
  exact ⟨s, o, s1, by omega, s3, ho⟩
theorem lyn_long {L : Nat → Int32} {n a b p S e : Nat} {o : Bool} (h : RunP L n a b p) (r : Root L n a b p S o) (he : S + p < e) (hen : e ≤ n) : ¬ Lyn L o S e := by
  obtain ⟨h1, h2, h3, h4, h5, h6, h7⟩ := h
  obtain ⟨r1, r2, r3, r4⟩ := r
  intro hL
  obtain ⟨k, k1, k2, k3⟩ := hL (S + p) (by omega) he
  by_cases c : S + p + k < b
  · have e2 := h4 (S + k) (by omega) (by omega)
    rw [show S + p + k = S + k + p by omega, ← e2] at k3
    exact od_ne k3 rfl
  · have hbn : b < n := by omega
    have r5 := r4 hbn
    by_cases d : b - (S + p) < k
    · have e2 := k2 (b - (S + p)) d
      rw [show S + p + (b - (S + p)) = b by omega, show S + (b - (S + p)) = b - p by omega] at e2
      rw [e2] at r5
      exact od_ne r5 rfl
    · rw [show S + p + k = b by omega, show S + k = b - p by omega] at k3
      exact od_as k3 r5
theorem lyn_two {L : Nat → Int32} {S e e2 : Nat} {o o2 : Bool} (hne : o ≠ o2) (h : Lyn L o S e) (h2 : Lyn L o2 S e2) (he : S + 2 ≤ e) (he2 : S + 2 ≤ e2) : False := by
  have last : ∀ {o : Bool} {e : Nat}, Lyn L o S e → S + 2 ≤ e → L (S + (e - 1 - S)) ≠ L S := by
    intro o e h he
    obtain ⟨k, k1, k2, k3⟩ := h (e - 1) (by omega) (by omega)
    have : k = 0 := by omega
    subst this
    rw [Nat.add_zero, Nat.add_zero] at k3
    rw [show S + (e - 1 - S) = e - 1 by omega]
    exact fun q => od_ne k3 q.symm
  obtain ⟨k0, z1, z2⟩ := pk_least (fun k => L (S + k) ≠ L S) ⟨_, last h he⟩
  have hk1 : k0 ≤ e - 1 - S := Nat.le_of_not_lt fun q => z2 _ q (last h he)
  have hk2 : k0 ≤ e2 - 1 - S := Nat.le_of_not_lt fun q => z2 _ q (last h2 he2)
  have hk0 : 1 ≤ k0 := by
    rcases Nat.eq_zero_or_pos k0 with q | q
    · subst q
      exact absurd rfl z1
    · exact q
  have go : ∀ {o : Bool} {e : Nat}, Lyn L o S e → k0 ≤ e - 1 - S → S + 2 ≤ e → od o (L S) (L (S + k0)) := by
    intro o e h hk he
    obtain ⟨k, k1, k2, k3⟩ := h (S + k0) (by omega) (by omega)
    rcases Nat.eq_zero_or_pos k with q | q
    · subst q
      exact k3
    · have := k2 0 q
      rw [Nat.add_zero, Nat.add_zero] at this
      exact absurd this.symm z1
  exact od_op hne (go h hk1 he) (go h2 hk2 he2)
theorem run_same {L : Nat → Int32} {n a b a2 b2 p S : Nat} {o o2 : Bool} (h : RunP L n a b p) (h2 : RunP L n a2 b2 p) (r : Root L n a b p S o) (r2 : Root L n a2 b2 p S o2) : a = a2 ∧ b = b2 := by
  have half : ∀ {a b a2 b2 : Nat} {o o2 : Bool}, RunP L n a b p → RunP L n a2 b2 p → Root L n a b p S o → Root L n a2 b2 p S o2 → ¬ a < a2 ∧ ¬ b < b2 := by
    intro a b a2 b2 o o2 h h2 r r2
    obtain ⟨h1, h22, h3, h4, h5, h6, h7⟩ := h
    obtain ⟨g1, g22, g3, g4, g5, g6, g7⟩ := h2
    obtain ⟨r1, r22, r3, r4⟩ := r
    obtain ⟨q1, q22, q3, q4⟩ := r2
    constructor
    · intro c
      rcases g6 with z | z
      · omega
      · exact z (h4 (a2 - 1) (by omega) (by omega))
    · intro c
      rcases h7 with z | z
      · omega
      · have := g4 (b - p) (by omega) (by omega)
        rw [show b - p + p = b by omega] at this
        exact z this.symm
  have x := half h h2 r r2
  have y := half h2 h r2 r
  omega
theorem one_two {L : Nat → Int32} {n a b a2 b2 p2 S : Nat} {o o2 : Bool} (h : RunP L n a b 1) (h2 : RunP L n a2 b2 p2) (r : Root L n a b 1 S o) (r2 : Root L n a2 b2 p2 S o2) (hp : 2 ≤ p2) : False := by
  obtain ⟨h1, h22, h3, h4, h5, h6, h7⟩ := h
  obtain ⟨g1, g22, g3, g4, g5, g6, g7⟩ := h2
  obtain ⟨r1, r22, r3, r4⟩ := r
  obtain ⟨q1, q22, q3, q4⟩ := r2
  have e1 := h4 (S - 1) (by omega) (by omega)
  have e2 := g4 (S - 1) (by omega) (by omega)
  obtain ⟨k, k1, k2, k3⟩ := q3 (S + p2 - 1) (by omega) (by omega)
  have : k = 0 := by omega
  subst this
  rw [Nat.add_zero, Nat.add_zero, show S + p2 - 1 = S - 1 + p2 by omega, ← e2, e1, show S - 1 + 1 = S by omega] at k3
  exact od_ne k3 rfl
/-- no two runs have a root at one place -/
theorem root_one {L : Nat → Int32} {n a b a2 b2 p p2 S : Nat} {o o2 : Bool} (h : RunP L n a b p) (h2 : RunP L n a2 b2 p2) (r : Root L n a b p S o) (r2 : Root L n a2 b2 p2 S o2) : a = a2 ∧ b = b2 := by
  by_cases e : p = p2
  · subst e
    exact run_same h h2 r r2
  · exfalso
    by_cases c : o = o2
    · subst c
      rcases Nat.lt_or_gt_of_ne e with q | q
      · exact lyn_long h r (e := S + p2) (by omega) (by have := r2.2.1; have := h2.2.2.1; omega) r2.2.2.1
      · exact lyn_long h2 r2 (e := S + p) (by omega) (by have := r.2.1; have := h.2.2.1; omega) r.2.2.1
    · have hp := h.1
      have hp2 := h2.1
      by_cases d : p = 1
      · subst d
        exact one_two h h2 r r2 (by omega)
      · by_cases d2 : p2 = 1
        · subst d2
          exact one_two h2 h r2 r (by omega)
        · exact lyn_two c r.2.2.1 r2.2.2.1 (by omega) (by omega)
theorem unl_per {L : Nat → Int32} {p a b : Nat} (hp : p ≤ b - a) : unl L p (a + p) (b - (a + p)) = 0 ↔ Per L p a b := by
  unfold unl
  rw [cn_0]
  constructor
  · intro h i i1 i2
    have := h (i + p) (by omega) (by omega)
    rw [Nat.add_sub_cancel] at this
    exact (Classical.byContradiction fun q => this (fun z => q z.symm))
  · intro h j j1 j2 q
    have := h (j - p) (by omega) (by omega)
    rw [show j - p + p = j by omega] at this
    exact q this.symm
theorem isRn_RunP {L : Nat → Int32} {n a b : Nat} (hab : a < b) (hb : b ≤ n) (h : isRn L n a b = true) : RunP L n a b (lpf L a b) := by
  obtain ⟨h1, h2, h3⟩ := isRn_iff.mp h
  obtain ⟨l1, l2, l3, l4⟩ := lpf_ok (L := L) hab
  exact ⟨l1, h1, hb, (unl_per l2).mp l3, fun q q1 q2 z => l4 q q1 q2 ((unl_per (by omega)).mpr z), h2, h3⟩
theorem rowR_mem {L : Nat → Int32} {n len : Nat} : ∀ k a q, q ∈ rowR L n len a k → a ≤ q.1 ∧ q.1 < a + k ∧ q.2 = q.1 + len ∧ isRn L n q.1 q.2 = true := by
  intro k
  induction k with
  | zero => intro a q h; simp [rowR] at h
  | succ k ih =>
    intro a q h
    rw [rowR] at h
    by_cases c : isRn L n a (a + len) = true
    · rw [if_pos c] at h
      rcases List.mem_cons.mp h with e | e
      · subst e
        exact ⟨Nat.le_refl _, by show a < a + (k + 1); omega, rfl, c⟩
      · obtain ⟨z1, z2, z3⟩ := ih (a + 1) q e
        exact ⟨by omega, by omega, z3⟩
    · rw [if_neg c] at h
      obtain ⟨z1, z2, z3⟩ := ih (a + 1) q h
      exact ⟨by omega, by omega, z3⟩
theorem rowR_nd {L : Nat → Int32} {n len : Nat} : ∀ k a, (rowR L n len a k).Nodup := by
  intro k
  induction k with
  | zero => intro a; exact List.nodup_nil
  | succ k ih =>
    intro a
    rw [rowR]
    by_cases c : isRn L n a (a + len) = true
    · rw [if_pos c]
      exact List.nodup_cons.mpr ⟨fun h => by have := (rowR_mem k (a + 1) _ h).1; simp at this; omega, ih (a + 1)⟩
    · rw [if_neg c]
      exact ih (a + 1)
theorem rall_mem {L : Nat → Int32} {n : Nat} : ∀ k q, k ≤ n → q ∈ rall L n k → q.1 < q.2 ∧ q.2 ≤ n ∧ q.2 - q.1 ≤ k ∧ isRn L n q.1 q.2 = true := by
  intro k
  induction k with
  | zero => intro q _ h; simp [rall] at h
  | succ k ih =>
    intro q hk h
    rw [rall] at h
    rcases List.mem_append.mp h with e | e
    · obtain ⟨z1, z2, z3, z4⟩ := rowR_mem _ _ _ e
      exact ⟨by omega, by omega, by omega, z4⟩
    · obtain ⟨z1, z2, z3, z4⟩ := ih q (by omega) e
      exact ⟨z1, z2, by omega, z4⟩
theorem rall_nd {L : Nat → Int32} {n : Nat} : ∀ k, k ≤ n → (rall L n k).Nodup := by
  intro k
  induction k with
  | zero => intro _; exact List.nodup_nil
  | succ k ih =>
    intro hk
    rw [rall]
    refine List.nodup_append.mpr ⟨rowR_nd _ _, ih (by omega), fun x hx y hy e => ?_⟩
    subst e
    have z := rowR_mem _ _ _ hx
    have z2 := rall_mem k x (by omega) hy
    omega
theorem runs_le {L : Nat → Int32} {n : Nat} : (rall L n n).length ≤ n := by
  have hex : ∀ i : Nat, ∃ S : Nat, ∀ q, (rall L n n)[i]? = some q → ∃ o, Root L n q.1 q.2 (lpf L q.1 q.2) S o := by
    intro i
    cases hi : (rall L n n)[i]? with
    | none => exact ⟨0, fun q h => by cases h⟩
    | some q =>
      obtain ⟨z1, z2, z3, z4⟩ := rall_mem n q (Nat.le_refl _) (List.mem_of_getElem? hi)
      obtain ⟨S, o, hr⟩ := root_ex (isRn_RunP z1 z2 z4)
      exact ⟨S, fun q2 h => by cases h; exact ⟨o, hr⟩⟩
  obtain ⟨f, hf⟩ := Classical.axiomOfChoice hex
  refine fb_holes n _ f (fun i hi => ?_) (fun i j hij hj e => ?_)
  · have hq := List.getElem?_eq_getElem hi
    obtain ⟨z1, z2, z3, z4⟩ := rall_mem n _ (Nat.le_refl _) (List.mem_of_getElem? hq)
    obtain ⟨o, r1, r2, r3, r4⟩ := hf i _ hq
    have := (lpf_ok (L := L) z1).1
    omega
  · have hi : i < (rall L n n).length := by omega
    have hqi := List.getElem?_eq_getElem hi
    have hqj := List.getElem?_eq_getElem hj
    obtain ⟨z1, z2, z3, z4⟩ := rall_mem n _ (Nat.le_refl _) (List.mem_of_getElem? hqi)
    obtain ⟨y1, y2, y3, y4⟩ := rall_mem n _ (Nat.le_refl _) (List.mem_of_getElem? hqj)
    obtain ⟨o, hr⟩ := hf i _ hqi
    obtain ⟨o2, hr2⟩ := hf j _ hqj
    rw [← e] at hr2
    obtain ⟨e1, e2⟩ := root_one (isRn_RunP z1 z2 z4) (isRn_RunP y1 y2 y4) hr hr2
    have heq : (rall L n n)[i] = (rall L n n)[j] := Prod.ext e1 e2
    have hnd := rall_nd (L := L) (n := n) n (Nat.le_refl _)
    exact List.pairwise_iff_getElem.mp hnd i j hi hj hij heq
