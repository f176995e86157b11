/-! how many descriptions: sums of longs -/
theorem uL_s {f : Nat → Int64} {k : Nat} {x : Int64} : vp_updL f k x k = x := if_pos rfl
theorem uL_n {f : Nat → Int64} {k j : Nat} {x : Int64} (h : j ≠ k) : vp_updL f k x j = f j := if_neg h
def sL : List Int64 → Int64
  | [] => 0
  | a :: l => a + sL l
theorem sL_app (l m : List Int64) : sL (l ++ m) = sL l + sL m := by
  induction l with
  | nil => rw [List.nil_append, sL, Int64.zero_add]
  | cons a l ih => rw [List.cons_append, sL, sL, ih, Int64.add_assoc]
def cntF (w g : Nat → Nat) : Nat → Nat → Nat → Nat → Int64
  | 0, _, _, _ => 1
  | k + 1, d, f, t => if t ≤ f then 1 else cntF w g k d (f + 1) t + sL (if d = 0 then [] else (rl w (g 3) t f).map (fun q => cntF w g k (d - 1) f (f + q.1) * cntF w g k d q.2.1 t))
def cnt (w g : Nat → Nat) (d f t : Nat) : Int64 := cntF w g (t - f) d f t
theorem cntF_fuel {w g : Nat → Nat} : ∀ k k2 d f t, t ≤ 24 → t - f ≤ k → t - f ≤ k2 → cntF w g k d f t = cntF w g k2 d f t := by
  intro k
  induction k with
  | zero =>
    intro k2 d f t h h1 h2
    cases k2 with
    | zero => rfl
    | succ k2 => rw [cntF, cntF, if_pos (by omega)]
  | succ k ih =>
    intro k2 d f t h h1 h2
    cases k2 with
    | zero => rw [cntF, cntF, if_pos (by omega)]
    | succ k2 =>
      rw [cntF, cntF]
      by_cases c : t ≤ f
      · rw [if_pos c, if_pos c]
      · rw [if_neg c, if_neg c, ih k2 d (f + 1) t h (by omega) (by omega)]
        congr 2
        by_cases c2 : d = 0
        · rw [if_pos c2, if_pos c2]
        · rw [if_neg c2, if_neg c2]
          apply List.map_congr_left
          intro q hq
          obtain ⟨a1, a2⟩ := (mem_rl' h).mp hq
          obtain ⟨a3, a4⟩ := Rep_big a1
          rw [ih k2 (d - 1) f (f + q.1) (by omega) (by omega) (by omega), ih k2 d q.2.1 t h (by omega) (by omega)]
theorem cnt_0 {w g : Nat → Nat} {d f t : Nat} (h : t ≤ f) : cnt w g d f t = 1 := by
  unfold cnt
  rw [show t - f = 0 by omega]
  rfl
theorem cnt_s {w g : Nat → Nat} {d f t : Nat} (h : f < t) (ht : t ≤ 24) : cnt w g d f t = cnt w g d (f + 1) t + sL (if d = 0 then [] else (rl w (g 3) t f).map (fun q => cnt w g (d - 1) f (f + q.1) * cnt w g d q.2.1 t)) := by
  unfold cnt
  obtain ⟨k, hk⟩ : ∃ k, t - f = k + 1 := ⟨t - f - 1, by omega⟩
  rw [hk, cntF, if_neg (by omega), cntF_fuel k (t - (f + 1)) d (f + 1) t ht (by omega) (by omega)]
  congr 2
  by_cases c2 : d = 0
  · rw [if_pos c2, if_pos c2]
  · rw [if_neg c2, if_neg c2]
    apply List.map_congr_left
    intro q hq
    obtain ⟨a1, a2⟩ := (mem_rl' ht).mp hq
    obtain ⟨a3, a4⟩ := Rep_big a1
    rw [cntF_fuel k (f + q.1 - f) (d - 1) f (f + q.1) (by omega) (by omega) (by omega), cntF_fuel k (t - q.2.1) d q.2.1 t ht (by omega) (by omega)]
/-- the repeats that end by t, out of those that end by n -/
theorem rbl_cut {w : Nat → Nat} {M n t f b : Nat} (htn : t ≤ n) (F : Nat × Nat × Nat → Int64) : ∀ k j, sL ((rbl w M n f b k j).map (fun q => if q.2.1 ≤ t then F q else 0)) = sL ((rbl w M t f b k j).map F) := by
  intro k
  induction k with
  | zero => intro j; rfl
  | succ k ih =>
    intro j
    rw [rbl, rbl]
    by_cases c : f + (j + 1) * b ≤ n ∧ wrg w f b j ≤ M
    · rw [if_pos c]
      by_cases c2 : f + (j + 1) * b ≤ t
      · rw [if_pos ⟨c2, c.2⟩, List.map_cons, List.map_cons, sL, sL, ih, if_pos c2]
      · rw [if_neg (fun z => c2 z.1), List.map_cons, sL, ih, if_neg c2, rbl_nil (by have := mul_mono (b := b) (show j ≤ j + 1 by omega); omega), Int64.zero_add]
    · rw [if_neg c, if_neg (fun z => c ⟨by omega, z.2⟩)]
      rfl
theorem rls_cut {w : Nat → Nat} {M n t f : Nat} (htn : t ≤ n) (F : Nat × Nat × Nat → Int64) : ∀ k b, sL ((rls w M n f k b).map (fun q => if q.2.1 ≤ t then F q else 0)) = sL ((rls w M t f k b).map F) := by
  intro k
  induction k with
  | zero => intro b; rfl
  | succ k ih => intro b; rw [rls, rls, List.map_append, List.map_append, sL_app, sL_app, rbl_cut htn, ih]
/-- a sum over k places from s on -/
def sE (h : Nat → Int64) (s : Nat) : Nat → Int64
  | 0 => 0
  | k + 1 => sE h s k + h (s + k)
theorem a4 (a b c d : Int64) : a + b + (c + d) = a + c + (b + d) := by
  rw [Int64.add_assoc, Int64.add_assoc, ← Int64.add_assoc b c d, Int64.add_comm b c, Int64.add_assoc]
theorem sE_add (h1 h2 : Nat → Int64) (s : Nat) : ∀ k, sE (fun e => h1 e + h2 e) s k = sE h1 s k + sE h2 s k := by
  intro k
  induction k with
  | zero => rw [sE, sE, sE, Int64.zero_add]
  | succ k ih => rw [sE, sE, sE, ih, a4]
theorem sE_zero (s : Nat) {h : Nat → Int64} : ∀ k, (∀ e, s ≤ e → e < s + k → h e = 0) → sE h s k = 0 := by
  intro k
  induction k with
  | zero => intro _; rfl
  | succ k ih => intro hh; rw [sE, ih (fun e a b => hh e a (by omega)), hh _ (by omega) (by omega), Int64.zero_add]
theorem sE_one (s p : Nat) (A : Int64) (C : Nat → Int64) : ∀ k, sE (fun e => (if p = e then A else 0) * C e) s k = if s ≤ p ∧ p < s + k then A * C p else 0 := by
  intro k
  induction k with
  | zero => rw [sE, if_neg (by omega)]
  | succ k ih =>
    rw [sE, ih]
    by_cases c : p = s + k
    · rw [if_neg (by omega), if_pos c, if_pos (by omega), Int64.zero_add, c]
    · rw [if_neg c, Int64.zero_mul, Int64.add_zero]
      by_cases c2 : s ≤ p ∧ p < s + k
      · rw [if_pos c2, if_pos (by omega)]
      · rw [if_neg c2, if_neg (by omega)]
theorem sE_cong {h h2 : Nat → Int64} {s : Nat} : ∀ k, (∀ e, s ≤ e → e < s + k → h e = h2 e) → sE h s k = sE h2 s k := by
  intro k
  induction k with
  | zero => intro _; rfl
  | succ k ih => intro hh; rw [sE, sE, ih (fun e a b => hh e a (by omega)), hh _ (by omega) (by omega)]
/-- how many items end at e, of a list of repeats -/
def itN (A : Nat × Nat × Nat → Int64) (a e : Nat) (l : List (Nat × Nat × Nat)) : Int64 := (if a + 1 = e then 1 else 0) + sL (l.map (fun q => if q.2.1 = e then A q else 0))
theorem itN_sum (A : Nat × Nat × Nat → Int64) (C : Nat → Int64) (a t : Nat) (hat : a < t) : ∀ l : List (Nat × Nat × Nat), (∀ q, q ∈ l → a < q.2.1) → sE (fun e => itN A a e l * C e) (a + 1) (t - a) = C (a + 1) + sL (l.map (fun q => if q.2.1 ≤ t then A q * C q.2.1 else 0)) := by
  intro l
  induction l with
  | nil =>
    intro _
    rw [List.map_nil, sL, Int64.add_zero]
    have h := sE_one (a + 1) (a + 1) 1 C (t - a)
    rw [if_pos (by omega), Int64.one_mul] at h
    rw [← h]
    refine sE_cong _ (fun e _ _ => ?_)
    rw [itN, List.map_nil, sL, Int64.add_zero]
  | cons q l ih =>
    intro hl
    have hq := hl q List.mem_cons_self
    have e1 : sE (fun e => itN A a e (q :: l) * C e) (a + 1) (t - a) = sE (fun e => (if q.2.1 = e then A q else 0) * C e + itN A a e l * C e) (a + 1) (t - a) := by
      refine sE_cong _ (fun e _ _ => ?_)
      rw [itN, itN, List.map_cons, sL, ← Int64.add_mul]
      congr 1
      rw [← Int64.add_assoc, Int64.add_comm (if a + 1 = e then 1 else 0), Int64.add_assoc]
    rw [e1, sE_add, ih (fun q' h => hl q' (List.mem_cons_of_mem _ h)), sE_one, List.map_cons, sL]
    rw [← Int64.add_assoc, Int64.add_comm _ (C (a + 1)), Int64.add_assoc]
    congr 2
    by_cases c : q.2.1 ≤ t
    · rw [if_pos c, if_pos (by omega)]
    · rw [if_neg c, if_neg (by omega)]
theorem cnt_items {w g : Nat → Nat} {d a t n : Nat} (hat : a < t) (htn : t ≤ n) (hn : n ≤ 24) : sE (fun e => itN (fun q => cnt w g (d - 1) a (a + q.1)) a e (if d = 0 then [] else rl w (g 3) n a) * cnt w g d e t) (a + 1) (t - a) = cnt w g d a t := by
  rw [itN_sum _ _ _ _ hat _ (fun q hq => ?_), cnt_s hat (by omega)]
  · congr 1
    by_cases c : d = 0
    · rw [if_pos c, if_pos c]; rfl
    · rw [if_neg c, if_neg c]
      exact rls_cut htn (fun q => cnt w g (d - 1) a (a + q.1) * cnt w g d q.2.1 t) 24 1
  · by_cases c : d = 0
    · rw [if_pos c] at hq; simp at hq
    · rw [if_neg c] at hq
      obtain ⟨a1, a2⟩ := (mem_rl' hn).mp hq
      obtain ⟨a3, a4⟩ := Rep_big a1
      omega
