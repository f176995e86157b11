theorem li0 : (0 : Int32) = nI 0 := rfl
theorem li1 : (1 : Int32) = nI 1 := rfl
theorem li2 : (2 : Int32) = nI 2 := rfl
theorem li3 : (3 : Int32) = nI 3 := rfl
theorem li4 : (4 : Int32) = nI 4 := rfl
theorem li5 : (5 : Int32) = nI 5 := rfl
theorem li6 : (6 : Int32) = nI 6 := rfl
theorem li7 : (7 : Int32) = nI 7 := rfl
theorem li8 : (8 : Int32) = nI 8 := rfl
theorem li9 : (9 : Int32) = nI 9 := rfl
theorem li10 : (10 : Int32) = nI 10 := rfl
theorem li11 : (11 : Int32) = nI 11 := rfl
theorem li12 : (12 : Int32) = nI 12 := rfl
theorem li13 : (13 : Int32) = nI 13 := rfl
theorem li14 : (14 : Int32) = nI 14 := rfl
theorem li15 : (15 : Int32) = nI 15 := rfl
theorem li16 : (16 : Int32) = nI 16 := rfl
theorem li17 : (17 : Int32) = nI 17 := rfl
theorem li18 : (18 : Int32) = nI 18 := rfl
theorem li19 : (19 : Int32) = nI 19 := rfl
theorem li20 : (20 : Int32) = nI 20 := rfl
theorem li21 : (21 : Int32) = nI 21 := rfl
theorem li22 : (22 : Int32) = nI 22 := rfl
theorem li23 : (23 : Int32) = nI 23 := rfl
theorem li24 : (24 : Int32) = nI 24 := rfl
theorem li25 : (25 : Int32) = nI 25 := rfl
theorem li26 : (26 : Int32) = nI 26 := rfl
theorem li27 : (27 : Int32) = nI 27 := rfl
theorem li28 : (28 : Int32) = nI 28 := rfl
theorem li29 : (29 : Int32) = nI 29 := rfl
theorem li30 : (30 : Int32) = nI 30 := rfl
theorem li31 : (31 : Int32) = nI 31 := rfl
theorem li32 : (32 : Int32) = nI 32 := rfl
theorem li33 : (33 : Int32) = nI 33 := rfl
theorem li34 : (34 : Int32) = nI 34 := rfl
theorem li35 : (35 : Int32) = nI 35 := rfl
theorem li36 : (36 : Int32) = nI 36 := rfl
theorem li37 : (37 : Int32) = nI 37 := rfl
theorem li38 : (38 : Int32) = nI 38 := rfl
theorem li39 : (39 : Int32) = nI 39 := rfl
theorem li40 : (40 : Int32) = nI 40 := rfl
theorem li41 : (41 : Int32) = nI 41 := rfl
theorem li42 : (42 : Int32) = nI 42 := rfl
theorem li43 : (43 : Int32) = nI 43 := rfl
theorem li44 : (44 : Int32) = nI 44 := rfl
theorem li45 : (45 : Int32) = nI 45 := rfl
theorem li46 : (46 : Int32) = nI 46 := rfl
theorem li47 : (47 : Int32) = nI 47 := rfl
theorem li48 : (48 : Int32) = nI 48 := rfl
theorem li49 : (49 : Int32) = nI 49 := rfl
theorem li50 : (50 : Int32) = nI 50 := rfl
theorem li51 : (51 : Int32) = nI 51 := rfl
theorem li52 : (52 : Int32) = nI 52 := rfl
theorem li53 : (53 : Int32) = nI 53 := rfl
theorem li54 : (54 : Int32) = nI 54 := rfl
theorem li55 : (55 : Int32) = nI 55 := rfl
theorem li56 : (56 : Int32) = nI 56 := rfl
theorem li57 : (57 : Int32) = nI 57 := rfl
theorem li58 : (58 : Int32) = nI 58 := rfl
theorem li59 : (59 : Int32) = nI 59 := rfl
theorem li60 : (60 : Int32) = nI 60 := rfl
theorem li61 : (61 : Int32) = nI 61 := rfl
theorem li62 : (62 : Int32) = nI 62 := rfl
theorem li63 : (63 : Int32) = nI 63 := rfl
theorem li64 : (64 : Int32) = nI 64 := rfl
theorem li90 : (90 : Int32) = nI 90 := rfl
theorem li91 : (91 : Int32) = nI 91 := rfl
theorem li93 : (93 : Int32) = nI 93 := rfl
theorem li97 : (97 : Int32) = nI 97 := rfl
theorem li100 : (100 : Int32) = nI 100 := rfl
theorem li101 : (101 : Int32) = nI 101 := rfl
theorem li123 : (123 : Int32) = nI 123 := rfl
theorem li126 : (126 : Int32) = nI 126 := rfl
theorem li160 : (160 : Int32) = nI 160 := rfl
theorem li325 : (325 : Int32) = nI 325 := rfl
theorem li625 : (625 : Int32) = nI 625 := rfl
theorem li744 : (744 : Int32) = nI 744 := rfl
theorem li1625 : (1625 : Int32) = nI 1625 := rfl
theorem li1000000 : (1000000 : Int32) = nI 1000000 := rfl
theorem li252645135 : (252645135 : Int32) = nI 252645135 := rfl
theorem li858993459 : (858993459 : Int32) = nI 858993459 := rfl
theorem li1431655765 : (1431655765 : Int32) = nI 1431655765 := rfl
theorem rd_nI {f : Nat → Int32} {i : Nat} (h : i < 2 ^ 31) : rd f (nI i) = f i := by show f (nI i).toNatClampNeg = f i; rw [nI_clamp h]
theorem rdL_nI {f : Nat → Int64} {i : Nat} (h : i < 2 ^ 31) : rdL f (nI i) = f i := by show f (nI i).toNatClampNeg = f i; rw [nI_clamp h]
theorem wr_nI {f : Nat → Int32} {i : Nat} {x : Int32} (h : i < 2 ^ 31) : wr f (nI i) x = upd f i x := by show upd f (nI i).toNatClampNeg x = _; rw [nI_clamp h]
theorem wrL_nI {f : Nat → Int64} {i : Nat} {x : Int64} (h : i < 2 ^ 31) : wrL f (nI i) x = vp_updL f i x := by show vp_updL f (nI i).toNatClampNeg x = _; rw [nI_clamp h]
theorem wrC_nI {f : Nat → Int32} {i : Nat} {x : Int32} (h : i < 2 ^ 31) : wrC f (nI i) x = upd f i (vp_nar .char x) := by show upd f (nI i).toNatClampNeg _ = _; rw [nI_clamp h]
theorem bIn_nI {i n : Nat} (h : i < n) (h2 : i < 2 ^ 31) : bIn (nI i) n = true := by
  unfold bIn
  rw [nI_clamp h2]
  simp only [Bool.and_eq_true, decide_eq_true_eq]
  exact ⟨nI_pos h2, h⟩
/-- the first i of one, the rest of another -/
def fl {α : Type} (f g : Nat → α) (i : Nat) : Nat → α := fun k => if k < i then f k else g k
theorem fl_0 {α : Type} (f g : Nat → α) : fl f g 0 = g := by funext k; simp [fl]
theorem fl_in {α : Type} {f g : Nat → α} {i k : Nat} (h : k < i) : fl f g i k = f k := by simp [fl, h]
theorem fl_s (f g : Nat → Int32) (i : Nat) : upd (fl f g i) i (f i) = fl f g (i + 1) := by
  funext k
  unfold upd fl
  by_cases h : k = i
  · subst h
    simp
  · rw [if_neg h]
    by_cases h2 : k < i
    · rw [if_pos h2, if_pos (by omega)]
    · rw [if_neg h2, if_neg (by omega)]
/-- how many of k places from s on -/
def cn (P : Nat → Prop) (hd : DecidablePred P) : Nat → Nat → Nat
  | _, 0 => 0
  | s, k + 1 => (if P s then 1 else 0) + cn P hd (s + 1) k
theorem cn_le (P : Nat → Prop) (hd : DecidablePred P) : ∀ k s, cn P hd s k ≤ k := by
  intro k
  induction k with
  | zero => intro s; exact Nat.le_refl _
  | succ k ih =>
    intro s
    have h := ih (s + 1)
    unfold cn
    by_cases c : P s
    · rw [if_pos c]; omega
    · rw [if_neg c]; omega
theorem cn_cong {P Q : Nat → Prop} {hp : DecidablePred P} {hq : DecidablePred Q} : ∀ k s, (∀ j, s ≤ j → j < s + k → (P j ↔ Q j)) → cn P hp s k = cn Q hq s k := by
  intro k
  induction k with
  | zero => intro s h; rfl
  | succ k ih =>
    intro s h
    unfold cn
    rw [ih (s + 1) (fun j h1 h2 => h j (by omega) (by omega))]
    have h0 := h s (Nat.le_refl _) (by omega)
    by_cases c : P s
    · rw [if_pos c, if_pos (h0.mp c)]
    · rw [if_neg c, if_neg (fun q => c (h0.mpr q))]
theorem cn_0 {P : Nat → Prop} {hp : DecidablePred P} : ∀ k s, cn P hp s k = 0 ↔ ∀ j, s ≤ j → j < s + k → ¬ P j := by
  intro k
  induction k with
  | zero => intro s; exact ⟨fun _ j h1 h2 => absurd h2 (by omega), fun _ => rfl⟩
  | succ k ih =>
    intro s
    unfold cn
    constructor
    · intro h j h1 h2
      by_cases c : P s
      · rw [if_pos c] at h; omega
      · rw [if_neg c] at h
        by_cases e : j = s
        · rw [e]; exact c
        · exact (ih (s + 1)).mp (by omega) j (by omega) (by omega)
    · intro h
      rw [if_neg (h s (Nat.le_refl _) (by omega)), (ih (s + 1)).mpr (fun j h1 h2 => h j (by omega) (by omega))]
/-- any int: negative, or a number -/
theorem i_cases (x : Int32) : x < 0 ∨ ∃ j : Nat, j < 2 ^ 31 ∧ x = nI j := by
  by_cases h : x < 0
  · exact Or.inl h
  · exact Or.inr (nI_of h)
theorem fu_s {k : Nat} (h : k < 1000000) : ∃ m, FU = m + 1 + k ∧ m + 1 + k = FU := ⟨FU - 1 - k, by show 1000000 = 1000000 - 1 - k + 1 + k; omega, by show 1000000 - 1 - k + 1 + k = 1000000; omega⟩
theorem fb_bmod {z : Int} (h1 : -2147483648 ≤ z) (h2 : z < 2147483648) : z.bmod (2 ^ 32) = z := by
  rw [Int.bmod_def]
  omega
theorem FU_s : ∃ m, FU = m + 1 := ⟨999999, rfl⟩
theorem nI_neg {a : Nat} (h : a < 2 ^ 31) {k : Nat} (h1 : 0 < k) (h2 : k < 2 ^ 30) : ¬ nI a ≤ Int32.ofInt (-(k : Int)) := by
  rw [Int32.le_iff_toInt_le, nI_toInt h, Int32.toInt_ofInt]
  rw [fb_bmod (by omega) (by omega)]
  omega
theorem nI_neg1 {a : Nat} (h : a < 2 ^ 31) : ¬ nI a ≤ (-1000001 : Int32) := nI_neg h (k := 1000001) (by omega) (by omega)
/-- n values of g from a on, else f -/
def ins {α : Type} (f g : Nat → α) (a n : Nat) : Nat → α := fun j => if a ≤ j ∧ j < a + n then g (j - a) else f j
theorem ins_0 {α : Type} (f g : Nat → α) (a : Nat) : ins f g a 0 = f := by
  funext j
  unfold ins
  rw [if_neg (by omega)]
theorem ins_s (f g : Nat → Int32) (a i : Nat) : upd (ins f g a i) (a + i) (g i) = ins f g a (i + 1) := by
  funext j
  unfold upd ins
  by_cases h : j = a + i
  · subst h
    rw [if_pos rfl, if_pos (by omega), Nat.add_sub_cancel_left]
  · rw [if_neg h]
    by_cases h2 : a ≤ j ∧ j < a + i
    · rw [if_pos h2, if_pos (by omega)]
    · rw [if_neg h2, if_neg (by omega)]
