/-! the text of the cheapest description -/
theorem nar_char {q : Nat} (hq : q < 65536) : vp_nar .char (nI q) = nI q := by
  unfold vp_nar
  rw [(pk_charN hq).1]
theorem i2c_n {q : Nat} (hq : q < 65536) : (Int32.toUInt32 (nI q) % 65536).toInt32 = nI q := by
  rw [pk_char, pk_tn (by omega), Nat.mod_eq_of_lt hq]
noncomputable def cho (w g : Nat → Nat) (d f t : Nat) : Nat × Nat := Classical.epsilon (fun q : Nat × Nat => Ch w g d f t q.1 q.2)
theorem cho_eq {w g : Nat → Nat} {d f t m b : Nat} (h : Ch w g d f t m b) : cho w g d f t = (m, b) := by
  have h2 : Ch w g d f t (cho w g d f t).1 (cho w g d f t).2 := Classical.epsilon_spec (p := fun q : Nat × Nat => Ch w g d f t q.1 q.2) ⟨(m, b), h⟩
  obtain ⟨a1, a2⟩ := Ch_one h2 h
  exact Prod.ext a1 a2
/-- a number's digits -/
def nmb (v : Nat) : List Nat := if v < 10 then [48 + v] else [48 + v / 10, 48 + v % 10]
/-- the correction at a place, if there is one -/
def cr1 (w : Nat → Nat) (f b s : Nat) : List Nat := if w (f + s) = w (f + s % b) then [] else 91 :: (nmb s ++ [44, 97 + w (f + s), 93])
def crs (w : Nat → Nat) (f b : Nat) : Nat → Nat → List Nat
  | 0, _ => []
  | k + 1, s => cr1 w f b s ++ crs w f b k (s + 1)
theorem crs_add {w : Nat → Nat} {f b k2 : Nat} : ∀ k1 s, crs w f b (k1 + k2) s = crs w f b k1 s ++ crs w f b k2 (s + k1) := by
  intro k1
  induction k1 with
  | zero => intro s; rw [Nat.zero_add]; rfl
  | succ k ih =>
    intro s
    rw [show k + 1 + k2 = k + k2 + 1 by omega]
    show cr1 w f b s ++ crs w f b (k + k2) (s + 1) = cr1 w f b s ++ crs w f b k (s + 1) ++ _
    rw [ih, List.append_assoc, show s + 1 + k = s + (k + 1) by omega]
noncomputable def tx (w g : Nat → Nat) : Nat → Nat → Nat → Nat → List Nat
  | 0, _, _, _ => []
  | k + 1, d, f, t => if t ≤ f then [] else if (cho w g d f t).2 = 0 then (97 + w f) :: tx w g k d (f + 1) t else nmb ((cho w g d f t).1 / (cho w g d f t).2) ++ 40 :: (tx w g k (d - 1) f (f + (cho w g d f t).2) ++ 41 :: (crs w f (cho w g d f t).2 ((cho w g d f t).1 - (cho w g d f t).2) (cho w g d f t).2 ++ tx w g k d (f + (cho w g d f t).1) t))
noncomputable def dp (w g : Nat → Nat) : Nat → Nat → Nat → Nat → Nat
  | 0, _, _, _ => 0
  | k + 1, d, f, t => if t ≤ f then 0 else if (cho w g d f t).2 = 0 then dp w g k d (f + 1) t else max (1 + dp w g k (d - 1) f (f + (cho w g d f t).2)) (dp w g k d (f + (cho w g d f t).1) t)
noncomputable def ni (w g : Nat → Nat) : Nat → Nat → Nat → Nat → Nat
  | 0, _, _, _ => 0
  | k + 1, d, f, t => if t ≤ f then 0 else if (cho w g d f t).2 = 0 then 1 + ni w g k d (f + 1) t else 1 + ni w g k d (f + (cho w g d f t).1) t
theorem tx_nil {w g : Nat → Nat} {k d f t : Nat} (h : t ≤ f) : tx w g k d f t = [] := by
  cases k with
  | zero => rfl
  | succ k => exact if_pos h
theorem dp_nil {w g : Nat → Nat} {k d f t : Nat} (h : t ≤ f) : dp w g k d f t = 0 := by
  cases k with
  | zero => rfl
  | succ k => exact if_pos h
theorem ni_nil {w g : Nat → Nat} {k d f t : Nat} (h : t ≤ f) : ni w g k d f t = 0 := by
  cases k with
  | zero => rfl
  | succ k => exact if_pos h
theorem tx_let {w g : Nat → Nat} {k d f t m : Nat} (h : f < t) (hc : Ch w g d f t m 0) : tx w g (k + 1) d f t = (97 + w f) :: tx w g k d (f + 1) t := by
  rw [tx, if_neg (by omega), cho_eq hc, if_pos rfl]
theorem dp_let {w g : Nat → Nat} {k d f t m : Nat} (h : f < t) (hc : Ch w g d f t m 0) : dp w g (k + 1) d f t = dp w g k d (f + 1) t := by
  rw [dp, if_neg (by omega), cho_eq hc, if_pos rfl]
theorem ni_let {w g : Nat → Nat} {k d f t m : Nat} (h : f < t) (hc : Ch w g d f t m 0) : ni w g (k + 1) d f t = 1 + ni w g k d (f + 1) t := by
  rw [ni, if_neg (by omega), cho_eq hc, if_pos rfl]
theorem tx_rep {w g : Nat → Nat} {k d f t m b : Nat} (h : f < t) (hc : Ch w g d f t m b) (hb : 0 < b) : tx w g (k + 1) d f t = nmb (m / b) ++ 40 :: (tx w g k (d - 1) f (f + b) ++ 41 :: (crs w f b (m - b) b ++ tx w g k d (f + m) t)) := by
  rw [tx, if_neg (by omega), cho_eq hc, if_neg (by dsimp only; omega)]
theorem dp_rep {w g : Nat → Nat} {k d f t m b : Nat} (h : f < t) (hc : Ch w g d f t m b) (hb : 0 < b) : dp w g (k + 1) d f t = max (1 + dp w g k (d - 1) f (f + b)) (dp w g k d (f + m) t) := by
  rw [dp, if_neg (by omega), cho_eq hc, if_neg (by dsimp only; omega)]
theorem ni_rep {w g : Nat → Nat} {k d f t m b : Nat} (h : f < t) (hc : Ch w g d f t m b) (hb : 0 < b) : ni w g (k + 1) d f t = 1 + ni w g k d (f + m) t := by
  rw [ni, if_neg (by omega), cho_eq hc, if_neg (by dsimp only; omega)]
/-- how many of a sign -/
def ct (c : Nat) : List Nat → Nat
  | [] => 0
  | a :: l => (if a = c then 1 else 0) + ct c l
theorem ct_app {c : Nat} : ∀ l l2 : List Nat, ct c (l ++ l2) = ct c l + ct c l2 := by
  intro l
  induction l with
  | nil => intro l2; rw [List.nil_append]; show _ = 0 + _; omega
  | cons a l ih => intro l2; show (if a = c then 1 else 0) + ct c (l ++ l2) = (if a = c then 1 else 0) + ct c l + _; rw [ih]; omega
theorem ct_le {c : Nat} : ∀ l : List Nat, ct c l ≤ l.length := by
  intro l
  induction l with
  | nil => exact Nat.le_refl _
  | cons a l ih =>
    show (if a = c then 1 else 0) + ct c l ≤ l.length + 1
    split <;> omega
theorem nmb_ct {v c : Nat} (hv : v < 100) (hc : c < 48 ∨ 57 < c) : ct c (nmb v) = 0 := by
  unfold nmb
  by_cases h : v < 10
  · rw [if_pos h]; show (if 48 + v = c then 1 else 0) + 0 = 0; rw [if_neg (by omega)]
  · rw [if_neg h]
    show (if 48 + v / 10 = c then 1 else 0) + ((if 48 + v % 10 = c then 1 else 0) + 0) = 0
    rw [if_neg (by omega), if_neg (by omega)]
theorem nmb_len {v : Nat} : (nmb v).length = if v < 10 then 1 else 2 := by
  unfold nmb
  split <;> rfl
/-! how long the text is -/
def bdt (n : Nat) : Nat := [0, 1, 9, 14, 22, 24, 32, 36, 45, 47, 54, 59, 67, 69, 77, 81, 90, 92, 99, 104, 112, 114, 122, 126, 135].getD n 0
theorem bt_add : ∀ a, a < 25 → ∀ b, b < 25 → a + b ≤ 24 → bdt a + bdt b ≤ bdt (a + b) := by decide +kernel
theorem bt_rep0 : ((List.range 25).all fun b => (List.range 25).all fun t => (List.range 7).all fun c => decide (b = 0) || (decide (t < 2) || (decide (24 < b * t) || (decide (b * t - b < c) || decide ((nmb t).length + 2 + bdt b + min (6 * c) (5 * c + (b * t - max b 10)) ≤ bdt (b * t)))))) = true := by decide +kernel
theorem bt_rep (b : Nat) (hb : b < 25) (t : Nat) (ht : t < 25) (c : Nat) (hc : c < 7) (h1 : 1 ≤ b) (h2 : 2 ≤ t) (h3 : b * t ≤ 24) (h4 : c ≤ b * t - b) : (nmb t).length + 2 + bdt b + min (6 * c) (5 * c + (b * t - max b 10)) ≤ bdt (b * t) := by
  have h := List.all_eq_true.mp (List.all_eq_true.mp (List.all_eq_true.mp bt_rep0 b (List.mem_range.mpr hb)) t (List.mem_range.mpr ht)) c (List.mem_range.mpr hc)
  simp only [Bool.or_eq_true, decide_eq_true_eq] at h
  rcases h with h | h | h | h | h
  · omega
  · omega
  · omega
  · omega
  · exact h
theorem bt_24 : ∀ a, a < 25 → bdt a ≤ 135 := by decide +kernel
theorem cn_add (P : Nat → Prop) (hd : DecidablePred P) : ∀ k1 s k2, cn P hd s (k1 + k2) = cn P hd s k1 + cn P hd (s + k1) k2 := by
  intro k1
  induction k1 with
  | zero => intro s k2; rw [Nat.zero_add, Nat.add_zero]; show _ = 0 + _; omega
  | succ k ih =>
    intro s k2
    rw [show k + 1 + k2 = k + k2 + 1 by omega]
    show (if P s then 1 else 0) + cn P hd (s + 1) (k + k2) = (if P s then 1 else 0) + cn P hd (s + 1) k + _
    rw [ih, show s + 1 + k = s + (k + 1) by omega]
    omega
theorem cn_shift {P Q : Nat → Prop} {hp : DecidablePred P} {hq : DecidablePred Q} : ∀ k s u, (∀ j, j < k → (P (s + j) ↔ Q (u + j))) → cn P hp s k = cn Q hq u k := by
  intro k
  induction k with
  | zero => intro s u h; rfl
  | succ k ih =>
    intro s u h
    unfold cn
    rw [ih (s + 1) (u + 1) (fun j hj => by
      have := h (j + 1) (by omega)
      rw [show s + 1 + j = s + (j + 1) by omega, show u + 1 + j = u + (j + 1) by omega]
      exact this)]
    have h0 := h 0 (by omega)
    rw [Nat.add_zero, Nat.add_zero] at h0
    by_cases c : P s
    · rw [if_pos c, if_pos (h0.mp c)]
    · rw [if_neg c, if_neg (fun q => c (h0.mpr q))]
/-- the places that a repeat corrects -/
def bad (w : Nat → Nat) (f b s k : Nat) : Nat := cn (fun j => w (f + j) ≠ w (f + j % b)) (fun _ => inferInstance) s k
theorem bad_wrg {w : Nat → Nat} {f b : Nat} (hb : 1 ≤ b) : ∀ i, bad w f b b (i * b) = wrg w f b i := by
  intro i
  induction i with
  | zero => rw [Nat.zero_mul]; rfl
  | succ i ih =>
    show _ = wrg w f b i + mis w f b ((i + 1) * b)
    rw [← ih, Nat.add_mul, Nat.one_mul]
    unfold bad mis
    rw [cn_add]
    congr 1
    refine cn_shift b _ _ (fun j hj => ?_)
    have e : (b + i * b + j) % b = j := by
      rw [show b + i * b + j = b * (i + 1) + j by rw [Nat.mul_add, Nat.mul_comm b i]; omega]
      exact bj_mod hj
    rw [e, show f + (b + i * b + j) = f + j + (i * b + b) by omega]
    exact ⟨fun z q => z q.symm, fun z q => z q.symm⟩
theorem cr1_len {w : Nat → Nat} {f b s : Nat} : (cr1 w f b s).length = if w (f + s) = w (f + s % b) then 0 else if s < 10 then 5 else 6 := by
  unfold cr1
  split
  · rfl
  · rw [List.length_cons, List.length_append, nmb_len]
    split <;> rfl
theorem crs_len6 {w : Nat → Nat} {f b : Nat} : ∀ k s, (crs w f b k s).length ≤ 6 * bad w f b s k := by
  intro k
  induction k with
  | zero => intro s; exact Nat.le_refl _
  | succ k ih =>
    intro s
    have h := ih (s + 1)
    show (cr1 w f b s ++ crs w f b k (s + 1)).length ≤ 6 * ((if w (f + s) ≠ w (f + s % b) then 1 else 0) + bad w f b (s + 1) k)
    rw [List.length_append, cr1_len]
    by_cases c : w (f + s) = w (f + s % b)
    · rw [if_pos c, if_neg (by simpa using c)]; omega
    · rw [if_neg c, if_pos c]
      split <;> omega
theorem crs_len5 {w : Nat → Nat} {f b : Nat} : ∀ k s, (crs w f b k s).length ≤ 5 * bad w f b s k + (s + k - max s 10) := by
  intro k
  induction k with
  | zero => intro s; exact Nat.zero_le _
  | succ k ih =>
    intro s
    have h := ih (s + 1)
    show (cr1 w f b s ++ crs w f b k (s + 1)).length ≤ 5 * ((if w (f + s) ≠ w (f + s % b) then 1 else 0) + bad w f b (s + 1) k) + (s + (k + 1) - max s 10)
    rw [List.length_append, cr1_len]
    by_cases c : w (f + s) = w (f + s % b)
    · rw [if_pos c, if_neg (by simpa using c)]; omega
    · rw [if_neg c, if_pos c]
      split <;> omega
theorem crs_ct {w : Nat → Nat} {f b : Nat} : ∀ k s, s + k ≤ 100 → ct 40 (crs w f b k s) = 0 := by
  intro k
  induction k with
  | zero => intro s _; rfl
  | succ k ih =>
    intro s h
    show ct 40 (cr1 w f b s ++ crs w f b k (s + 1)) = 0
    rw [ct_app, ih (s + 1) (by omega)]
    unfold cr1
    by_cases c : w (f + s) = w (f + s % b)
    · rw [if_pos c]; rfl
    · rw [if_neg c]
      show (if 91 = 40 then 1 else 0) + ct 40 (nmb s ++ [44, 97 + w (f + s), 93]) + 0 = 0
      rw [ct_app, nmb_ct (by omega) (by omega)]
      show 0 + (0 + (0 + ((if 97 + w (f + s) = 40 then 1 else 0) + (0 + 0)))) + 0 = 0
      rw [if_neg (by omega)]
/-- every part has a first item -/
def ChA (w g : Nat → Nat) (n : Nat) : Prop := ∀ d f t, d ≤ g 4 → f < t → t ≤ n → ∃ m b, Ch w g d f t m b
theorem ChA_of {w g : Nat → Nat} {n : Nat} {L S s : Nat → Int32} (h : StOK n w g (nI n) L S) (h2 : MdOK n w g s 0) : ChA w g n := by
  intro d f t hd hf ht
  obtain ⟨bl2, co2, fi2, W2, y1, y2⟩ := pMD_lays h h2 (fun _ => 0) (fun _ => 0) (fun _ => 0) (fun _ => 0)
  obtain ⟨m, b, z1, z2, z3⟩ := (y1 d f t hd (by omega) ht trivial).2 hf
  exact ⟨m, b, z1⟩
theorem Ch_bad {w g : Nat → Nat} {d f t m b : Nat} (h : Ch w g d f t m b) (hb : 0 < b) : bad w f b b (m - b) ≤ g 3 ∧ m / b * b = m ∧ 2 ≤ m / b ∧ m % b = 0 ∧ 0 < d := by
  rcases h with ⟨rfl, rfl, h⟩ | ⟨hd, x, h3, h4, h5, h6⟩
  · omega
  · obtain ⟨a1, i, a2, a3, a4, a5⟩ := h3
    have e : m = (i + 1) * b := by omega
    have e2 : m - b = i * b := by rw [e, Nat.add_mul, Nat.one_mul, Nat.add_sub_cancel]
    have e3 : m / b = i + 1 := by rw [e]; exact Nat.mul_div_cancel _ hb
    refine ⟨by rw [e2, bad_wrg a1]; omega, by rw [e3]; exact e.symm, by omega, by rw [e]; exact Nat.mul_mod_left _ _, hd⟩
theorem tx_len {w g : Nat → Nat} {n : Nat} (hn : n ≤ 24) (hg3 : g 3 ≤ 6) (hC : ChA w g n) : ∀ k d f t, d ≤ g 4 → t ≤ n → (tx w g k d f t).length ≤ bdt (t - f) := by
  intro k
  induction k with
  | zero => intro d f t _ _; exact Nat.zero_le _
  | succ k ih =>
    intro d f t hd ht
    by_cases c : t ≤ f
    · rw [tx_nil c]; exact Nat.zero_le _
    · obtain ⟨m, b, hch⟩ := hC d f t hd (by omega) ht
      obtain ⟨h1, h2, h3, h4, h5⟩ := Ch_b hch (by omega)
      by_cases hb : b = 0
      · subst hb
        rw [tx_let (by omega) hch, List.length_cons]
        have h6 := ih d (f + 1) t hd ht
        have h7 := bt_add 1 (by omega) (t - (f + 1)) (by omega) (by omega)
        rw [show 1 + (t - (f + 1)) = t - f by omega] at h7
        have : bdt 1 = 1 := rfl
        omega
      · obtain ⟨q1, q2, q3, q4, q5⟩ := Ch_bad hch (by omega)
        obtain ⟨_, q6⟩ := h4 (by omega)
        rw [tx_rep (by omega) hch (by omega), List.length_append, List.length_cons, List.length_append, List.length_cons, List.length_append]
        have h6 := ih (d - 1) f (f + b) (by omega) (by omega)
        have h7 := ih d (f + m) t hd ht
        have h8 := bt_add m (by omega) (t - (f + m)) (by omega) (by omega)
        have h9 := crs_len6 (w := w) (f := f) (b := b) (m - b) b
        have h10 := crs_len5 (w := w) (f := f) (b := b) (m - b) b
        have h11 : bad w f b b (m - b) ≤ m - b := cn_le _ _ _ _
        have q7 : b * (m / b) = m := by rw [Nat.mul_comm]; exact q2
        have q8 : m / b ≤ m := Nat.div_le_self _ _
        have h12 := bt_rep b (by omega) (m / b) (by omega) (bad w f b b (m - b)) (by omega) (by omega) q3 (by omega) (by omega)
        rw [q7] at h12
        rw [show m + (t - (f + m)) = t - f by omega] at h8
        rw [show f + b - f = b by omega] at h6
        rw [show b + (m - b) = m by omega] at h10
        omega
/-- letters behind one another, in a row of ints -/
def app (sg : Nat → Int32) (len : Nat) (l : List Nat) : Nat → Int32 := fun j => if j < len then sg j else match l[j - len]? with | some c => nI c | none => sg j
theorem app_nil {sg : Nat → Int32} {len : Nat} : app sg len [] = sg := by
  funext j
  unfold app
  split <;> rfl
theorem app_lo {sg : Nat → Int32} {len j : Nat} {l : List Nat} (h : j < len) : app sg len l j = sg j := if_pos h
theorem app_at {sg : Nat → Int32} {len j c : Nat} {l : List Nat} (h : l[j]? = some c) : app sg len l (len + j) = nI c := by
  unfold app
  rw [if_neg (by omega), show len + j - len = j by omega, h]
theorem app_hi {sg : Nat → Int32} {len j : Nat} {l : List Nat} (h : l.length ≤ j) : app sg len l (len + j) = sg (len + j) := by
  unfold app
  rw [if_neg (by omega), show len + j - len = j by omega, List.getElem?_eq_none h]
theorem app_one {sg : Nat → Int32} {len c : Nat} : upd sg len (nI c) = app sg len [c] := by
  funext j
  by_cases h : j < len
  · rw [pk_un (by omega), app_lo h]
  · obtain ⟨i, rfl⟩ : ∃ i, j = len + i := ⟨j - len, by omega⟩
    cases i with
    | zero => rw [app_at (c := c) rfl]; exact pk_us
    | succ i => rw [pk_un (by omega), app_hi (by simp)]
theorem app_app {sg : Nat → Int32} {len len2 : Nat} {l l2 : List Nat} (h : len2 = len + l.length) : app (app sg len l) len2 l2 = app sg len (l ++ l2) := by
  subst h
  funext j
  by_cases h : j < len
  · rw [app_lo (by omega), app_lo h, app_lo h]
  · obtain ⟨i, rfl⟩ : ∃ i, j = len + i := ⟨j - len, by omega⟩
    by_cases h2 : i < l.length
    · have e := List.getElem?_eq_getElem h2
      rw [app_lo (by omega), app_at e, app_at (c := l[i]) (by rw [List.getElem?_append_left h2]; exact e)]
    · obtain ⟨r, rfl⟩ : ∃ r, i = l.length + r := ⟨i - l.length, by omega⟩
      have ea : (l ++ l2)[l.length + r]? = l2[r]? := by rw [List.getElem?_append_right (by omega), Nat.add_sub_cancel_left]
      rw [← Nat.add_assoc]
      by_cases h3 : r < l2.length
      · have e := List.getElem?_eq_getElem h3
        rw [app_at e, Nat.add_assoc, app_at (c := l2[r]) (ea.trans e)]
      · rw [app_hi (by omega), Nat.add_assoc, app_hi (by omega), app_hi (by rw [List.length_append]; omega)]
theorem trj {A A2 B B2 : Nat} {S S2 : Nat → Int32} (h1 : A = A2) (h2 : B = B2) (h3 : S = S2) : some (nI A, nI B, S) = some (nI A2, nI B2, S2) := by rw [h1, h2, h3]
theorem rls_pw {w : Nat → Nat} {M n f : Nat} : ∀ k b, List.Pairwise (fun q r : Nat × Nat × Nat => q.1 ≤ r.1) (rls w M n f k b) := by
  intro k
  induction k with
  | zero => intro b; exact List.Pairwise.nil
  | succ k ih =>
    intro b
    show List.Pairwise _ (rbl w M n f b 24 1 ++ rls w M n f k (b + 1))
    have hb : ∀ q, q ∈ rbl w M n f b 24 1 → q.1 = b := fun q hq => by
      obtain ⟨i, _, _, e, _⟩ := (mem_rbl 24 1).mp hq
      rw [e]
    refine List.pairwise_append.mpr ⟨?_, ih (b + 1), fun q hq r hr => ?_⟩
    · exact List.Pairwise.imp_of_mem (fun hq hr _ => by rw [hb _ hq, hb _ hr]; exact Nat.le_refl _) (List.pairwise_of_forall (R := fun _ _ => True) (fun _ _ => trivial))
    · obtain ⟨b', h1, h2, h3⟩ := (mem_rls k (b + 1)).mp hr
      obtain ⟨i, _, _, e, _⟩ := (mem_rbl 24 1).mp h3
      rw [hb q hq, e]
      show b ≤ b'
      omega
theorem rl_pw {w : Nat → Nat} {M n f i : Nat} {q r : Nat × Nat × Nat} (hq : q ∈ (rl w M n f).take i) (hr : (rl w M n f)[i]? = some r) : q.1 ≤ r.1 := by
  have h : List.Pairwise (fun q r : Nat × Nat × Nat => q.1 ≤ r.1) ((rl w M n f).take (i + 1)) := (rls_pw 24 1).sublist (List.take_sublist _ _)
  rw [List.take_add_one, hr] at h
  exact (List.pairwise_append.mp h).2.2 q hq r (List.mem_singleton.mpr rfl)
