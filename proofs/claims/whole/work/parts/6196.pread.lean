/-! the text that is read: signs, numbers, one correction, by class and model -/
abbrev A1r : Type := Nat → Int32
def TT (m : Nat) (cc : Nat → Nat) (sg tx : Nat → Int32) : Prop := m ≤ 60 ∧ (∀ i, m ≤ i → cc i = 0) ∧ ∀ i, i < m → 32 ≤ cc i ∧ cc i ≤ 126 ∧ sg i = nI (cc i) ∧ tx i = nI (cc i)
def sgx (cc : Nat → Nat) (p : Nat) : Int32 := if cc p = 0 then -1 else nI (cc p)
abbrev dg (cc : Nat → Nat) (p : Nat) : Prop := 48 ≤ cc p ∧ cc p ≤ 57
theorem TT_b {m : Nat} {cc : Nat → Nat} {sg tx : Nat → Int32} (h : TT m cc sg tx) (p : Nat) : cc p ≤ 126 := by
  by_cases c : p < m
  · exact (h.2.2 p c).2.1
  · rw [h.2.1 p (by omega)]; omega
theorem TT_lt {m : Nat} {cc : Nat → Nat} {sg tx : Nat → Int32} (h : TT m cc sg tx) {p : Nat} (hp : cc p ≠ 0) : p < m := by
  by_cases c : p < m
  · exact c
  · exact absurd (h.2.1 p (by omega)) hp
theorem sgn_n {cc : Nat → Nat} {p : Nat} (h : cc p ≠ 0) : sgx cc p = nI (cc p) := if_neg h
theorem m1_ne {x : Nat} (hx : x < 2 ^ 31) : ¬ (-1 : Int32) = nI x := by
  intro h
  have h2 := congrArg Int32.toInt h
  rw [nI_toInt hx] at h2
  have : (-1 : Int32).toInt = -1 := rfl
  omega
theorem m1_lt {x : Nat} (hx : x < 2 ^ 31) : (-1 : Int32) < nI x := by
  rw [Int32.lt_iff_toInt_lt, nI_toInt hx]
  have : (-1 : Int32).toInt = -1 := rfl
  omega
theorem sgn_eq {cc : Nat → Nat} {p x : Nat} (hc : cc p ≤ 126) (hx0 : 0 < x) (hx : x < 2 ^ 31) : sgx cc p = nI x ↔ cc p = x := by
  unfold sgx
  by_cases c : cc p = 0
  · rw [if_pos c]
    exact ⟨fun z => absurd z (m1_ne hx), fun z => by omega⟩
  · rw [if_neg c, nI_eq (by omega) hx]
theorem pRd_sign {m p : Nat} {cc : Nat → Nat} {sg tx : Nat → Int32} (h : TT m cc sg tx) (hp : p < 2 ^ 31) : fRd_sign (nI m) (nI p) sg = some (sgx cc p) := by
  have hm := h.1
  rw [fRd_sign, if_neg (nI_pos hp)]
  by_cases c : p < m
  · obtain ⟨h1, h2, h3, h4⟩ := h.2.2 p c
    rw [if_neg (nI_ge c (by omega)), if_neg (show ¬ (60 : Int32) ≤ nI p from nI_ge (b := 60) (by omega) (by decide)), if_pos (bIn_nI (by omega) (by omega)), rd_nI (by omega), h3, sgn_n (by omega)]
  · rw [if_pos (nI_le (by omega) hp), sgx, if_pos (h.2.1 p (by omega))]
theorem pMD_sign {m p : Nat} {cc : Nat → Nat} {sg tx : Nat → Int32} (h : TT m cc sg tx) (hp : p < 2 ^ 31) : fMD_sign (nI m) (nI p) tx = some (sgx cc p) := by
  have hm := h.1
  rw [fMD_sign]
  by_cases c : p < m
  · obtain ⟨h1, h2, h3, h4⟩ := h.2.2 p c
    rw [if_neg (nI_ge c (by omega)), if_pos (bIn_nI (by omega) (by omega)), rd_nI (by omega), h4, sgn_n (by omega)]
  · rw [if_pos (nI_le (by omega) hp), sgx, if_pos (h.2.1 p (by omega))]
theorem sgn_in {cc : Nat → Nat} {p a b : Nat} (hc : cc p ≤ 126) (ha : 0 < a) (ha2 : a < 1000) (hb : b < 1000) : fMD_in (sgx cc p) (nI a) (nI b) = some (nI (if a ≤ cc p ∧ cc p ≤ b then 1 else 0)) := by
  unfold sgx
  by_cases c : cc p = 0
  · rw [if_pos c, fMD_in, if_pos (m1_lt (by omega)), if_neg (by omega)]; rfl
  · rw [if_neg c, fMD_in]
    by_cases c1 : cc p < a
    · rw [if_pos (nI_lt c1 (by omega)), if_neg (by omega)]; rfl
    · rw [if_neg (nI_nlt (by omega) (by omega))]
      by_cases c2 : b < cc p
      · rw [if_pos (nI_lt c2 (by omega)), if_neg (by omega)]; rfl
      · rw [if_neg (nI_nlt (by omega) (by omega)), if_pos ⟨by omega, by omega⟩]; rfl
theorem sgn_let {cc : Nat → Nat} {p : Nat} (hc : cc p ≤ 126) : fRd_isLetter (sgx cc p) = some (nI (if 97 ≤ cc p ∧ cc p ≤ 100 then 1 else 0)) := by
  unfold sgx
  by_cases c : cc p = 0
  · rw [if_pos c, fRd_isLetter, if_pos (show (-1 : Int32) < (97 : Int32) from m1_lt (x := 97) (by omega)), if_neg (by omega)]; rfl
  · rw [if_neg c, fRd_isLetter]
    by_cases c1 : cc p < 97
    · rw [if_pos (show nI (cc p) < (97 : Int32) from nI_lt (b := 97) c1 (by omega)), if_neg (by omega)]; rfl
    · rw [if_neg (show ¬ nI (cc p) < (97 : Int32) from nI_nlt (b := 97) (by omega) (by omega))]
      by_cases c2 : 100 < cc p
      · rw [if_pos (show (101 : Int32) ≤ nI (cc p) from nI_le (a := 101) c2 (by omega)), if_neg (by omega)]; rfl
      · rw [if_neg (show ¬ (101 : Int32) ≤ nI (cc p) from nI_ge (b := 101) (by omega) (by omega)), if_pos ⟨by omega, by omega⟩]; rfl
theorem sgn_dig {cc : Nat → Nat} {p : Nat} (hc : cc p ≤ 126) : fRd_isDigit (sgx cc p) = some (nI (if dg cc p then 1 else 0)) := by
  unfold sgx dg
  by_cases c : cc p = 0
  · rw [if_pos c, fRd_isDigit, if_pos (show (-1 : Int32) < (48 : Int32) from m1_lt (x := 48) (by omega)), if_neg (by omega)]; rfl
  · rw [if_neg c, fRd_isDigit]
    by_cases c1 : cc p < 48
    · rw [if_pos (show nI (cc p) < (48 : Int32) from nI_lt (b := 48) c1 (by omega)), if_neg (by omega)]; rfl
    · rw [if_neg (show ¬ nI (cc p) < (48 : Int32) from nI_nlt (b := 48) (by omega) (by omega))]
      by_cases c2 : 57 < cc p
      · rw [if_pos (show (57 : Int32) < nI (cc p) from nI_lt (a := 57) c2 (by omega)), if_neg (by omega)]; rfl
      · rw [if_neg (show ¬ (57 : Int32) < nI (cc p) from nI_nlt (a := 57) (by omega) (by omega)), if_pos ⟨by omega, by omega⟩]; rfl
theorem sgn_in97 {cc : Nat → Nat} {p : Nat} (hc : cc p ≤ 126) : fMD_in (sgx cc p - nI 97) (nI 0) (nI 3) = some (nI (if 97 ≤ cc p ∧ cc p ≤ 100 then 1 else 0)) := by
  unfold sgx
  by_cases c : cc p = 0
  · rw [if_pos c, fMD_in, if_pos (by decide), if_neg (by omega)]; rfl
  · rw [if_neg c, fMD_in]
    by_cases c1 : cc p < 97
    · rw [if_pos (show nI (cc p) - nI 97 < nI 0 from pk_sneg (by omega) c1), if_neg (by omega)]; rfl
    · rw [pk_sub (by omega), if_neg (nI_nlt (by omega) (by omega))]
      by_cases c2 : 100 < cc p
      · rw [if_pos (nI_lt (by omega) (by omega)), if_neg (by omega)]; rfl
      · rw [if_neg (nI_nlt (by omega) (by omega)), if_pos ⟨by omega, by omega⟩]; rfl
/-- the number that begins at a place, and the place behind it -/
def nv (cc : Nat → Nat) (p : Nat) : Nat := if cc p ≠ 48 ∧ dg cc (p + 1) then 10 * (cc p - 48) + (cc (p + 1) - 48) else cc p - 48
def nx (cc : Nat → Nat) (p : Nat) : Nat := if cc p ≠ 48 ∧ dg cc (p + 1) then p + 2 else p + 1
theorem nv_lt {cc : Nat → Nat} {p : Nat} (h : dg cc p) : nv cc p < 100 := by
  unfold nv
  obtain ⟨h1, h2⟩ := h
  split
  · obtain ⟨_, h3, h4⟩ := by assumption
    omega
  · omega
theorem nx_b {cc : Nat → Nat} {p : Nat} : p + 1 ≤ nx cc p ∧ nx cc p ≤ p + 2 := by
  unfold nx
  split <;> omega
theorem nx_m {m p : Nat} {cc : Nat → Nat} {sg tx : Nat → Int32} (h : TT m cc sg tx) (hp : p < m) : nx cc p ≤ m := by
  unfold nx
  split
  · obtain ⟨_, h3, h4⟩ := by assumption
    have := TT_lt h (p := p + 1) (by omega)
    omega
  · omega
theorem pRd_readNumber {m p : Nat} {cc : Nat → Nat} {sg tx : Nat → Int32} (h : TT m cc sg tx) (hp : p < 1000) (hd : dg cc p) : fRd_readNumber (nI m) sg (nI p) = some (nI (nv cc p), nI (nx cc p)) := by
  obtain ⟨d1, d2⟩ := hd
  rw [fRd_readNumber, pRd_sign h (by omega), Option.bind_some, sgn_n (by omega), li48, pk_sub d1, nI_1]
  unfold nv nx
  by_cases c : cc p = 48
  · rw [if_pos (show nI (cc p - 48) = 0 by rw [c]; rfl), if_neg (fun z => z.1 c), if_neg (fun z => z.1 c)]
  · rw [if_neg (nI_ne0 (by omega) (by omega)), pRd_sign h (by omega), Option.bind_some, sgn_dig (TT_b h _), Option.bind_some]
    by_cases c2 : dg cc (p + 1)
    · obtain ⟨d3, d4⟩ := id c2
      rw [if_pos c2, if_neg (by decide), Option.bind_some, sgn_n (by omega), li10, pk_mul, nI_add, pk_sub (by omega), nI_1, if_pos ⟨c, c2⟩, if_pos ⟨c, c2⟩, show 10 * (cc p - 48) + cc (p + 1) - 48 = 10 * (cc p - 48) + (cc (p + 1) - 48) by omega]
    · rw [if_neg c2, if_pos (by decide), if_neg (fun z => c2 z.2), if_neg (fun z => c2 z.2)]
theorem pRd_reads {m p x : Nat} {cc : Nat → Nat} {sg tx : Nat → Int32} (h : TT m cc sg tx) (hp : p < 1000) (hx : 0 < x) (hx2 : x < 1000) (fp : Int32) : fRd_reads (nI m) sg (nI p) fp (0 : Int32) (nI x) = if cc p = x then some ((1 : Int32), nI (p + 1), fp, (0 : Int32)) else some ((0 : Int32), nI p, nI p, (1 : Int32)) := by
  rw [fRd_reads, pRd_sign h (by omega), Option.bind_some, nI_1]
  by_cases c : cc p = x
  · rw [if_pos ((sgn_eq (TT_b h p) hx (by omega)).mpr c), if_pos c]
  · rw [if_neg (fun z => c ((sgn_eq (TT_b h p) hx (by omega)).mp z)), if_neg c, fRd_blame, if_pos rfl, Option.bind_some]
theorem pMD_takes {m p x : Nat} {cc : Nat → Nat} {sg tx : Nat → Int32} (h : TT m cc sg tx) (hp : p < 1000) (hx : 0 < x) (hx2 : x < 1000) (pl rs : Int32) : fMD_takes (nI m) tx (nI p) pl rs (nI x) = if cc p = x then some ((1 : Int32), nI (p + 1), pl, rs) else some ((0 : Int32), nI p, nI p, (1 : Int32)) := by
  rw [fMD_takes, pMD_sign h (by omega), Option.bind_some, nI_1]
  by_cases c : cc p = x
  · rw [if_pos ((sgn_eq (TT_b h p) hx (by omega)).mpr c), if_pos c]
  · rw [if_neg (fun z => c ((sgn_eq (TT_b h p) hx (by omega)).mp z)), if_neg c, fMD_faulty, Option.bind_some, if_pos (Or.inl rfl)]
/-- letters of class and model agree, and are letters -/
def Ag (s : Nat) (A B : Nat → Int32) : Prop := ∀ i, i < s → ∃ a : Nat, a < 4 ∧ A i = nI a ∧ B i = nI a
theorem Ag_upd {s i a : Nat} {A B : Nat → Int32} (h : Ag s A B) (ha : a < 4) : Ag s (upd A i (nI a)) (upd B i (nI a)) := by
  intro j hj
  by_cases c : j = i
  · subst c; exact ⟨a, ha, pk_us, pk_us⟩
  · rw [pk_un c, pk_un c]; exact h j hj
theorem Ag_push {s a : Nat} {A B : Nat → Int32} (h : Ag s A B) (ha : a < 4) : Ag (s + 1) (upd A s (nI a)) (upd B s (nI a)) := by
  intro j hj
  by_cases c : j = s
  · subst c; exact ⟨a, ha, pk_us, pk_us⟩
  · rw [pk_un c, pk_un c]; exact h j (by omega)
theorem pRd_letter {A : Nat → Int32} {i : Nat} (h : i < 744) : fRd_letter A (nI i) = some (A i) := by
  rw [fRd_letter, if_neg (nI_pos (by omega)), if_neg (show ¬ (744 : Int32) ≤ nI i from nI_ge (b := 744) h (by decide)), if_pos (bIn_nI h (by omega)), rd_nI (by omega)]
theorem pRd_put {A : Nat → Int32} {i : Nat} {x : Int32} (h : i < 744) : fRd_putLetter A (nI i) x = some (upd A i x) := by
  rw [fRd_putLetter, if_neg (nI_pos (by omega)), if_neg (show ¬ (744 : Int32) ≤ nI i from nI_ge (b := 744) h (by decide)), if_pos (bIn_nI h (by omega)), wr_nI (by omega)]
abbrev RC5 : Type := Option (Int32 × Int32 × Int32 × Int32 × A1r)
abbrev RC6 : Type := Option (Int32 × Int32 × Int32 × Int32 × Int32 × A1r)
/-- one correction, of class and model: a fault of both, or both write the same letter -/
theorem JC1 {m p be n T lst : Nat} {cc : Nat → Nat} {sg tx lets own : Nat → Int32} {x4 : Int32} (h : TT m cc sg tx) (hp : cc p = 91) (hn : 1 ≤ n) (hT : n * T ≤ 24) (hnT0 : n ≤ n * T) (hbe : be + n * T ≤ 744) (hl : (x4 = -1 ∧ lst + 1 = n) ∨ (x4 = nI lst ∧ n ≤ lst ∧ lst < n * T)) (hper : ∀ i, lst < i → i < n * T → ∃ a : Nat, a < 4 ∧ lets (be + i) = nI a ∧ own (be + i % n) = nI a) (co pl rs : Int32) : (∃ q r x1 x2 x3 x5 y5, 0 < r ∧ r < 10 ∧ q ≤ 60 ∧ fRd_readCorrection (nI m) (nI (be + n * T)) sg (nI p) (0 : Int32) (0 : Int32) lets (nI be) (nI lst) = some (x1, x2, nI q, nI r, x5) ∧ fMD_correction (nI m) tx (nI p) co pl rs own (nI be) (nI n) (nI T) x4 = some (0, x3, co, nI q, nI r, y5)) ∨ (∃ v a p2, lst < v ∧ n ≤ v ∧ v < n * T ∧ a < 4 ∧ p < p2 ∧ p2 ≤ m ∧ fRd_readCorrection (nI m) (nI (be + n * T)) sg (nI p) (0 : Int32) (0 : Int32) lets (nI be) (nI lst) = some (nI v, nI p2, (0 : Int32), (0 : Int32), upd lets (be + v) (nI a)) ∧ fMD_correction (nI m) tx (nI p) co pl rs own (nI be) (nI n) (nI T) x4 = some (1, nI p2, co + (1 : Int32), pl, rs, upd own (be + v) (nI a)) ∧ (if tx (p + 2) = (44 : Int32) then tx (p + 1) - (48 : Int32) else (10 : Int32) * (tx (p + 1) - (48 : Int32)) + tx (p + 2) - (48 : Int32)) = nI v ∧ p + 2 < 60) := by
  have hm := h.1
  have hpm := TT_lt h (p := p) (by omega)
  have hB := TT_b h
  have hlst : lst < 24 := by rcases hl with ⟨_, l2⟩ | ⟨_, l2, l3⟩ <;> omega
  by_cases d1 : dg cc (p + 1)
  · have hv := nv_lt d1
    obtain ⟨nb1, nb2⟩ := nx_b (cc := cc) (p := p + 1)
    have hp1m := TT_lt h (p := p + 1) (by omega)
    have hxm := nx_m h hp1m
    -- the class, as far as the number
    have eC : fRd_readCorrection (nI m) (nI (be + n * T)) sg (nI p) (0 : Int32) (0 : Int32) lets (nI be) (nI lst) = (fRd_reads (nI m) sg (nI (nx cc (p + 1))) (0 : Int32) (0 : Int32) (nI 44)).bind fun o6 => if o6.1 = 0 then some (nI lst, o6.2.1, o6.2.2.1, o6.2.2.2, lets) else (fRd_sign (nI m) o6.2.1 sg).bind fun o8 => (fRd_isLetter o8).bind fun o9 => if o9 = 0 then (fRd_blame o6.2.2.1 o6.2.2.2 o6.2.1 (1 : Int32)).bind fun o18 => some (nI lst, o6.2.1, o18.1, o18.2, lets) else (fRd_reads (nI m) sg (o6.2.1 + (1 : Int32)) o6.2.2.1 o6.2.2.2 (93 : Int32)).bind fun o11 => if o11.1 = 0 then some (nI lst, o11.2.1, o11.2.2.1, o11.2.2.2, lets) else if nI (nv cc (p + 1)) ≤ nI lst then fRd_readCorrection_132 (nI lst) (nI p) o11.2.1 o11.2.2.1 o11.2.2.2 lets else if nI (be + n * T) - nI be ≤ nI (nv cc (p + 1)) then fRd_readCorrection_132 (nI lst) (nI p) o11.2.1 o11.2.2.1 o11.2.2.2 lets else (fRd_letter lets (nI be + nI (nv cc (p + 1)))).bind fun o15 => if o15 = o8 - (97 : Int32) then fRd_readCorrection_132 (nI lst) (nI p) o11.2.1 o11.2.2.1 o11.2.2.2 lets else (fRd_putLetter lets (nI be + nI (nv cc (p + 1))) (o8 - (97 : Int32))).bind fun o17 => some (nI (nv cc (p + 1)), o11.2.1, o11.2.2.1, o11.2.2.2, o17) := by
      rw [fRd_readCorrection, nI_1, pRd_sign h (by omega), Option.bind_some, sgn_dig (hB _), Option.bind_some, if_pos d1, if_neg (by decide), pRd_readNumber h (by omega) d1, Option.bind_some]
      rfl
    have eM : fMD_correction (nI m) tx (nI p) co pl rs own (nI be) (nI n) (nI T) x4 = fMD_correction_105 (nI m) tx (nI be) (nI n) (nI T) x4 (nI p) (nI (nv cc (p + 1))) (nI (nx cc (p + 1))) co pl rs own := by
      rw [fMD_correction, nI_1, pMD_sign h (by omega), Option.bind_some, li48, li57, sgn_in (hB _) (by omega) (by omega) (by omega), Option.bind_some, if_pos d1, if_neg (by decide), nI_1, pMD_sign h (by omega), Option.bind_some, sgn_in (hB _) (by omega) (by omega) (by omega), Option.bind_some, sgn_n (p := p + 1) (by omega), pk_sub d1.1]
      unfold nv nx
      by_cases c2 : dg cc (p + 1 + 1)
      · obtain ⟨d3, d4⟩ := id c2
        rw [if_pos c2, if_neg (by decide)]
        by_cases c : cc (p + 1) = 48
        · rw [if_pos (by rw [c]; decide), if_neg (fun z => z.1 c), if_neg (fun z => z.1 c)]
        · rw [if_neg (nI_nle (by omega) (by omega)), Option.bind_some, sgn_n (by omega), li10, pk_mul, nI_add, pk_sub (by omega), nI_1, if_pos ⟨c, c2⟩, if_pos ⟨c, c2⟩, show 10 * (cc (p + 1) - 48) + cc (p + 1 + 1) - 48 = 10 * (cc (p + 1) - 48) + (cc (p + 1 + 1) - 48) by omega]
      · rw [if_neg c2, if_pos (by decide), if_neg (fun z => c2 z.2), if_neg (fun z => c2 z.2)]
    obtain ⟨X, hX⟩ : ∃ X, X = nx cc (p + 1) := ⟨_, rfl⟩
    obtain ⟨V, hV⟩ : ∃ V, V = nv cc (p + 1) := ⟨_, rfl⟩
    rw [← hX] at nb1 nb2 hxm eC eM
    rw [← hV] at hv eC eM
    rw [eC, eM, fMD_correction_105, li44, pMD_takes h (by omega) (by omega) (by omega), pRd_reads h (by omega) (by omega) (by omega)]
    by_cases c44 : cc X = 44
    · have hXm := TT_lt h (p := X) (by omega)
      rw [if_pos c44, if_pos c44, Option.bind_some, Option.bind_some]
      dsimp only
      rw [if_neg (by decide), if_neg (by decide), pRd_sign h (by omega), pMD_sign h (by omega), Option.bind_some, Option.bind_some, sgn_let (hB _), show fMD_in (sgx cc (X + 1) - (97 : Int32)) (0 : Int32) (3 : Int32) = _ from sgn_in97 (hB _), Option.bind_some, Option.bind_some]
      by_cases cl : 97 ≤ cc (X + 1) ∧ cc (X + 1) ≤ 100
      · have hX1m := TT_lt h (p := X + 1) (by omega)
        rw [if_pos cl, if_neg (by decide), if_neg (by decide), nI_1, li93, pRd_reads h (by omega) (by omega) (by omega), pMD_takes h (by omega) (by omega) (by omega)]
        by_cases c93 : cc (X + 1 + 1) = 93
        · have hX2m := TT_lt h (p := X + 1 + 1) (by omega)
          have hsub : nI (be + n * T) - nI be = nI (n * T) := by rw [pk_sub (by omega), Nat.add_sub_cancel_left]
          rw [if_pos c93, if_pos c93, Option.bind_some, Option.bind_some]
          dsimp only
          rw [if_neg (show ¬ (1 : Int32) = 0 by decide), if_neg (show ¬ (1 : Int32) = 0 by decide), hsub, sgn_n (by omega), li97, pk_sub (by omega), nI_add, fMD_in, pk_mul]
          have h132 : ∀ (a : Int32) (B : Nat → Int32), fRd_readCorrection_132 (nI lst) (nI p) a 0 0 B = some (nI lst, a, nI p, nI 3, B) := by
            intro a B
            rw [fRd_readCorrection_132, fRd_blame, if_pos rfl, Option.bind_some]
            rfl
          have h203 : ∀ (a b c e : Int32) (B : Nat → Int32), fMD_correction_203 (nI p) a b c e B = some (0, a, b, nI p, nI 3, B) := by
            intro a b c e B
            rw [fMD_correction_203, fMD_faulty, Option.bind_some, if_pos (Or.inl rfl)]
            rfl
          have hnT : 1 ≤ n * T ∨ n * T = 0 := by omega
          by_cases cv : V ≤ lst
          · left
            refine ⟨p, 3, nI lst, nI (X + 1 + 1 + 1), nI (X + 1 + 1 + 1), lets, own, by omega, by omega, by omega, ?_, ?_⟩
            · rw [if_pos (nI_le cv (by omega)), h132]
            · by_cases c1 : V < n
              · rw [if_pos (nI_lt c1 (by omega)), Option.bind_some, if_pos rfl, h203]
              · rcases hl with ⟨l1, l2⟩ | ⟨l1, l2, l3⟩
                · omega
                · rw [if_neg (nI_nlt (by omega) (by omega)), li1, pk_sub (by omega), if_neg (nI_nlt (by omega) (by omega)), Option.bind_some, if_neg (by decide), l1, if_pos (nI_le cv (by omega)), h203]
          · by_cases cw2 : n * T ≤ V
            · left
              refine ⟨p, 3, nI lst, nI (X + 1 + 1 + 1), nI (X + 1 + 1 + 1), lets, own, by omega, by omega, by omega, ?_, ?_⟩
              · rw [if_neg (nI_ge (by omega) (by omega)), if_pos (nI_le cw2 (by omega)), h132]
              · by_cases c1 : V < n
                · rw [if_pos (nI_lt c1 (by omega)), Option.bind_some, if_pos rfl, h203]
                · rcases hnT with hnT | hnT
                  · rw [if_neg (nI_nlt (by omega) (by omega)), li1, pk_sub (by omega), if_pos (nI_lt (by omega) (by omega)), Option.bind_some, if_pos (by decide), h203]
                  · rw [if_neg (nI_nlt (by omega) (by omega)), hnT, if_pos (show nI 0 - (1 : Int32) < nI V from m1_lt (by omega)), Option.bind_some, if_pos (by decide), h203]
            · have hVn : n ≤ V := by
                rcases hl with ⟨l1, l2⟩ | ⟨l1, l2, l3⟩ <;> omega
              have hx4 : ¬ nI V ≤ x4 := by
                rcases hl with ⟨l1, l2⟩ | ⟨l1, l2, l3⟩
                · rw [l1, Int32.le_iff_toInt_le, nI_toInt (by omega)]
                  have : (-1 : Int32).toInt = -1 := rfl
                  omega
                · rw [l1]; exact nI_ge (by omega) (by omega)
              obtain ⟨a0, ha0, hla, hoa⟩ := hper V (by omega) (by omega)
              have hVmod : V % n ≤ V := Nat.mod_le _ _
              have hmin : fMD_in (nI V) (nI n) (nI (n * T) - (1 : Int32)) = some 1 := by
                rw [fMD_in, if_neg (nI_nlt (by omega) (by omega)), li1, pk_sub (by omega), if_neg (nI_nlt (by omega) (by omega))]
              rw [fMD_in] at hmin
              rw [if_neg (nI_ge (by omega) (by omega)), if_neg (nI_ge (by omega) (by omega)), pRd_letter (by omega), Option.bind_some, hla, hmin, Option.bind_some, if_neg (show ¬ (1 : Int32) = 0 by decide), if_neg hx4, if_neg (nI_ne0 (by omega) (by omega)), pk_rem (by omega) (by omega) (by omega), nI_add, if_pos (bIn_nI (by omega) (by omega)), rd_nI (by omega), hoa]
              by_cases ce : a0 = cc (X + 1) - 97
              · left
                refine ⟨p, 3, nI lst, nI (X + 1 + 1 + 1), nI (X + 1 + 1 + 1), lets, own, by omega, by omega, by omega, ?_, ?_⟩
                · rw [if_pos (by rw [ce]), h132]
                · rw [if_pos (by rw [ce]), h203]
              · right
                have hne : ¬ nI a0 = nI (cc (X + 1) - 97) := by rw [nI_eq (by omega) (by omega)]; exact ce
                refine ⟨V, cc (X + 1) - 97, X + 1 + 1 + 1, by omega, hVn, by omega, by omega, by omega, by omega, ?_, ?_, ?_, by omega⟩
                · rw [if_neg hne, pRd_put (by omega), Option.bind_some]
                · rw [if_neg hne, if_pos (bIn_nI (by omega) (by omega)), wr_nI (by omega)]
                · obtain ⟨_, _, _, t1⟩ := h.2.2 (p + 1) hp1m
                  obtain ⟨_, _, _, t2⟩ := h.2.2 (p + 2) (by omega)
                  rw [t1, t2, li48, li10, pk_sub d1.1, pk_mul, nI_add]
                  unfold nv at hV
                  unfold nx at hX
                  have hb2 := hB (p + 2)
                  by_cases c3 : cc (p + 1) ≠ 48 ∧ dg cc (p + 1 + 1)
                  · obtain ⟨_, d3, d4⟩ := id c3
                    rw [if_pos c3] at hV hX
                    have d5 : 48 ≤ cc (p + 2) := d3
                    have d6 : cc (p + 2) ≤ 57 := d4
                    rw [if_neg (by rw [nI_eq (by omega) (by omega)]; omega), pk_sub (by omega), hV, show p + 1 + 1 = p + 2 by omega]
                    congr 1
                    omega
                  · rw [if_neg c3] at hV hX
                    have : cc (p + 2) = 44 := by rw [show p + 2 = X by omega]; exact c44
                    rw [if_pos (by rw [this]), hV]
        · left
          refine ⟨X + 1 + 1, 1, nI lst, nI (X + 1 + 1), nI (X + 1 + 1), lets, own, by omega, by omega, by omega, ?_, ?_⟩
          · rw [if_neg c93, Option.bind_some]
            dsimp only
            rw [if_pos rfl]
            rfl
          · rw [if_neg c93, Option.bind_some]
            dsimp only
            rw [if_pos rfl]
            rfl
      · left
        refine ⟨X + 1, 1, nI lst, nI (X + 1), nI (X + 1), lets, own, by omega, by omega, by omega, ?_, ?_⟩
        · rw [if_neg cl, if_pos (by decide), fRd_blame, if_pos rfl, Option.bind_some]
          rfl
        · rw [if_neg cl, if_pos (by decide), fMD_faulty, Option.bind_some, if_pos (Or.inl rfl)]
          rfl
    · left
      refine ⟨X, 1, nI lst, nI X, nI X, lets, own, by omega, by omega, by omega, ?_, ?_⟩
      · rw [if_neg c44, Option.bind_some]
        dsimp only
        rw [if_pos rfl]
        rfl
      · rw [if_neg c44, Option.bind_some]
        dsimp only
        rw [if_pos rfl]
        rfl
  · left
    refine ⟨p + 1, 1, nI lst, nI (p + 1), nI (p + 1), lets, own, by omega, by omega, by omega, ?_, ?_⟩
    · rw [fRd_readCorrection, nI_1, pRd_sign h (by omega), Option.bind_some, sgn_dig (hB _), Option.bind_some, if_neg d1, if_pos (by decide), fRd_blame, if_pos rfl, Option.bind_some]
      rfl
    · rw [fMD_correction, nI_1, pMD_sign h (by omega), Option.bind_some, li48, li57, sgn_in (hB _) (by omega) (by omega) (by omega), Option.bind_some, if_neg d1, if_pos (by decide), fMD_faulty, Option.bind_some, if_pos (Or.inl rfl)]
      rfl
