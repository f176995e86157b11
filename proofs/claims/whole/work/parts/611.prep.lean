/-! repeats: how many corrections each has; the list of those that begin at a place -/
def mis (w : Nat → Nat) (f b d : Nat) : Nat := cn (fun i => w i ≠ w (i + d)) (fun _ => inferInstance) f b
def wrg (w : Nat → Nat) (f b : Nat) : Nat → Nat
  | 0 => 0
  | j + 1 => wrg w f b j + mis w f b ((j + 1) * b)
theorem wrg_mono {w : Nat → Nat} {f b : Nat} : ∀ {j i : Nat}, i ≤ j → wrg w f b i ≤ wrg w f b j := by
  intro j
  induction j with
  | zero => intro i h; rw [show i = 0 by omega]; exact Nat.le_refl _
  | succ j ih =>
    intro i h
    by_cases c : i = j + 1
    · rw [c]; exact Nat.le_refl _
    · exact Nat.le_trans (ih (show i ≤ j by omega)) (by show _ ≤ wrg w f b j + _; omega)
theorem mis_le {w : Nat → Nat} {f b d : Nat} : mis w f b d ≤ b := cn_le _ _ _ _
theorem wrg_le {w : Nat → Nat} {f b : Nat} : ∀ j, wrg w f b j ≤ j * b := by
  intro j
  induction j with
  | zero => exact Nat.zero_le _
  | succ j ih =>
    have h := mis_le (w := w) (f := f) (b := b) (d := (j + 1) * b)
    show wrg w f b j + mis w f b ((j + 1) * b) ≤ (j + 1) * b
    rw [Nat.add_mul, Nat.one_mul] at *
    omega
theorem mis_cong {w v : Nat → Nat} {f b d t : Nat} (h : ∀ i, f ≤ i → i < t → w i = v i) (ht : f + b + d ≤ t) : mis w f b d = mis v f b d := by
  unfold mis
  refine cn_cong b f (fun j h1 h2 => ?_)
  rw [h j h1 (by omega), h (j + d) (by omega) (by omega)]
theorem wrg_cong {w v : Nat → Nat} {f b t : Nat} (h : ∀ i, f ≤ i → i < t → w i = v i) : ∀ j, f + (j + 1) * b ≤ t → wrg w f b j = wrg v f b j := by
  intro j
  induction j with
  | zero => intro _; rfl
  | succ j ih =>
    intro hj
    have e : (j + 1 + 1) * b = (j + 1) * b + b := by rw [Nat.add_mul (j + 1) 1 b, Nat.one_mul]
    show wrg w f b j + mis w f b ((j + 1) * b) = wrg v f b j + mis v f b ((j + 1) * b)
    rw [ih (by omega), mis_cong h (by omega)]
def rbl (w : Nat → Nat) (M n f b : Nat) : Nat → Nat → List (Nat × Nat × Nat)
  | 0, _ => []
  | k + 1, j => if f + (j + 1) * b ≤ n ∧ wrg w f b j ≤ M then (b, f + (j + 1) * b, wrg w f b j) :: rbl w M n f b k (j + 1) else []
def rls (w : Nat → Nat) (M n f : Nat) : Nat → Nat → List (Nat × Nat × Nat)
  | 0, _ => []
  | k + 1, b => rbl w M n f b 24 1 ++ rls w M n f k (b + 1)
def rl (w : Nat → Nat) (M n f : Nat) : List (Nat × Nat × Nat) := rls w M n f 24 1
/-- a repeat that begins at f: its block, its end, its corrections -/
def Rep (w : Nat → Nat) (M f b e x : Nat) : Prop := 1 ≤ b ∧ ∃ i, 1 ≤ i ∧ e = f + (i + 1) * b ∧ x = wrg w f b i ∧ x ≤ M
theorem rbl_nil {w : Nat → Nat} {M n f b : Nat} {k j : Nat} (h : n < f + (j + 1) * b) : rbl w M n f b k j = [] := by
  cases k with
  | zero => rfl
  | succ k => rw [rbl, if_neg (fun c => absurd c.1 (by omega))]
theorem mul_mono {i j b : Nat} (h : i ≤ j) : (i + 1) * b ≤ (j + 1) * b := Nat.mul_le_mul_right _ (by omega)
theorem mem_rbl {w : Nat → Nat} {M n f b : Nat} {q : Nat × Nat × Nat} : ∀ k j, q ∈ rbl w M n f b k j ↔ ∃ i, j ≤ i ∧ i < j + k ∧ q = (b, f + (i + 1) * b, wrg w f b i) ∧ f + (i + 1) * b ≤ n ∧ wrg w f b i ≤ M := by
  intro k
  induction k with
  | zero => intro j; exact ⟨fun h => by simp [rbl] at h, fun ⟨i, h1, h2, _⟩ => absurd h2 (by omega)⟩
  | succ k ih =>
    intro j
    rw [rbl]
    by_cases c : f + (j + 1) * b ≤ n ∧ wrg w f b j ≤ M
    · rw [if_pos c, List.mem_cons, ih (j + 1)]
      constructor
      · rintro (h | ⟨i, h1, h2, h3⟩)
        · exact ⟨j, Nat.le_refl _, by omega, h, c⟩
        · exact ⟨i, by omega, by omega, h3⟩
      · rintro ⟨i, h1, h2, h3, h4⟩
        by_cases e : i = j
        · left; rw [h3, e]
        · right; exact ⟨i, by omega, by omega, h3, h4⟩
    · rw [if_neg c]
      constructor
      · intro h; simp at h
      · rintro ⟨i, h1, h2, h3, h4, h5⟩
        have h6 := mul_mono (b := b) h1
        have h7 := wrg_mono (w := w) (f := f) (b := b) h1
        exact absurd ⟨by omega, by omega⟩ c
theorem mem_rls {w : Nat → Nat} {M n f : Nat} {q : Nat × Nat × Nat} : ∀ k b0, q ∈ rls w M n f k b0 ↔ ∃ b, b0 ≤ b ∧ b < b0 + k ∧ q ∈ rbl w M n f b 24 1 := by
  intro k
  induction k with
  | zero => intro b0; exact ⟨fun h => by simp [rls] at h, fun ⟨b, h1, h2, _⟩ => absurd h2 (by omega)⟩
  | succ k ih =>
    intro b0
    rw [rls, List.mem_append, ih (b0 + 1)]
    constructor
    · rintro (h | ⟨b, h1, h2, h3⟩)
      · exact ⟨b0, Nat.le_refl _, by omega, h⟩
      · exact ⟨b, by omega, by omega, h3⟩
    · rintro ⟨b, h1, h2, h3⟩
      by_cases e : b = b0
      · left; rw [← e]; exact h3
      · right; exact ⟨b, by omega, by omega, h3⟩
theorem Rep_big {w : Nat → Nat} {M f b e x : Nat} (h : Rep w M f b e x) : 1 ≤ b ∧ f + 2 * b ≤ e := by
  obtain ⟨h1, i, h2, rfl, _⟩ := h
  have := Nat.mul_le_mul_right b (show 2 ≤ i + 1 by omega)
  exact ⟨h1, by omega⟩
theorem mem_rl {w : Nat → Nat} {M n f b e x : Nat} (hn : n ≤ 24) : (b, e, x) ∈ rl w M n f ↔ Rep w M f b e x ∧ e ≤ n := by
  unfold rl
  rw [mem_rls]
  constructor
  · rintro ⟨b', h1, h2, h3⟩
    obtain ⟨i, g1, g2, g3, g4, g5⟩ := (mem_rbl 24 1).mp h3
    cases g3
    exact ⟨⟨h1, i, g1, rfl, rfl, g5⟩, g4⟩
  · rintro ⟨⟨h1, i, h2, rfl, rfl, h4⟩, h5⟩
    have a1 : (i + 1) * 1 ≤ (i + 1) * b := Nat.mul_le_mul_left _ h1
    have a2 : 1 * b ≤ (i + 1) * b := Nat.mul_le_mul_right _ (by omega)
    exact ⟨b, h1, by omega, (mem_rbl 24 1).mpr ⟨i, h2, by omega, rfl, h5, h4⟩⟩
theorem rls_nil {w : Nat → Nat} {M n f : Nat} : ∀ k b, n < f + 2 * b → rls w M n f k b = [] := by
  intro k
  induction k with
  | zero => intro b h; rfl
  | succ k ih => intro b h; rw [rls, rbl_nil (by omega), ih (b + 1) (by omega)]; rfl
theorem rbl_len {w : Nat → Nat} {M n f b : Nat} (hn : n ≤ 24) (hb : 1 ≤ b) : ∀ k j, (rbl w M n f b k j).length ≤ 24 / b - j := by
  intro k
  induction k with
  | zero => intro j; exact Nat.zero_le _
  | succ k ih =>
    intro j
    rw [rbl]
    by_cases c : f + (j + 1) * b ≤ n ∧ wrg w f b j ≤ M
    · rw [if_pos c, List.length_cons]
      have h1 : j + 1 ≤ 24 / b := (Nat.le_div_iff_mul_le (by omega)).mpr (by omega)
      have h2 := ih (j + 1)
      omega
    · rw [if_neg c]; exact Nat.zero_le _
def bs : Nat → Nat → Nat
  | 0, _ => 0
  | k + 1, b => (24 / b - 1) + bs k (b + 1)
theorem rls_len {w : Nat → Nat} {M n f : Nat} (hn : n ≤ 24) : ∀ k b, 1 ≤ b → (rls w M n f k b).length ≤ bs k b := by
  intro k
  induction k with
  | zero => intro b _; exact Nat.zero_le _
  | succ k ih =>
    intro b hb
    rw [rls, List.length_append, bs]
    have h1 := rbl_len (w := w) (M := M) (n := n) (f := f) hn hb 24 1
    have h2 := ih (b + 1) (by omega)
    omega
theorem rl_len {w : Nat → Nat} {M n f : Nat} (hn : n ≤ 24) : (rl w M n f).length ≤ 60 := rls_len hn 24 1 (Nat.le_refl _)
/-! the class finds them by bits -/
def btt (x : Int32) (i : Nat) : Bool := x.toBitVec.getLsbD i
/-- unlike: which letters differ from those so many places behind them -/
def UOK (w : Nat → Nat) (n : Nat) (U : Nat → Int32) : Prop := ∀ d, 1 ≤ d → d < 24 → ∀ p, p + d < n → btt (U d) p = decide (w p ≠ w (p + d))
theorem and24 (X : Int32) {F : Nat} (hF : F < 2 ^ 24) : ∃ m, m < 2 ^ 24 ∧ X &&& nI F = nI m ∧ ∀ i, i < 24 → m.testBit i = (btt X i && F.testBit i) := by
  refine ⟨(X.toBitVec.toNat &&& F), Nat.lt_of_le_of_lt Nat.and_le_right hF, ?_, fun i hi => ?_⟩
  · apply Int32.toBitVec_inj.1
    show X.toBitVec &&& BitVec.ofNat 32 F = BitVec.ofNat 32 (X.toBitVec.toNat &&& F)
    apply BitVec.eq_of_getLsbD_eq
    intro i hi
    rw [BitVec.getLsbD_and, BitVec.getLsbD_ofNat, BitVec.getLsbD_ofNat, Nat.testBit_and]
    simp [hi, BitVec.getLsbD]
  · rw [Nat.testBit_and]
    rfl
set_option maxRecDepth 100000 in
theorem first_ok : ∀ b, b < 25 → ∀ f, f < 25 → b + f ≤ 24 → (((1 : Int32) <<< (nI b &&& 31)) - (1 : Int32)) <<< (nI f &&& 31) = nI ((2 ^ b - 1) * 2 ^ f) := by decide +kernel
set_option maxRecDepth 100000 in
theorem first_bit : ∀ b, b < 25 → ∀ f, f < 25 → b + f ≤ 24 → (2 ^ b - 1) * 2 ^ f < 2 ^ 24 ∧ ∀ i, i < 24 → ((2 ^ b - 1) * 2 ^ f).testBit i = decide (f ≤ i ∧ i < f + b) := by decide +kernel
theorem cn_last2 (P : Nat → Prop) (hd : DecidablePred P) (k s : Nat) : cn P hd s (k + 1) = cn P hd s k + (if P (s + k) then 1 else 0) := cn_last P hd k s
theorem pc_cn {m f b : Nat} {Q : Nat → Prop} {hq : DecidablePred Q} (h : ∀ i, i < 24 → m.testBit i = decide (f ≤ i ∧ i < f + b ∧ Q i)) : ∀ k, k ≤ 24 → pc m k = cn Q hq f (min (k - f) b) := by
  intro k
  induction k with
  | zero => intro _; rw [show min (0 - f) b = 0 by omega]; rfl
  | succ k ih =>
    intro hk
    rw [pc, ih (by omega), h k (by omega)]
    by_cases c : f ≤ k ∧ k < f + b
    · rw [show min (k + 1 - f) b = min (k - f) b + 1 by omega, cn_last2, show f + min (k - f) b = k by omega]
      by_cases q : Q k
      · rw [if_pos q, decide_eq_true ⟨c.1, c.2, q⟩]; rfl
      · rw [if_neg q, decide_eq_false (fun z => q z.2.2)]; rfl
    · rw [show min (k + 1 - f) b = min (k - f) b by omega, decide_eq_false (fun z => c ⟨z.1, z.2.1⟩)]
      rfl
theorem bits_mis {w : Nat → Nat} {n f b d : Nat} {U : Nat → Int32} (hn : n ≤ 24) (hU : UOK w n U) (hd : 1 ≤ d) (h : f + b + d ≤ n) : fJI_bitCount (U d &&& nI ((2 ^ b - 1) * 2 ^ f)) = some (nI (mis w f b d)) := by
  by_cases b0 : b = 0
  · subst b0
    obtain ⟨hF, hb⟩ := first_bit 0 (by omega) f (by omega) (by omega)
    obtain ⟨m, h1, h2, h3⟩ := and24 (U d) hF
    rw [h2, pJI_pc h1, pc_cn (f := f) (b := 0) (Q := fun i => w i ≠ w (i + d)) (hq := fun _ => inferInstance) (fun i hi => by rw [h3 i hi, hb i hi, decide_eq_false (show ¬ (f ≤ i ∧ i < f + 0) by omega), Bool.and_false, decide_eq_false (fun z => by have := z.1; have := z.2.1; omega)]) 24 (Nat.le_refl _)]
    rw [show min (24 - f) 0 = 0 by omega]
    rfl
  · have hd24 : d < 24 := by omega
    obtain ⟨hF, hb⟩ := first_bit b (by omega) f (by omega) (by omega)
    obtain ⟨m, h1, h2, h3⟩ := and24 (U d) hF
    rw [h2, pJI_pc h1, pc_cn (f := f) (b := b) (Q := fun i => w i ≠ w (i + d)) (hq := fun _ => inferInstance) (fun i hi => ?_) 24 (Nat.le_refl _)]
    · rw [show min (24 - f) b = b by omega]
      rfl
    · rw [h3 i hi, hb i hi]
      by_cases c : f ≤ i ∧ i < f + b
      · rw [hU d hd hd24 i (by omega), decide_eq_true c, Bool.and_true]
        exact decide_eq_decide.mpr ⟨fun z => ⟨c.1, c.2, z⟩, fun z => z.2.2⟩
      · rw [decide_eq_false c, Bool.and_false, decide_eq_false (fun z => c ⟨z.1, z.2.1⟩)]
/-- what the three rows of the class hold of the list -/
def RLs (g1 g2 : Nat) (l : List (Nat × Nat × Nat)) (B E P : Nat → Int32) : Prop := ∀ (i : Nat) (q : Nat × Nat × Nat), l[i]? = some q → B i = nI q.1 ∧ E i = nI q.2.1 ∧ P i = nI (g1 + q.2.2 * g2)
theorem RL_nil {g1 g2 : Nat} {B E P : Nat → Int32} : RLs g1 g2 [] B E P := fun i q h => by simp at h
theorem RL_add {g1 g2 : Nat} {l : List (Nat × Nat × Nat)} {B E P : Nat → Int32} {b e x : Nat} (h : RLs g1 g2 l B E P) : RLs g1 g2 (l ++ [(b, e, x)]) (upd B l.length (nI b)) (upd E l.length (nI e)) (upd P l.length (nI (g1 + x * g2))) := by
  intro i q hq
  by_cases c : i < l.length
  · rw [List.getElem?_append_left c] at hq
    rw [pk_un (by omega), pk_un (by omega), pk_un (by omega)]
    exact h i q hq
  · rw [List.getElem?_append_right (by omega)] at hq
    have hz : i - l.length < 1 := (List.getElem?_eq_some_iff.mp hq).1
    have e : i = l.length := by omega
    subst e
    rw [Nat.sub_self] at hq
    cases hq
    exact ⟨pk_us, pk_us, pk_us⟩
theorem pRp_findOf14 {w : Nat → Nat} {n f b M g1 g2 : Nat} {U : Nat → Int32} (hn : n ≤ 24) (hU : UOK w n U) (hb : 1 ≤ b) (hM : M ≤ 6) (hg1 : g1 ≤ 20) (hg2 : g2 ≤ 20) (hf : f + b ≤ n) : ∀ (k j m : Nat) (l : List (Nat × Nat × Nat)) (B E P : Nat → Int32), j + k = 25 → 1 ≤ j → k < m → RLs g1 g2 l B E P → (l ++ rbl w M n f b k j).length ≤ 60 → ∃ B2 E2 P2, RLs g1 g2 (l ++ rbl w M n f b k j) B2 E2 P2 ∧ fRp_findOf_14 (nI n) (nI g1) (nI g2) (nI M) U (nI f) (nI b) m (nI ((2 ^ b - 1) * 2 ^ f)) (nI (wrg w f b (j - 1))) (nI (j + 1)) (nI l.length) B E P = some (nI (l ++ rbl w M n f b k j).length, B2, E2, P2) := by
  intro k
  induction k with
  | zero =>
    intro j m l B E P h1 h2 h3 h4 h5
    obtain ⟨m, rfl⟩ : ∃ q, m = q + 1 := ⟨m - 1, by omega⟩
    refine ⟨B, E, P, by rw [rbl, List.append_nil]; exact h4, ?_⟩
    rw [rbl, List.append_nil, fRp_findOf_14, if_pos (show (24 : Int32) < nI (j + 1) from nI_lt (a := 24) (by omega) (by omega))]
  | succ k ih =>
    intro j m l B E P h1 h2 h3 h4 h5
    obtain ⟨m, rfl⟩ : ∃ q, m = q + 1 := ⟨m - 1, by omega⟩
    have h6 : 1 * 1 ≤ j * b := Nat.mul_le_mul (by omega) hb
    have h7 : j * b ≤ 25 * 24 := Nat.mul_le_mul (by omega) (by omega)
    have h8 : j * 1 ≤ j * b := Nat.mul_le_mul (Nat.le_refl _) hb
    have e1 : (j + 1) * b = j * b + b := by rw [Nat.add_mul, Nat.one_mul]
    have hw0 : wrg w f b (j - 1 + 1) = wrg w f b (j - 1) + mis w f b ((j - 1 + 1) * b) := rfl
    rw [show j - 1 + 1 = j by omega] at hw0
    have hwl := wrg_le (w := w) (f := f) (b := b) j
    have hll : l.length ≤ 60 := by rw [List.length_append] at h5; omega
    have ih2 := ih (j + 1)
    rw [show j + 1 - 1 = j by omega] at ih2
    have hdd : (nI (j + 1) - (1 : Int32)) * nI b = nI (j * b) := by rw [li1, pk_sub (by omega), pk_mul, Nat.add_sub_cancel]
    have hde : nI f + nI (j + 1) * nI b = nI (f + (j * b + b)) := by rw [pk_mul, nI_add, e1]
    rw [rbl] at h5 ⊢
    rw [e1] at h5 ⊢
    obtain ⟨d, hd⟩ : ∃ d, d = j * b := ⟨_, rfl⟩
    rw [← hd] at h6 h7 h8 h5 hw0 hwl hdd hde ⊢
    by_cases c1 : f + (d + b) ≤ n
    · have hbm := bits_mis (b := b) (f := f) (d := d) hn hU (by omega) (by omega)
      have hx : nI (wrg w f b (j - 1)) + nI (mis w f b d) = nI (wrg w f b j) := by rw [nI_add, hw0]
      obtain ⟨x, hxx⟩ : ∃ x, x = wrg w f b j := ⟨_, rfl⟩
      rw [← hxx] at hx hwl h5 ih2 ⊢
      by_cases c2 : x ≤ M
      · rw [if_pos ⟨c1, c2⟩] at h5 ⊢
        rw [List.append_cons] at h5 ⊢
        have hl2 : l.length < 60 := by rw [List.length_append, List.length_append, List.length_singleton] at h5; omega
        rw [fRp_findOf_14, if_neg (show ¬ (24 : Int32) < nI (j + 1) from nI_nlt (a := 24) (by omega) (by omega)), hde, if_neg (nI_nlt (by omega) (by omega)), hdd, if_neg (show ¬ nI d < (1 : Int32) from nI_nlt (b := 1) (by omega) (by omega)), if_neg (show ¬ (24 : Int32) ≤ nI d from nI_ge (a := d) (b := 24) (by omega) (by omega)), if_neg (nI_pos (by omega)), if_pos (show nI l.length < (60 : Int32) from nI_lt (b := 60) (by omega) (by omega)), if_pos (bIn_nI (by omega) (by omega)), rd_nI (by omega), hbm, Option.bind_some, hx, if_pos (nI_le c2 (by omega)), if_pos (bIn_nI (by omega) (by omega)), if_pos (bIn_nI (by omega) (by omega)), if_pos (bIn_nI (by omega) (by omega)), wr_nI (by omega), wr_nI (by omega), wr_nI (by omega), pk_mul, nI_add, nI_1, nI_1]
        obtain ⟨B2, E2, P2, r1, r2⟩ := ih2 m (l ++ [(b, f + (d + b), x)]) _ _ _ (by omega) (by omega) (by omega) (RL_add h4) h5
        refine ⟨B2, E2, P2, r1, ?_⟩
        rw [List.length_append (as := l), List.length_singleton] at r2
        exact r2
      · rw [if_neg (fun z => c2 z.2), List.append_nil]
        refine ⟨B, E, P, h4, ?_⟩
        rw [fRp_findOf_14, if_neg (show ¬ (24 : Int32) < nI (j + 1) from nI_nlt (a := 24) (by omega) (by omega)), hde, if_neg (nI_nlt (by omega) (by omega)), hdd, if_neg (show ¬ nI d < (1 : Int32) from nI_nlt (b := 1) (by omega) (by omega)), if_neg (show ¬ (24 : Int32) ≤ nI d from nI_ge (a := d) (b := 24) (by omega) (by omega)), if_neg (nI_pos (by omega))]
        by_cases c4 : nI l.length < (60 : Int32)
        · rw [if_pos c4, if_pos (bIn_nI (by omega) (by omega)), rd_nI (by omega), hbm, Option.bind_some, hx, if_neg (nI_ge (by omega) (by omega))]
        · rw [if_neg c4]
    · rw [if_neg (fun z => c1 z.1), List.append_nil]
      refine ⟨B, E, P, h4, ?_⟩
      rw [fRp_findOf_14]
      by_cases z : (24 : Int32) < nI (j + 1)
      · rw [if_pos z]
      · rw [if_neg z, hde, if_pos (nI_lt (by omega) (by omega))]
theorem pRp_findOf {w : Nat → Nat} {n f b M g1 g2 : Nat} {U : Nat → Int32} (hn : n ≤ 24) (hU : UOK w n U) (hb : 1 ≤ b) (hM : M ≤ 6) (hg1 : g1 ≤ 20) (hg2 : g2 ≤ 20) (hf : f + b ≤ n) {l : List (Nat × Nat × Nat)} {B E P : Nat → Int32} (hl : RLs g1 g2 l B E P) (h60 : (l ++ rbl w M n f b 24 1).length ≤ 60) : ∃ B2 E2 P2, RLs g1 g2 (l ++ rbl w M n f b 24 1) B2 E2 P2 ∧ fRp_findOf (nI n) (nI g1) (nI g2) (nI M) U (nI l.length) B E P (nI f) (nI b) = some (nI (l ++ rbl w M n f b 24 1).length, B2, E2, P2) := by
  unfold fRp_findOf
  rw [first_ok b (by omega) f (by omega) (by omega)]
  have h := pRp_findOf14 hn hU hb hM hg1 hg2 hf 24 1 FU l B E P rfl (Nat.le_refl _) (by decide) hl h60
  exact h
theorem pRp_find7 {w : Nat → Nat} {n f M g1 g2 : Nat} {U : Nat → Int32} (hn : n ≤ 24) (hU : UOK w n U) (hM : M ≤ 6) (hg1 : g1 ≤ 20) (hg2 : g2 ≤ 20) (hf : f ≤ 24) : ∀ (k b m : Nat) (l : List (Nat × Nat × Nat)) (B E P : Nat → Int32), b + k = 25 → 1 ≤ b → k < m → RLs g1 g2 l B E P → (l ++ rls w M n f k b).length ≤ 60 → ∃ B2 E2 P2, RLs g1 g2 (l ++ rls w M n f k b) B2 E2 P2 ∧ fRp_find_7 (nI n) (nI g1) (nI g2) (nI M) U (nI f) m (nI b) (nI l.length) B E P = some (nI (l ++ rls w M n f k b).length, B2, E2, P2) := by
  intro k
  induction k with
  | zero =>
    intro b m l B E P h1 h2 h3 h4 h5
    obtain ⟨m, rfl⟩ : ∃ q, m = q + 1 := ⟨m - 1, by omega⟩
    refine ⟨B, E, P, by rw [rls, List.append_nil]; exact h4, ?_⟩
    rw [rls, List.append_nil]
    simp (disch := omega) only [fRp_find_7, li0, li1, li2, li24, nI_ltI, nI_leI, nI_eq, nI_add, pk_sub, pk_mul, pk_div, rd, rdL, wr, wrL, wrC, nI_clamp, bIn_nI, if_true, if_false, or_true, true_or, Option.bind_some, if_pos, if_neg, ↓pk_rem]
  | succ k ih =>
    intro b m l B E P h1 h2 h3 h4 h5
    obtain ⟨m, rfl⟩ : ∃ q, m = q + 1 := ⟨m - 1, by omega⟩
    by_cases c : n < f + 2 * b
    · rw [rls_nil (k + 1) b c, List.append_nil]
      refine ⟨B, E, P, h4, ?_⟩
      simp (disch := omega) only [fRp_find_7, li0, li1, li2, li24, nI_ltI, nI_leI, nI_eq, nI_add, pk_sub, pk_mul, pk_div, rd, rdL, wr, wrL, wrC, nI_clamp, bIn_nI, if_true, if_false, or_true, true_or, Option.bind_some, if_pos, if_neg, ↓pk_rem]
    · rw [rls, ← List.append_assoc] at h5 ⊢
      have h6 : (l ++ rbl w M n f b 24 1).length ≤ 60 := by rw [List.length_append] at h5; omega
      obtain ⟨B1, E1, P1, q1, q2⟩ := pRp_findOf hn hU h2 hM hg1 hg2 (by omega) h4 h6
      obtain ⟨B2, E2, P2, q3, q4⟩ := ih (b + 1) m _ B1 E1 P1 (by omega) (by omega) (by omega) q1 h5
      refine ⟨B2, E2, P2, q3, ?_⟩
      rw [fRp_find_7, if_neg (by rw [li2, pk_mul, nI_add, nI_ltI (by omega) (by omega)]; omega), q2, Option.bind_some, nI_1]
      exact q4
/-- the class's repeats from a place -/
theorem pRp_find {w : Nat → Nat} {n f M g1 g2 : Nat} {U : Nat → Int32} (hn : n ≤ 24) (hU : UOK w n U) (hM : M ≤ 6) (hg1 : g1 ≤ 20) (hg2 : g2 ≤ 20) (hf : f ≤ 24) (B E P : Nat → Int32) : ∃ B2 E2 P2, RLs g1 g2 (rl w M n f) B2 E2 P2 ∧ fRp_find (nI n) (nI g1) (nI g2) (nI M) U B E P (nI f) = some (nI (rl w M n f).length, B2, E2, P2) := by
  unfold fRp_find
  have h := pRp_find7 hn hU hM hg1 hg2 hf 24 1 FU [] B E P rfl (Nat.le_refl _) (by decide) RL_nil (by rw [List.nil_append]; exact rl_len hn)
  rw [List.nil_append] at h
  exact h
/-! look: the bits -/
def stb (w : Nat → Nat) (k : Nat) : Nat → Nat
  | 0 => 0
  | p + 1 => if w p = k then stb w k p ||| 2 ^ p else stb w k p
theorem stb_lt {w : Nat → Nat} {k : Nat} : ∀ p, stb w k p < 2 ^ p := by
  intro p
  induction p with
  | zero => exact Nat.one_pos
  | succ p ih =>
    rw [stb]
    have h1 : stb w k p < 2 ^ (p + 1) := by rw [Nat.pow_succ]; omega
    by_cases c : w p = k
    · rw [if_pos c]
      exact Nat.or_lt_two_pow h1 (by rw [Nat.pow_succ]; have := Nat.two_pow_pos p; omega)
    · rw [if_neg c]; exact h1
theorem stb_bit {w : Nat → Nat} {k i : Nat} : ∀ p, (stb w k p).testBit i = decide (i < p ∧ w i = k) := by
  intro p
  induction p with
  | zero => rw [stb, Nat.zero_testBit, decide_eq_false (fun z => absurd z.1 (by omega))]
  | succ p ih =>
    rw [stb]
    by_cases c : w p = k
    · rw [if_pos c, Nat.testBit_or, ih, Nat.testBit_two_pow]
      by_cases e : p = i
      · subst e
        rw [decide_eq_true rfl, Bool.or_true, decide_eq_true ⟨by omega, c⟩]
      · rw [decide_eq_false e, Bool.or_false]
        exact decide_eq_decide.mpr ⟨fun z => ⟨by omega, z.2⟩, fun z => ⟨by omega, z.2⟩⟩
    · rw [if_neg c, ih]
      refine decide_eq_decide.mpr ⟨fun z => ⟨by omega, z.2⟩, fun z => ⟨?_, z.2⟩⟩
      have : i ≠ p := fun e => c (e ▸ z.2)
      omega
theorem fo_or (a b : Nat) : nI a ||| nI b = nI (a ||| b) := by
  apply Int32.toBitVec_inj.1
  show BitVec.ofNat 32 a ||| BitVec.ofNat 32 b = BitVec.ofNat 32 (a ||| b)
  apply BitVec.eq_of_getLsbD_eq
  intro i hi
  simp [hi]
theorem sh1 : ∀ p, p < 24 → (1 : Int32) <<< (nI p &&& 31) = nI (2 ^ p) := by decide +kernel
theorem smod31 : ∀ p, p < 32 → ((nI p &&& 31).toBitVec.smod 32).toNat = p := by decide +kernel
theorem shr_n {n p : Nat} (h : n < 2 ^ 31) (hp : p < 32) : nI n >>> (nI p &&& 31) = nI (n / 2 ^ p) := pk_shrN h _ p (smod31 p hp)
/-- of the first k letters: both places have it -/
def lkb (w : Nat → Nat) (n d : Nat) : Nat → Nat
  | 0 => 0
  | k + 1 => lkb w n d k ||| (stb w k n &&& stb w k n / 2 ^ d)
theorem stb_24 {w : Nat → Nat} {k n : Nat} (hn : n ≤ 24) : stb w k n < 2 ^ 24 := Nat.lt_of_lt_of_le (stb_lt n) (Nat.pow_le_pow_right (by omega) hn)
theorem lkb_bit {w : Nat → Nat} {n d i : Nat} : ∀ k, (lkb w n d k).testBit i = decide (i < n ∧ i + d < n ∧ w i = w (i + d) ∧ w i < k) := by
  intro k
  induction k with
  | zero => rw [lkb, Nat.zero_testBit, decide_eq_false (fun z => absurd z.2.2.2 (by omega))]
  | succ k ih =>
    rw [lkb, Nat.testBit_or, Nat.testBit_and, ih, Nat.testBit_div_two_pow, stb_bit, stb_bit, ← Bool.decide_and, ← Bool.decide_or]
    refine decide_eq_decide.mpr ⟨?_, ?_⟩
    · rintro (⟨h1, h2, h3, h4⟩ | ⟨⟨h1, h2⟩, h3, h4⟩)
      · exact ⟨h1, h2, h3, by omega⟩
      · refine ⟨h1, by omega, ?_, by omega⟩
        rw [h2, Nat.add_comm i d]
        first | exact h4.symm | (rw [Nat.add_comm d i]; exact h4.symm)
    · rintro ⟨h1, h2, h3, h4⟩
      by_cases e : w i = k
      · right
        refine ⟨⟨h1, e⟩, by omega, ?_⟩
        first | (rw [← h3]; exact e) | (rw [Nat.add_comm, ← h3]; exact e)
      · left; exact ⟨h1, h2, h3, by omega⟩
theorem lkb_24 {w : Nat → Nat} {n d : Nat} (hn : n ≤ 24) : ∀ k, lkb w n d k < 2 ^ 24 := by
  intro k
  induction k with
  | zero => show 0 < 2 ^ 24; decide
  | succ k ih => exact Nat.or_lt_two_pow ih (Nat.lt_of_le_of_lt Nat.and_le_left (stb_24 hn))
theorem btt_nI {a i : Nat} (hi : i < 32) : btt (nI a) i = a.testBit i := by
  show (BitVec.ofNat 32 a).getLsbD i = _
  rw [BitVec.getLsbD_ofNat]
  simp [hi]
theorem btt_not {x : Int32} {i : Nat} (hi : i < 32) : btt (x ^^^ (-1)) i = !(btt x i) := by
  show (x.toBitVec ^^^ BitVec.ofInt 32 (-1)).getLsbD i = !(x.toBitVec.getLsbD i)
  rw [BitVec.getLsbD_xor]
  have : (BitVec.ofInt 32 (-1)).getLsbD i = true := by
    have h : ∀ i, i < 32 → (BitVec.ofInt 32 (-1)).getLsbD i = true := by decide
    exact h i hi
  rw [this, Bool.xor_true]
theorem pRp_look109 {w : Nat → Nat} {n d : Nat} (hn : n ≤ 24) (hd : d < 24) (K : Int32 → Int32 → Int32 → Int32 → Int32 → (Nat → Int32) → (Nat → Int32) → Option (Int32 × Int32 × Int32 × Int32 × (Nat → Int32) × (Nat → Int32))) (z a b c : Int32) {S U : Nat → Int32} (hS : ∀ k, k < 4 → S k = nI (stb w k n)) : ∀ (q k m : Nat), k + q = 4 → q < m → fRp_look_109 K m (nI d) (nI (lkb w n d k)) (nI k) z a b c S U = K (nI (d + 1)) z a b c S (upd U d (nI (lkb w n d 4) ^^^ (-1))) := by
  intro q
  induction q with
  | zero =>
    intro k m h1 h2
    obtain ⟨m, rfl⟩ : ∃ q, m = q + 1 := ⟨m - 1, by omega⟩
    have : k = 4 := by omega
    subst this
    simp (disch := omega) only [fRp_look_109, li1, li4, nI_ltI, nI_leI, nI_eq, nI_add, pk_sub, pk_mul, pk_div, rd, rdL, wr, wrL, wrC, nI_clamp, bIn_nI, if_true, if_false, or_true, true_or, Option.bind_some, if_pos, if_neg, ↓pk_rem]
  | succ q ih =>
    intro k m h1 h2
    obtain ⟨m, rfl⟩ : ∃ q, m = q + 1 := ⟨m - 1, by omega⟩
    have h24 := stb_24 (w := w) (k := k) hn
    rw [fRp_look_109, if_neg (by rw [li4, nI_leI (by omega) (by omega)]; omega), if_pos (bIn_nI (by omega) (by omega)), if_pos (bIn_nI (by omega) (by omega)), rd_nI (by omega), hS k (by omega), shr_n (by omega) (by omega), fa_and, fo_or, nI_1]
    exact ih (k + 1) m (by omega) (by omega)
theorem UOK_of {w : Nat → Nat} {n : Nat} (hn : n ≤ 24) (hw : ∀ i, i < n → w i < 4) {U : Nat → Int32} (h : ∀ d, 1 ≤ d → d < 24 → U d = nI (lkb w n d 4) ^^^ (-1)) : UOK w n U := by
  intro d h1 h2 p h3
  rw [h d h1 h2, btt_not (by omega), btt_nI (by omega), lkb_bit]
  have h4 := hw p (by omega)
  by_cases c : w p = w (p + d)
  · rw [decide_eq_true ⟨by omega, h3, c, h4⟩, decide_eq_false (fun z => z c)]; rfl
  · rw [decide_eq_false (fun z => c z.2.2.1), decide_eq_true c]; rfl
theorem pRp_look98 {w : Nat → Nat} {n : Nat} (hn : n ≤ 24) (z a b c : Int32) {S : Nat → Int32} (hS : ∀ k, k < 4 → S k = nI (stb w k n)) : ∀ (q d m : Nat) (U : Nat → Int32), d + q = 24 → q < m → 1 ≤ d → (∀ e, 1 ≤ e → e < d → U e = nI (lkb w n e 4) ^^^ (-1)) → ∃ U2, (∀ e, 1 ≤ e → e < 24 → U2 e = nI (lkb w n e 4) ^^^ (-1)) ∧ fRp_look_98 m (nI d) z a b c S U = some (z, a, b, c, S, U2) := by
  intro q
  induction q with
  | zero =>
    intro d m U h1 h2 h3 h4
    obtain ⟨m, rfl⟩ : ∃ q, m = q + 1 := ⟨m - 1, by omega⟩
    have : d = 24 := by omega
    subst this
    exact ⟨U, h4, by simp (disch := omega) only [fRp_look_98, li24, nI_ltI, nI_leI, nI_eq, nI_add, pk_sub, pk_mul, pk_div, rd, rdL, wr, wrL, wrC, nI_clamp, bIn_nI, if_true, if_false, or_true, true_or, Option.bind_some, if_pos, if_neg, ↓pk_rem]⟩
  | succ q ih =>
    intro d m U h1 h2 h3 h4
    obtain ⟨m, rfl⟩ : ∃ q, m = q + 1 := ⟨m - 1, by omega⟩
    have h := pRp_look109 (w := w) hn (show d < 24 by omega) (fRp_look_98 m) z a b c (U := U) hS 4 0 FU rfl (by decide)
    obtain ⟨U2, g1, g2⟩ := ih (d + 1) m (upd U d (nI (lkb w n d 4) ^^^ (-1))) (by omega) (by omega) (by omega) (fun e h5 h6 => by
      by_cases c : e = d
      · rw [c, pk_us]
      · rw [pk_un (by omega)]; exact h4 e h5 (by omega))
    refine ⟨U2, g1, ?_⟩
    rw [fRp_look_98, if_neg (by rw [li24, nI_leI (by omega) (by omega)]; omega), li0]
    exact h.trans g2
theorem pRp_look57 {w : Nat → Nat} {n : Nat} {L : Nat → Int32} (hn : n ≤ 24) (hw : ∀ i, i < n → w i < 4 ∧ L i = nI (w i)) (a b c : Int32) (U : Nat → Int32) : ∀ (q p m : Nat) (S : Nat → Int32), p + q = n → q < m → (∀ k, k < 4 → S k = nI (stb w k p)) → ∃ S2 U2, UOK w n U2 ∧ fRp_look_57 (nI n) L m (nI p) (nI n) a b c S U = some (nI n, a, b, c, S2, U2) := by
  intro q
  induction q with
  | zero =>
    intro p m S h1 h2 h3
    obtain ⟨m, rfl⟩ : ∃ q, m = q + 1 := ⟨m - 1, by omega⟩
    have : p = n := by omega
    subst this
    obtain ⟨U2, g1, g2⟩ := pRp_look98 (w := w) hn (nI p) a b c h3 23 1 FU U rfl (by decide) (Nat.le_refl _) (fun e h5 h6 => absurd h6 (by omega))
    refine ⟨S, U2, UOK_of hn (fun i hi => (hw i hi).1) g1, ?_⟩
    rw [fRp_look_57, if_pos (by rw [nI_leI (by omega) (by omega)]; omega)]
    exact g2
  | succ q ih =>
    intro p m S h1 h2 h3
    obtain ⟨m, rfl⟩ : ∃ q, m = q + 1 := ⟨m - 1, by omega⟩
    obtain ⟨w4, wL⟩ := hw p (by omega)
    have hk : fRN_isKind (nI (w p)) = some (nI 1) := by
      simp (disch := omega) only [fRN_isKind, li0, li1, li4, nI_ltI, nI_leI, nI_eq, nI_add, pk_sub, pk_mul, pk_div, rd, rdL, wr, wrL, wrC, nI_clamp, bIn_nI, if_true, if_false, or_true, true_or, Option.bind_some, if_pos, if_neg, ↓pk_rem]
    obtain ⟨S2, U2, g1, g2⟩ := ih (p + 1) m (upd S (w p) (nI (stb w (w p) (p + 1)))) (by omega) (by omega) (fun k hk => by
      by_cases e : k = w p
      · rw [e, pk_us]
      · rw [pk_un e, h3 k hk, stb, if_neg (fun z => e z.symm)])
    refine ⟨S2, U2, g1, ?_⟩
    have e2 : stb w (w p) (p + 1) = stb w (w p) p ||| 2 ^ p := by rw [stb, if_pos rfl]
    rw [e2] at g2
    rw [fRp_look_57, if_neg (by rw [nI_leI (by omega) (by omega)]; omega), pSt_letter_in hn (by omega), Option.bind_some, wL, hk, Option.bind_some, if_neg (by decide), if_pos (bIn_nI (by omega) (by omega)), if_pos (bIn_nI (by omega) (by omega)), rd_nI (by omega), wr_nI (by omega), h3 _ (by omega), sh1 p (by omega), fo_or, nI_1]
    exact g2
theorem pRp_look37 {w : Nat → Nat} {n : Nat} {L : Nat → Int32} (hn : n ≤ 24) (hw : ∀ i, i < n → w i < 4 ∧ L i = nI (w i)) (a b c : Int32) (U : Nat → Int32) : ∀ (q p m : Nat) (S : Nat → Int32), p + q = 4 → q < m → (∀ k, k < p → S k = nI 0) → ∃ S2 U2, UOK w n U2 ∧ fRp_look_37 (nI n) L m (nI p) (nI n) a b c S U = some (nI n, a, b, c, S2, U2) := by
  intro q
  induction q with
  | zero =>
    intro p m S h1 h2 h3
    obtain ⟨m, rfl⟩ : ∃ q, m = q + 1 := ⟨m - 1, by omega⟩
    have : p = 4 := by omega
    subst this
    obtain ⟨S2, U2, g1, g2⟩ := pRp_look57 hn hw a b c U n 0 FU S (by omega) (by show _ < 1000000; omega) h3
    refine ⟨S2, U2, g1, ?_⟩
    rw [fRp_look_37, if_pos (by decide)]
    exact g2
  | succ q ih =>
    intro p m S h1 h2 h3
    obtain ⟨m, rfl⟩ : ∃ q, m = q + 1 := ⟨m - 1, by omega⟩
    obtain ⟨S2, U2, g1, g2⟩ := ih (p + 1) m (upd S p (nI 0)) (by omega) (by omega) (fun k hk => by
      by_cases e : k = p
      · rw [e, pk_us]
      · rw [pk_un e]; exact h3 k (by omega))
    refine ⟨S2, U2, g1, ?_⟩
    rw [fRp_look_37, if_neg (by rw [li4, nI_leI (by omega) (by omega)]; omega), if_pos (bIn_nI (by omega) (by omega)), wr_nI (by omega), nI_1]
    exact g2
/-- look -/
theorem pRp_look {w g : Nat → Nat} {n : Nat} {L S : Nat → Int32} (h : StOK n w g (nI n) L S) (T U : Nat → Int32) : ∃ T2 U2, UOK w n U2 ∧ fRp_look (nI n) L S T U = some (nI n, nI (g 1), nI (g 2), nI (g 3), T2, U2) := by
  obtain ⟨_, hn, hw, hS5, hg⟩ := h
  obtain ⟨S2, U2, g1, g2⟩ := pRp_look37 hn hw (nI (g 1)) (nI (g 2)) (nI (g 3)) U 4 0 FU T rfl (by decide) (fun k hk => absurd hk (by omega))
  refine ⟨S2, U2, g1, ?_⟩
  rw [fRp_look, li1, li2, li3, pSt_setting (by omega), pSt_setting (by omega), pSt_setting (by omega), hS5 1 (by omega), hS5 2 (by omega), hS5 3 (by omega), Option.bind_some, Option.bind_some, Option.bind_some, li0]
  exact g2
