/-! the items of a text, of class and model -/
abbrev RI : Type := Option (Int32 × Int32 × Int32 × Int32 × Int32 × Int32 × Int32 × Int32 × Int32 × A1r)
abbrev RM : Type := Option (Int32 × Int32 × Int32 × Int32 × Int32 × Int32 × Int32 × Int32 × Int32 × Int32 × Int32 × A1r × A1r × A1r × A1r)
def FltC (o : RI) (q r : Nat) : Prop := ∃ (a b c e f g h : Int32) (x : A1r), o = some (a, b, c, nI q, nI r, e, f, g, h, x)
def FltM (o : RM) (q r : Nat) : Prop := ∃ (a b c d e f g h : Int32) (ia la ow ti : A1r), o = some (0, a, b, c, d, e, f, g, h, nI q, nI r, ia, la, ow, ti)
theorem pRd_sign_any {m : Nat} {cc : Nat → Nat} {sg tx : Nat → Int32} (h : TT m cc sg tx) (a : Int32) : ∃ s, fRd_sign (nI m) a sg = some s := by
  rcases i_cases a with z | ⟨p, hp, rfl⟩
  · exact ⟨_, by rw [fRd_sign, if_pos z]⟩
  · exact ⟨_, pRd_sign h hp⟩
theorem flt89 {K : Int32 → Int32 → Int32 → Int32 → Int32 → Int32 → Int32 → Int32 → Int32 → Int32 → Int32 → A1r → RI} {x2 x3 x4 s0 at_ sz a b c d : Int32} {B : A1r} {q r : Nat} (hr : 0 < r) (hr2 : r < 10) : FltC (fRd_readItems_89 K x2 x3 x4 s0 at_ sz (nI q) (nI r) a b c d B) q r := by
  rw [fRd_readItems_89]
  by_cases z : s0 = 0
  · rw [if_pos z, fRd_hasFault, if_neg (nI_ne0 hr (by omega)), Option.bind_some, if_neg (by decide)]
    exact ⟨_, _, _, _, _, _, _, _, rfl⟩
  · rw [if_neg z]
    exact ⟨_, _, _, _, _, _, _, _, rfl⟩
theorem flt52 {m : Nat} {cc : Nat → Nat} {sg tx : Nat → Int32} (h : TT m cc sg tx) {K : Int32 → Int32 → Int32 → Int32 → Int32 → Int32 → Int32 → Int32 → Int32 → Int32 → Int32 → A1r → RI} {x1 x2 x3 x4 at_ sz a b c d : Int32} {B : A1r} {q r : Nat} (hr : 0 < r) (hr2 : r < 10) : FltC (fRd_readItems_52 (nI m) sg x1 K x2 x3 x4 at_ sz (nI q) (nI r) a b c d B) q r := by
  rw [fRd_readItems_52]
  by_cases z : x1 = 0
  · rw [if_pos z]
    by_cases z2 : at_ < nI m
    · rw [if_pos z2]; exact flt89 hr hr2
    · rw [if_neg z2]; exact flt89 hr hr2
  · obtain ⟨s, hs⟩ := pRd_sign_any h at_
    rw [if_neg z, hs, Option.bind_some]
    by_cases z2 : s = (41 : Int32)
    · rw [if_pos z2]; exact flt89 hr hr2
    · rw [if_neg z2]; exact flt89 hr hr2
theorem mflt {m N q r : Nat} {tx : Nat → Int32} {a b c d e f g h : Int32} {ia la ow ti : A1r} (hN : 1 ≤ N) : FltM (fMD_reads_49 (nI m) tx N (0 : Int32) a b c d e f g h (nI q) (nI r) ia la ow ti) q r := by
  obtain ⟨N, rfl⟩ : ∃ q, N = q + 1 := ⟨N - 1, by omega⟩
  rw [fMD_reads_49, if_pos rfl, fMD_reads_138, if_pos rfl]
  exact ⟨_, _, _, _, _, _, _, _, _, _, _, _, rfl⟩
/-- how a row of items ends: with a fault, or behind its last item -/
def OUT (m : Nat) (cc : Nat → Nat) (tx : A1r) (l start D p N : Nat) (pl rs : Int32) (ia la ti : A1r) (c : RI) (mo : RM) : Prop := (∃ q r, 0 < r ∧ r < 10 ∧ FltC c q r ∧ FltM mo q r) ∨ (∃ (most2 p2 size2 lt2 rp2 cr2 mc2 N2 : Nat) (lets2 ow2 ia2 la2 ti2 : A1r), c = some (nI most2, nI p2, nI size2, (0 : Int32), (0 : Int32), nI lt2, nI rp2, nI cr2, nI mc2, lets2) ∧ p < p2 ∧ p2 ≤ m ∧ start < size2 ∧ size2 ≤ start + 24 ∧ most2 ≤ p2 ∧ mc2 ≤ p2 ∧ (l = 0 → p2 = m) ∧ (0 < l → cc p2 = 41) ∧ Ag size2 lets2 ow2 ∧ N ≤ N2 + (p2 - p) ∧ (∀ i, i ≤ l → ia2 i = ia i ∧ la2 i = la i ∧ ti2 i = ti i) ∧ mo = fMD_reads_49 (nI m) tx N2 (1 : Int32) (nI p2) (nI size2) (nI l) (nI (max D (l + most2))) (nI lt2) (nI (rp2 + l)) (nI cr2) (nI mc2) pl rs ia2 la2 ow2 ti2)
theorem OUT_shift {m : Nat} {cc : Nat → Nat} {tx : A1r} {l start D p N p1 N1 : Nat} {pl rs : Int32} {ia la ti ia1 la1 ti1 : A1r} {c : RI} {mo : RM} (h : OUT m cc tx l start D p1 N1 pl rs ia1 la1 ti1 c mo) (hp : p < p1) (hN : N ≤ N1 + (p1 - p)) (ha : ∀ i, i ≤ l → ia1 i = ia i ∧ la1 i = la i ∧ ti1 i = ti i) : OUT m cc tx l start D p N pl rs ia la ti c mo := by
  rcases h with h | ⟨most2, p2, size2, lt2, rp2, cr2, mc2, N2, lets2, ow2, ia2, la2, ti2, h1, h2, h3, h4, h5, h6, h7, h8, h9, h10, h11, h12, h13⟩
  · exact Or.inl h
  · refine Or.inr ⟨most2, p2, size2, lt2, rp2, cr2, mc2, N2, lets2, ow2, ia2, la2, ti2, h1, by omega, h3, h4, h5, h6, h7, h8, h9, h10, by omega, fun i hi => ?_, h13⟩
    obtain ⟨a1, a2, a3⟩ := h12 i hi
    obtain ⟨b1, b2, b3⟩ := ha i hi
    exact ⟨a1.trans b1, a2.trans b2, a3.trans b3⟩
/-- the model: a sign that no item begins with -/
theorem pMD_bad {m p l start size : Nat} {cc : Nat → Nat} {sg tx : Nat → Int32} (h : TT m cc sg tx) (hp : p < m) (hc1 : ¬ (97 ≤ cc p ∧ cc p ≤ 100)) (hc2 : ¬ (49 ≤ cc p ∧ cc p ≤ 57)) (hl : l ≤ 30) (h41 : cc p = 41 → 0 < l → size = start) {N : Nat} {dM lt rM cr mc pl rs : Int32} {ia la ow ti : A1r} (hla : la l = nI start) (hN : 2 ≤ N) : FltM (fMD_reads_49 (nI m) tx N (1 : Int32) (nI p) (nI size) (nI l) dM lt rM cr mc pl rs ia la ow ti) p 1 := by
  have hm := h.1
  obtain ⟨N, rfl⟩ : ∃ q, N = q + 1 := ⟨N - 1, by omega⟩
  have h125 : ∀ (a b c d e f g hh : Int32) (X1 X2 X3 X4 : A1r) (pl rs : Int32), FltM (fMD_reads_125 (fMD_reads_49 (nI m) tx N) (nI p) a b c d e f g pl rs X1 X2 X3 X4) p 1 := by
    intro a b c d e f g hh X1 X2 X3 X4 pl rs
    rw [fMD_reads_125, fMD_faulty, Option.bind_some]
    exact mflt (r := 1) (by omega)
  rw [fMD_reads_49, if_neg (by decide), if_neg (nI_ge hp (by omega)), pMD_sign h (by omega), Option.bind_some, li97, li100, sgn_in (TT_b h p) (by omega) (by omega) (by omega), Option.bind_some, if_neg hc1, if_pos (show nI 0 = 0 from rfl), li49, li57, sgn_in (TT_b h p) (by omega) (by omega) (by omega), Option.bind_some, if_neg hc2, if_pos (show nI 0 = 0 from rfl)]
  by_cases c41 : cc p = 41
  · rw [if_pos (show sgx cc p = (41 : Int32) from (sgn_eq (x := 41) (TT_b h p) (by omega) (by omega)).mpr c41)]
    by_cases l0 : l = 0
    · rw [if_pos (show nI l ≤ 0 by rw [l0]; decide)]
      exact h125 _ _ _ _ _ _ _ 0 _ _ _ _ _ _
    · have hs := h41 c41 (by omega)
      rw [if_neg (nI_nle (by omega) (by omega)), fMD_endsBlock, if_pos (bIn_nI (by omega) (by omega)), if_pos (bIn_nI (by omega) (by omega)), if_pos (bIn_nI (by omega) (by omega)), rd_nI (by omega), hla, hs, if_pos (show nI start - nI start = 0 by rw [pk_sub (Nat.le_refl _), Nat.sub_self]; rfl), fMD_faulty, Option.bind_some, if_pos (Or.inl rfl), Option.bind_some]
      exact mflt (r := 1) (by omega)
  · rw [if_neg (show ¬ sgx cc p = (41 : Int32) from fun z => c41 ((sgn_eq (x := 41) (TT_b h p) (by omega) (by omega)).mp z))]
    exact h125 _ _ _ _ _ _ _ 0 _ _ _ _ _ _
/-- the class: a sign that no item begins with -/
theorem pRd_bad {m p : Nat} {cc : Nat → Nat} {sg tx : Nat → Int32} (h : TT m cc sg tx) (hp : p < 1000) (hc2 : ¬ (49 ≤ cc p ∧ cc p ≤ 57)) (G : Int32 → Int32 → Int32 → Int32 → Int32 → Int32 → Int32 → Int32 → Int32 → Int32 → Int32 → A1r → A1r → Int32 → RI) (sz lt rp cr mc dpI fsh x1 x2 : Int32) (lets : A1r) : fRd_readRepeat G (nI m) (nI p) sz (0 : Int32) (0 : Int32) lt rp cr mc dpI fsh lets sg x1 x2 = some ((0 : Int32), nI p, sz, nI p, nI 1, lt, rp, cr, mc, lets) := by
  have h24 : fRd_readRepeat_24 (nI p) sz (0 : Int32) (0 : Int32) lt rp cr mc lets = some ((0 : Int32), nI p, sz, nI p, nI 1, lt, rp, cr, mc, lets) := by
    rw [fRd_readRepeat_24, fRd_blame, if_pos rfl, Option.bind_some]
    rfl
  rw [fRd_readRepeat, pRd_sign h (by omega), Option.bind_some, sgn_dig (TT_b h p), Option.bind_some]
  by_cases d : dg cc p
  · obtain ⟨d1, d2⟩ := id d
    rw [if_pos d, if_neg (by decide), Option.bind_some, if_pos (show sgx cc p = (48 : Int32) from (sgn_eq (x := 48) (TT_b h p) (by omega) (by omega)).mpr (by omega)), h24]
  · rw [if_neg d, if_pos (by decide), h24]
/-- the model: what opens a block -/
theorem pMD_open7 {m p : Nat} {cc : Nat → Nat} {sg tx : Nat → Int32} (h : TT m cc sg tx) (hp : p < 1000) (hd : 49 ≤ cc p ∧ cc p ≤ 57) (ol dpt de re pl rs : Int32) (ia la ti : A1r) : fMD_opensBlock (nI m) ol tx (nI p) dpt de re pl rs ia la ti = fMD_opensBlock_57 (nI m) ol tx (nI p) (nI (nv cc p)) (nI (nx cc p)) dpt de re pl rs ia la ti := by
  obtain ⟨d1, d2⟩ := id hd
  have hB := TT_b h
  have hFU : ∃ N, FU = N + 1 + 1 + 1 := ⟨999997, rfl⟩
  obtain ⟨N, hN⟩ := hFU
  have e0 : (10 : Int32) * (0 : Int32) + nI (cc p) - (48 : Int32) = nI (cc p - 48) := by
    rw [li10, li0, li48, pk_mul, nI_add, pk_sub (by omega)]
    congr 1
    omega
  rw [fMD_opensBlock, hN, fMD_opensBlock_7, pMD_sign h (by omega), Option.bind_some, li48, li57, sgn_in (hB _) (by omega) (by omega) (by omega), Option.bind_some, if_pos (show 48 ≤ cc p ∧ cc p ≤ 57 by omega), if_neg (by decide), li2, nI_add, if_neg (nI_ge (by omega) (by omega)), Option.bind_some, sgn_n (by omega), ← li48, e0, nI_1, fMD_opensBlock_7, pMD_sign h (by omega), Option.bind_some, li48, li57, sgn_in (hB _) (by omega) (by omega) (by omega), Option.bind_some]
  unfold nv nx
  by_cases c : dg cc (p + 1)
  · obtain ⟨c1, c2⟩ := id c
    have e1 : (10 : Int32) * nI (cc p - 48) + nI (cc (p + 1)) - nI 48 = nI (10 * (cc p - 48) + (cc (p + 1) - 48)) := by
      rw [li10, pk_mul, nI_add, pk_sub (by omega)]
      congr 1
      omega
    rw [if_pos c, if_neg (by decide), li2, nI_add, if_neg (nI_ge (by omega) (by omega)), Option.bind_some, sgn_n (by omega), e1, nI_1, fMD_opensBlock_7, pMD_sign h (by omega), Option.bind_some, li48, li57, sgn_in (hB _) (by omega) (by omega) (by omega), Option.bind_some, if_pos (show cc p ≠ 48 ∧ dg cc (p + 1) from ⟨by omega, c⟩), if_pos (show cc p ≠ 48 ∧ dg cc (p + 1) from ⟨by omega, c⟩)]
    by_cases c3 : 48 ≤ cc (p + 1 + 1) ∧ cc (p + 1 + 1) ≤ 57
    · rw [if_pos c3, if_neg (by decide), li2, nI_add, if_pos (nI_le (by omega) (by omega))]
    · rw [if_neg c3, if_pos (by decide)]
  · rw [if_neg c, if_pos (by decide), if_neg (fun z => c z.2), if_neg (fun z => c z.2)]
set_option maxHeartbeats 4000000 in
theorem JI {m : Nat} {cc : Nat → Nat} {sg tx : Nat → Int32} (h : TT m cc sg tx) (dpI fsh pl rs : Int32) : ∀ (r p l j start turn most size lt rp cr mc D N1 N2 : Nat) (lets ow ia la ti : A1r), m - p ≤ r → p ≤ m → 2 * l + turn ≤ p → 31 ≤ j + l → ((turn = 0 ∧ size = start ∧ (l = 0 → p = 0)) ∨ (0 < turn ∧ start < size ∧ (l = 0 → p < m) ∧ (0 < l → cc p ≠ 41))) → start ≤ 24 * l → size ≤ start + 24 → most ≤ p → mc ≤ p → D ≤ 100 → (m - p) + 2 ≤ N1 → (m - p) + 2 ≤ N2 → la l = nI start → Ag size lets ow → OUT m cc tx l start D p N2 pl rs ia la ti (fRd_readItems_10 (fRd_readRepeat (fRd_readItems j)) (nI m) dpI fsh sg (nI l) N1 (nI start) (nI most) (nI turn) (nI p) (nI size) (0 : Int32) (0 : Int32) (nI lt) (nI rp) (nI cr) (nI mc) lets) (fMD_reads_49 (nI m) tx N2 (1 : Int32) (nI p) (nI size) (nI l) (nI (max D (l + most))) (nI lt) (nI (rp + l)) (nI cr) (nI mc) pl rs ia la ow ti) := by
  have hm := h.1
  have hB := TT_b h
  have hend : ∀ (p l j start turn most size lt rp cr mc D N1 N2 : Nat) (lets ow ia la ti : A1r), p = m → 2 * l + turn ≤ p → ((turn = 0 ∧ size = start ∧ (l = 0 → p = 0)) ∨ (0 < turn ∧ start < size ∧ (l = 0 → p < m) ∧ (0 < l → cc p ≠ 41))) → 1 ≤ N1 → 1 ≤ N2 → OUT m cc tx l start D p N2 pl rs ia la ti (fRd_readItems_10 (fRd_readRepeat (fRd_readItems j)) (nI m) dpI fsh sg (nI l) N1 (nI start) (nI most) (nI turn) (nI p) (nI size) (0 : Int32) (0 : Int32) (nI lt) (nI rp) (nI cr) (nI mc) lets) (fMD_reads_49 (nI m) tx N2 (1 : Int32) (nI p) (nI size) (nI l) (nI (max D (l + most))) (nI lt) (nI (rp + l)) (nI cr) (nI mc) pl rs ia la ow ti) := by
    intro p l j start turn most size lt rp cr mc D N1 N2 lets ow ia la ti hp h2 h4 h5 h6
    obtain ⟨N1, rfl⟩ : ∃ q, N1 = q + 1 := ⟨N1 - 1, by omega⟩
    obtain ⟨N2, rfl⟩ : ∃ q, N2 = q + 1 := ⟨N2 - 1, by omega⟩
    have hc0 := h.2.1 p (by omega)
    have ht60 : turn < 60 := by
      rcases h4 with ⟨q1, _, _⟩ | ⟨_, _, q3, _⟩
      · omega
      · by_cases l0 : l = 0
        · have := q3 l0; omega
        · omega
    have hp0 : l = 0 → m = 0 := by
      intro l0
      rcases h4 with ⟨_, _, q3⟩ | ⟨_, _, q3, _⟩
      · have := q3 l0; omega
      · have := q3 l0; omega
    left
    refine ⟨p, 1, by omega, by omega, ?_, ?_⟩
    · rw [fRd_readItems_10, if_neg (show ¬ (60 : Int32) ≤ nI turn from nI_ge (b := 60) (by omega) (by decide)), if_neg (show ¬ (30 : Int32) < nI l from nI_nlt (a := 30) (by omega) (by decide)), pRd_sign h (by omega), Option.bind_some, sgn_let (hB p), Option.bind_some, if_neg (show ¬ (97 ≤ cc p ∧ cc p ≤ 100) by omega), if_pos (show nI 0 = 0 from rfl), pRd_bad h (by omega) (by omega), Option.bind_some]
      exact flt52 h (by omega) (by omega)
    · have h156 : ∀ (a b c d e f g hh : Int32) (X1 X2 X3 X4 : A1r), FltM (fMD_reads_156 (nI m) a b c d e f g hh pl rs X1 X2 X3 X4) p 1 := by
        intro a b c d e f g hh X1 X2 X3 X4
        rw [fMD_reads_156, fMD_faulty, Option.bind_some, if_pos rfl, hp]
        exact ⟨_, _, _, _, _, _, _, _, _, _, _, _, rfl⟩
      rw [fMD_reads_49, if_neg (by decide), if_pos (nI_le (by omega) (by omega)), fMD_reads_138, if_neg (by decide)]
      by_cases l0 : l = 0
      · have hm0 : m = 0 := hp0 l0
        rw [if_neg (show ¬ (0 : Int32) < nI l by rw [l0]; decide), if_pos (show nI m = 0 by rw [hm0]; rfl)]
        exact h156 _ _ _ _ _ _ _ _ _ _ _ _
      · rw [if_pos (show (0 : Int32) < nI l from nI_lt (a := 0) (by omega) (by omega))]
        exact h156 _ _ _ _ _ _ _ _ _ _ _ _
  intro r
  induction r with
  | zero =>
    intro p l j start turn most size lt rp cr mc D N1 N2 lets ow ia la ti h0 h1 h2 h3 h4 h5 h6 h7 h8 h9 h10 h11 h12 h13
    exact hend p l j start turn most size lt rp cr mc D N1 N2 lets ow ia la ti (by omega) h2 h4 (by omega) (by omega)
  | succ r ih =>
    intro p l j start turn most size lt rp cr mc D N1 N2 lets ow ia la ti h0 h1 h2 h3 h4 h5 h6 h7 h8 h9 h10 h11 h12 h13
    by_cases hpm : p < m
    · obtain ⟨N1, rfl⟩ : ∃ q, N1 = q + 1 := ⟨N1 - 1, by omega⟩
      have hl30 : l ≤ 30 := by omega
      have hss : start ≤ size := by rcases h4 with ⟨_, e, _⟩ | ⟨_, e, _⟩ <;> omega
      have ht60 : turn < 60 := by omega
      have hcls : fRd_readItems_10 (fRd_readRepeat (fRd_readItems j)) (nI m) dpI fsh sg (nI l) (N1 + 1) (nI start) (nI most) (nI turn) (nI p) (nI size) (0 : Int32) (0 : Int32) (nI lt) (nI rp) (nI cr) (nI mc) lets = if nI (if 97 ≤ cc p ∧ cc p ≤ 100 then 1 else 0) = 0 then (fRd_readRepeat (fRd_readItems j) (nI m) (nI p) (nI size) (0 : Int32) (0 : Int32) (nI lt) (nI rp) (nI cr) (nI mc) dpI fsh lets sg (nI l) (nI start)).bind fun o9 => fRd_readItems_52 (nI m) sg (nI l) (fRd_readItems_10 (fRd_readRepeat (fRd_readItems j)) (nI m) dpI fsh sg (nI l) N1) (nI start) (if nI most < o9.1 then o9.1 else nI most) (nI turn) o9.2.1 o9.2.2.1 o9.2.2.2.1 o9.2.2.2.2.1 o9.2.2.2.2.2.1 o9.2.2.2.2.2.2.1 o9.2.2.2.2.2.2.2.1 o9.2.2.2.2.2.2.2.2.1 o9.2.2.2.2.2.2.2.2.2 else (fRd_readLetter (nI m) sg (nI p) (nI size) (0 : Int32) (0 : Int32) (nI lt) lets (nI start)).bind fun o10 => fRd_readItems_52 (nI m) sg (nI l) (fRd_readItems_10 (fRd_readRepeat (fRd_readItems j)) (nI m) dpI fsh sg (nI l) N1) (nI start) (nI most) (nI turn) o10.1 o10.2.1 o10.2.2.1 o10.2.2.2.1 o10.2.2.2.2.1 (nI rp) (nI cr) (nI mc) o10.2.2.2.2.2 := by
        rw [fRd_readItems_10, if_neg (show ¬ (60 : Int32) ≤ nI turn from nI_ge (b := 60) (by omega) (by decide)), if_neg (show ¬ (30 : Int32) < nI l from nI_nlt (a := 30) (by omega) (by decide)), pRd_sign h (by omega), Option.bind_some, sgn_let (hB p), Option.bind_some]
      rw [hcls]
      have hafter : ∀ (p2 most2 size2 lt2 rp2 cr2 mc2 N3 : Nat) (lets2 ow2 ia2 la2 ti2 : A1r), p < p2 → p2 ≤ m → start < size2 → size2 ≤ start + 24 → most2 ≤ p2 → mc2 ≤ p2 → Ag size2 lets2 ow2 → N2 ≤ N3 + (p2 - p) → (∀ i, i ≤ l → ia2 i = ia i ∧ la2 i = la i ∧ ti2 i = ti i) → OUT m cc tx l start D p N2 pl rs ia la ti (fRd_readItems_52 (nI m) sg (nI l) (fRd_readItems_10 (fRd_readRepeat (fRd_readItems j)) (nI m) dpI fsh sg (nI l) N1) (nI start) (nI most2) (nI turn) (nI p2) (nI size2) (0 : Int32) (0 : Int32) (nI lt2) (nI rp2) (nI cr2) (nI mc2) lets2) (fMD_reads_49 (nI m) tx N3 (1 : Int32) (nI p2) (nI size2) (nI l) (nI (max D (l + most2))) (nI lt2) (nI (rp2 + l)) (nI cr2) (nI mc2) pl rs ia2 la2 ow2 ti2) := by
        intro p2 most2 size2 lt2 rp2 cr2 mc2 N3 lets2 ow2 ia2 la2 ti2 a1 a2 a3 a4 a5 a6 a7 a8 a9
        have hgo : (l = 0 → p2 < m) → (0 < l → cc p2 ≠ 41) → OUT m cc tx l start D p N2 pl rs ia la ti (fRd_readItems_89 (fRd_readItems_10 (fRd_readRepeat (fRd_readItems j)) (nI m) dpI fsh sg (nI l) N1) (nI start) (nI most2) (nI turn) (0 : Int32) (nI p2) (nI size2) (0 : Int32) (0 : Int32) (nI lt2) (nI rp2) (nI cr2) (nI mc2) lets2) (fMD_reads_49 (nI m) tx N3 (1 : Int32) (nI p2) (nI size2) (nI l) (nI (max D (l + most2))) (nI lt2) (nI (rp2 + l)) (nI cr2) (nI mc2) pl rs ia2 la2 ow2 ti2) := by
          intro b1 b2
          rw [fRd_readItems_89, if_pos rfl, fRd_hasFault, if_pos rfl, Option.bind_some, if_pos rfl, nI_1]
          exact OUT_shift (ih p2 l j start (turn + 1) most2 size2 lt2 rp2 cr2 mc2 D N1 N3 lets2 ow2 ia2 la2 ti2 (by omega) a2 (by omega) h3 (Or.inr ⟨by omega, a3, b1, b2⟩) h5 a4 a5 a6 h9 (by omega) (by omega) ((a9 l (Nat.le_refl _)).2.1.trans h12) a7) a1 a8 a9
        have hstop : (l = 0 → p2 = m) → (0 < l → cc p2 = 41) → OUT m cc tx l start D p N2 pl rs ia la ti (fRd_readItems_89 (fRd_readItems_10 (fRd_readRepeat (fRd_readItems j)) (nI m) dpI fsh sg (nI l) N1) (nI start) (nI most2) (nI turn) (1 : Int32) (nI p2) (nI size2) (0 : Int32) (0 : Int32) (nI lt2) (nI rp2) (nI cr2) (nI mc2) lets2) (fMD_reads_49 (nI m) tx N3 (1 : Int32) (nI p2) (nI size2) (nI l) (nI (max D (l + most2))) (nI lt2) (nI (rp2 + l)) (nI cr2) (nI mc2) pl rs ia2 la2 ow2 ti2) := by
          intro b1 b2
          rw [fRd_readItems_89, if_neg (by decide)]
          exact Or.inr ⟨most2, p2, size2, lt2, rp2, cr2, mc2, N3, lets2, ow2, ia2, la2, ti2, rfl, a1, a2, a3, a4, a5, a6, b1, b2, a7, a8, a9, rfl⟩
        rw [fRd_readItems_52]
        by_cases l0 : l = 0
        · rw [if_pos (show nI l = 0 by rw [l0]; rfl)]
          by_cases z : p2 < m
          · rw [if_pos (nI_lt z (by omega))]
            exact hgo (fun _ => z) (fun q => by omega)
          · rw [if_neg (nI_nlt (by omega) (by omega))]
            exact hstop (fun _ => by omega) (fun q => by omega)
        · rw [if_neg (nI_ne0 (by omega) (by omega)), pRd_sign h (by omega), Option.bind_some]
          by_cases z : cc p2 = 41
          · rw [if_pos (show sgx cc p2 = (41 : Int32) from (sgn_eq (x := 41) (hB p2) (by omega) (by omega)).mpr z)]
            exact hstop (fun q => absurd q l0) (fun _ => z)
          · rw [if_neg (show ¬ sgx cc p2 = (41 : Int32) from fun q => z ((sgn_eq (x := 41) (hB p2) (by omega) (by omega)).mp q))]
            exact hgo (fun q => absurd q l0) (fun _ => z)
      by_cases cl : 97 ≤ cc p ∧ cc p ≤ 100
      · -- a letter
        obtain ⟨N2, rfl⟩ : ∃ q, N2 = q + 1 := ⟨N2 - 1, by omega⟩
        have hmod : fMD_reads_49 (nI m) tx (N2 + 1) (1 : Int32) (nI p) (nI size) (nI l) (nI (max D (l + most))) (nI lt) (nI (rp + l)) (nI cr) (nI mc) pl rs ia la ow ti = (fMD_readsLetter (nI m) (nI l) la tx (nI p) (nI size) (nI lt) pl rs ow).bind fun o12 => fMD_reads_49 (nI m) tx N2 o12.1 o12.2.1 o12.2.2.1 (nI l) (nI (max D (l + most))) o12.2.2.2.1 (nI (rp + l)) (nI cr) (nI mc) o12.2.2.2.2.1 o12.2.2.2.2.2.1 ia la o12.2.2.2.2.2.2 ti := by
          rw [fMD_reads_49, if_neg (by decide), if_neg (nI_ge hpm (by omega)), pMD_sign h (by omega), Option.bind_some, li97, li100, sgn_in (hB p) (by omega) (by omega) (by omega), Option.bind_some, if_pos cl, if_neg (by decide)]
        rw [if_pos cl, if_neg (by decide), hmod, fMD_readsLetter, if_pos (bIn_nI (by omega) (by omega)), rd_nI (by omega), h12, pk_sub (by omega), fRd_readLetter, pk_sub (by omega)]
        by_cases cs : size - start < 24
        · rw [if_pos (show nI (size - start) < (24 : Int32) from nI_lt (b := 24) cs (by decide)), if_neg (show ¬ nI (size - start) = (24 : Int32) from fun z => by have := (nI_eq (b := 24) (by omega) (by omega)).mp z; omega), pRd_sign h (by omega), pMD_sign h (by omega), Option.bind_some, Option.bind_some, sgn_n (by omega), li97, pk_sub cl.1, pRd_put (by omega), Option.bind_some, Option.bind_some, if_pos (bIn_nI (by omega) (by omega)), wr_nI (by omega), Option.bind_some]
          dsimp only
          rw [nI_1, nI_1, nI_1]
          exact hafter (p + 1) most (size + 1) (lt + 1) rp cr mc N2 _ _ ia la ti (by omega) (by omega) (by omega) (by omega) (by omega) (by omega) (Ag_push h13 (by omega)) (by omega) (fun i _ => ⟨rfl, rfl, rfl⟩)
        · rw [if_neg (show ¬ nI (size - start) < (24 : Int32) from nI_nlt (b := 24) (by omega) (by omega)), if_pos (show nI (size - start) = (24 : Int32) by rw [show size - start = 24 by omega]; rfl), fMD_faulty, Option.bind_some, if_pos (Or.inl rfl), Option.bind_some, fRd_blame, if_pos rfl, Option.bind_some, Option.bind_some]
          dsimp only
          rw [li4]
          exact Or.inl ⟨p, 4, by omega, by omega, flt52 h (by omega) (by omega), mflt (by omega)⟩
      · rw [if_neg cl, if_pos (show nI 0 = 0 from rfl)]
        by_cases cd : 49 ≤ cc p ∧ cc p ≤ 57
        · -- a repeat
          have hdg : dg cc p := ⟨by omega, cd.2⟩
          have hv := nv_lt hdg
          obtain ⟨nb1, nb2⟩ := nx_b (cc := cc) (p := p)
          have hxm := nx_m h hpm
          obtain ⟨N2, rfl⟩ : ∃ q, N2 = q + 1 := ⟨N2 - 1, by omega⟩
          obtain ⟨j, rfl⟩ : ∃ q, j = q + 1 := ⟨j - 1, by omega⟩
          have hmod : fMD_reads_49 (nI m) tx (N2 + 1) (1 : Int32) (nI p) (nI size) (nI l) (nI (max D (l + most))) (nI lt) (nI (rp + l)) (nI cr) (nI mc) pl rs ia la ow ti = (fMD_opensBlock_57 (nI m) (nI size) tx (nI p) (nI (nv cc p)) (nI (nx cc p)) (nI l) (nI (max D (l + most))) (nI (rp + l)) pl rs ia la ti).bind fun o11 => fMD_reads_49 (nI m) tx N2 o11.1 o11.2.1 (nI size) o11.2.2.1 o11.2.2.2.1 (nI lt) o11.2.2.2.2.1 (nI cr) (nI mc) o11.2.2.2.2.2.1 o11.2.2.2.2.2.2.1 o11.2.2.2.2.2.2.2.1 o11.2.2.2.2.2.2.2.2.1 ow o11.2.2.2.2.2.2.2.2.2 := by
            rw [fMD_reads_49, if_neg (by decide), if_neg (nI_ge hpm (by omega)), pMD_sign h (by omega), Option.bind_some, li97, li100, sgn_in (hB p) (by omega) (by omega) (by omega), Option.bind_some, if_neg cl, if_pos (show nI 0 = 0 from rfl), li49, li57, sgn_in (hB p) (by omega) (by omega) (by omega), Option.bind_some, if_pos cd, if_neg (by decide), pMD_open7 h (by omega) cd]
          obtain ⟨X, hX⟩ : ∃ X, X = nx cc p := ⟨_, rfl⟩
          obtain ⟨V, hV⟩ : ∃ V, V = nv cc p := ⟨_, rfl⟩
          rw [← hX] at nb1 nb2 hxm hmod
          rw [← hV] at hv hmod
          have hrn := pRd_readNumber h (show p < 1000 by omega) hdg
          rw [← hX, ← hV] at hrn
          rw [hmod, fMD_opensBlock_57, li40, pMD_takes h (by omega) (by omega) (by omega), fRd_readRepeat, pRd_sign h (by omega), Option.bind_some, sgn_dig (hB p), Option.bind_some, if_pos hdg, if_neg (by decide), Option.bind_some, if_neg (show ¬ sgx cc p = (48 : Int32) from fun z => by have := (sgn_eq (x := 48) (hB p) (by omega) (by omega)).mp z; omega), hrn, Option.bind_some]
          dsimp only
          rw [li40, pRd_reads h (by omega) (by omega) (by omega)]
          by_cases c40 : cc X = 40
          · have hXm := TT_lt h (p := X) (by omega)
            rw [if_pos c40, if_pos c40, Option.bind_some, Option.bind_some]
            dsimp only
            rw [if_neg (show ¬ (1 : Int32) = 0 by decide), if_neg (show ¬ (1 : Int32) = 0 by decide), fMD_in]
            have h65 : ∀ (a b c d e f : Int32) (B : A1r), fRd_readRepeat_65 (nI p) a b (0 : Int32) (0 : Int32) c d e f B = some ((0 : Int32), a, b, nI p, nI 2, c, d, e, f, B) := by
              intro a b c d e f B
              rw [fRd_readRepeat_65, fRd_blame, if_pos rfl, Option.bind_some]
              rfl
            have hbadN : FltM ((((fMD_faulty (nI p) (2 : Int32)).bind fun o6 => if o6.1 = 0 ∨ o6.1 = 1 then some (o6.1, nI (X + 1), nI l, nI (max D (l + most)), nI (rp + l), o6.2.1, o6.2.2, ia, la, ti) else none)).bind fun o11 => fMD_reads_49 (nI m) tx N2 o11.1 o11.2.1 (nI size) o11.2.2.1 o11.2.2.2.1 (nI lt) o11.2.2.2.2.1 (nI cr) (nI mc) o11.2.2.2.2.2.1 o11.2.2.2.2.2.2.1 o11.2.2.2.2.2.2.2.1 o11.2.2.2.2.2.2.2.2.1 ow o11.2.2.2.2.2.2.2.2.2) p 2 := by
              rw [fMD_faulty, Option.bind_some, if_pos (Or.inl rfl), Option.bind_some]
              exact mflt (r := 2) (by omega)
            by_cases v2 : V < 2
            · rw [if_pos (show nI V < (2 : Int32) from nI_lt (b := 2) v2 (by decide)), if_pos (show nI V < (2 : Int32) from nI_lt (b := 2) v2 (by decide)), Option.bind_some, if_pos rfl, h65, Option.bind_some]
              exact Or.inl ⟨p, 2, by omega, by omega, flt52 h (by omega) (by omega), hbadN⟩
            · rw [if_neg (show ¬ nI V < (2 : Int32) from nI_nlt (b := 2) (by omega) (by omega)), if_neg (show ¬ nI V < (2 : Int32) from nI_nlt (b := 2) (by omega) (by omega))]
              by_cases v24 : 24 < V
              · rw [if_pos (show (24 : Int32) < nI V from nI_lt (a := 24) v24 (by omega)), if_neg (show ¬ nI V ≤ (24 : Int32) from nI_ge (a := 24) v24 (by omega)), Option.bind_some, if_pos rfl, h65, Option.bind_some]
                exact Or.inl ⟨p, 2, by omega, by omega, flt52 h (by omega) (by omega), hbadN⟩
              · rw [if_neg (show ¬ (24 : Int32) < nI V from nI_nlt (a := 24) (by omega) (by decide)), if_pos (show nI V ≤ (24 : Int32) from nI_le (b := 24) (by omega) (by decide)), Option.bind_some, if_neg (by decide)]
                have h118 : (if (nI l + (1 : Int32)) ≤ nI (max D (l + most)) then fMD_opensBlock_118 (nI size) (nI p) (nI V) (nI (max D (l + most))) (nI (X + 1)) (nI l + (1 : Int32)) (nI (max D (l + most))) (nI (rp + l)) pl rs ia la ti else fMD_opensBlock_118 (nI size) (nI p) (nI V) (nI l + (1 : Int32)) (nI (X + 1)) (nI l + (1 : Int32)) (nI (max D (l + most))) (nI (rp + l)) pl rs ia la ti) = some ((1 : Int32), nI (X + 1), nI (l + 1), nI (max (max (max D (l + most)) (l + 1)) (l + 1 + 0)), nI (rp + (l + 1)), pl, rs, upd ia (l + 1) (nI p), upd la (l + 1) (nI size), upd ti (l + 1) (nI V)) := by
                  have h118' : ∀ s1, fMD_opensBlock_118 (nI size) (nI p) (nI V) s1 (nI (X + 1)) (nI (l + 1)) (nI (max D (l + most))) (nI (rp + l)) pl rs ia la ti = some ((1 : Int32), nI (X + 1), nI (l + 1), s1, nI (rp + (l + 1)), pl, rs, upd ia (l + 1) (nI p), upd la (l + 1) (nI size), upd ti (l + 1) (nI V)) := by
                    intro s1
                    rw [fMD_opensBlock_118, if_pos (bIn_nI (by omega) (by omega)), if_pos (bIn_nI (by omega) (by omega)), if_pos (bIn_nI (by omega) (by omega)), nI_1, wr_nI (by omega), wr_nI (by omega), wr_nI (by omega)]
                    rfl
                  rw [nI_1]
                  by_cases z : l + 1 ≤ max D (l + most)
                  · rw [if_pos (nI_le z (by omega)), h118', show max (max (max D (l + most)) (l + 1)) (l + 1 + 0) = max D (l + most) by omega]
                  · rw [if_neg (nI_ge (by omega) (by omega)), h118', show max (max (max D (l + most)) (l + 1)) (l + 1 + 0) = l + 1 by omega]
                have hrd : fRd_readItems (j + 1) (nI m) (nI (X + 1)) (nI size) (0 : Int32) (0 : Int32) (nI lt) (nI rp) (nI cr) (nI mc) dpI fsh lets sg (nI (l + 1)) = fRd_readItems_10 (fRd_readRepeat (fRd_readItems j)) (nI m) dpI fsh sg (nI (l + 1)) FU (nI size) (nI 0) (nI 0) (nI (X + 1)) (nI size) (0 : Int32) (0 : Int32) (nI lt) (nI rp) (nI cr) (nI mc) lets := rfl
                have hblk := ih (X + 1) (l + 1) j size 0 0 size lt rp cr mc (max (max D (l + most)) (l + 1)) FU N2 lets ow (upd ia (l + 1) (nI p)) (upd la (l + 1) (nI size)) (upd ti (l + 1) (nI V)) (by omega) (by omega) (by omega) (by omega) (Or.inl ⟨rfl, rfl, fun z => by omega⟩) (by omega) (by omega) (by omega) (by omega) (by omega) (by show _ ≤ 1000000; omega) (by omega) pk_us h13
                rw [h118, Option.bind_some, nI_1, hrd]
                dsimp only
                rcases hblk with ⟨q, rr, z1, z2, z3, z4⟩ | ⟨most1, p1, size1, lt1, rp1, cr1, mc1, N3, lets1, ow1, ia1, la1, ti1, b1, b2, b3, b4, b5, b6, b7, b8, b9, b10, b11, b12, b13⟩
                · obtain ⟨y1, y2, y3, y4, y5, y6, y7, y8, y9⟩ := z3
                  rw [y9, Option.bind_some]
                  dsimp only
                  rw [fRd_hasFault, if_neg (nI_ne0 z1 (by omega)), Option.bind_some, if_neg (by decide), Option.bind_some]
                  exact Or.inl ⟨q, rr, z1, z2, flt52 h z1 z2, z4⟩
                · have c41 := b9 (by omega)
                  have hp1m := TT_lt h (p := p1) (by omega)
                  obtain ⟨N3, rfl⟩ : ∃ q, N3 = q + 1 := ⟨N3 - 1, by omega⟩
                  obtain ⟨f1, f2, f3⟩ := b12 (l + 1) (Nat.le_refl _)
                  obtain ⟨f4, f5, f6⟩ := b12 l (by omega)
                  have f1' : ia1 (l + 1) = nI p := f1.trans pk_us
                  have f2' : la1 (l + 1) = nI size := f2.trans pk_us
                  have f3' : ti1 (l + 1) = nI V := f3.trans pk_us
                  have f5' : la1 l = nI start := by rw [f5, pk_un (by omega)]; exact h12
                  have harr : ∀ i, i ≤ l → ia1 i = ia i ∧ la1 i = la i ∧ ti1 i = ti i := fun i hi => by
                    obtain ⟨u1, u2, u3⟩ := b12 i (by omega)
                    rw [u1, u2, u3, pk_un (by omega), pk_un (by omega), pk_un (by omega)]
                    exact ⟨rfl, rfl, rfl⟩
                  obtain ⟨n, hn⟩ : ∃ n, size1 = size + n := ⟨size1 - size, by omega⟩
                  subst hn
                  have hmod2 : fMD_reads_49 (nI m) tx (N3 + 1) (1 : Int32) (nI p1) (nI (size + n)) (nI (l + 1)) (nI (max (max (max D (l + most)) (l + 1)) (l + 1 + most1))) (nI lt1) (nI (rp1 + (l + 1))) (nI cr1) (nI mc1) pl rs ia1 la1 ow1 ti1 = (fMD_endsBlock (nI m) ia1 la1 tx ti1 (nI p1) (nI (size + n)) (nI (l + 1)) (nI cr1) (nI mc1) pl rs ow1).bind fun o10 => fMD_reads_49 (nI m) tx N3 o10.1 o10.2.1 o10.2.2.1 o10.2.2.2.1 (nI (max (max (max D (l + most)) (l + 1)) (l + 1 + most1))) (nI lt1) (nI (rp1 + (l + 1))) o10.2.2.2.2.1 o10.2.2.2.2.2.1 o10.2.2.2.2.2.2.1 o10.2.2.2.2.2.2.2.1 ia1 la1 o10.2.2.2.2.2.2.2.2 ti1 := by
                    rw [fMD_reads_49, if_neg (by decide), if_neg (nI_ge hp1m (by omega)), pMD_sign h (by omega), Option.bind_some, li97, li100, sgn_in (hB p1) (by omega) (by omega) (by omega), Option.bind_some, if_neg (show ¬ (97 ≤ cc p1 ∧ cc p1 ≤ 100) by omega), if_pos (show nI 0 = 0 from rfl), li49, li57, sgn_in (hB p1) (by omega) (by omega) (by omega), Option.bind_some, if_neg (show ¬ (49 ≤ cc p1 ∧ cc p1 ≤ 57) by omega), if_pos (show nI 0 = 0 from rfl), if_pos (show sgx cc p1 = (41 : Int32) from (sgn_eq (x := 41) (hB p1) (by omega) (by omega)).mpr c41), if_neg (nI_nle (by omega) (by omega))]
                  have hnV : n * 1 ≤ n * V := Nat.mul_le_mul_left _ (by omega)
                  have hnV2 : n * V ≤ 24 * 24 := Nat.mul_le_mul (by omega) (by omega)
                  rw [b13, b1, Option.bind_some]
                  dsimp only
                  rw [hmod2, fRd_hasFault, if_pos rfl, Option.bind_some, if_pos rfl, li41, pRd_reads h (by omega) (by omega) (by omega), if_pos c41, Option.bind_some]
                  dsimp only
                  rw [if_neg (by decide), pk_sub (by omega), pk_sub (by omega), show size + n - size = n by omega, pk_mul, nI_add, fMD_endsBlock, if_pos (bIn_nI (by omega) (by omega)), if_pos (bIn_nI (by omega) (by omega)), if_pos (bIn_nI (by omega) (by omega)), rd_nI (by omega), rd_nI (by omega), rd_nI (by omega), f2', f1', f3', pk_sub (by omega), show size + n - size = n by omega, if_neg (nI_ne0 (by omega) (by omega)), li1, pk_sub (by omega), show l + 1 - 1 = l by omega, if_pos (bIn_nI (by omega) (by omega)), rd_nI (by omega), f5', pk_sub (by omega), pk_mul, nI_add (size - start) (n * V)]
                  by_cases c24 : size - start + n * V ≤ 24
                  · rw [if_pos (show nI (size - start + n * V) ≤ (24 : Int32) from nI_le (b := 24) c24 (by decide)), if_pos (show nI (size - start + n * V) ≤ (24 : Int32) from nI_le (b := 24) c24 (by decide)), pRd_unfold (by omega) (by omega) (by omega), Option.bind_some]
                    dsimp only
                    have e103 := pMD_103 (A := ow1) (tx := tx) (m := m) (be := size) (n := n) (T := V) (by omega) (by omega) (by omega) (nI (p1 + 1)) (nI (size + n)) (nI l) (nI cr1) (nI mc1) pl rs (n * V - n) n FU (by omega) (by show _ < 1000000; omega) (Nat.le_refl _)
                    rw [ufd_n] at e103
                    have hAg : Ag (size + n * V) (ufd lets1 size n (n * V)) (ufd ow1 size n (n * V)) := by
                      intro i hi
                      unfold ufd
                      by_cases z : size + n ≤ i ∧ i < size + n * V
                      · rw [if_pos z, if_pos z]
                        have := Nat.mod_lt (i - size) (show 0 < n by omega)
                        exact b10 _ (by omega)
                      · rw [if_neg z, if_neg z]
                        exact b10 i (by omega)
                    have hjc := JC2 h (show 1 ≤ n by omega) (show n * V ≤ 24 by omega) (by omega) (show size + n * V ≤ 744 by omega) (nI (size + n * V)) (nI l) pl rs cr1 mc1 (by omega) m (p1 + 1) 0 (n - 1) FU FU (-1) (ufd lets1 size n (n * V)) (ufd ow1 size n (n * V)) (by omega) (by omega) (by omega) (by show _ < 1000000; omega) (by show _ < 1000000; omega) (Or.inl ⟨rfl, by omega⟩) (fun i hi hi2 => by
                      have hmod := Nat.mod_lt i (show 0 < n by omega)
                      obtain ⟨a, u1, u2, u3⟩ := b10 (size + i % n) (by omega)
                      refine ⟨a, u1, ?_, ?_⟩
                      · unfold ufd
                        rw [if_pos (by omega), show size + i - size = i by omega]
                        exact u2
                      · unfold ufd
                        rw [if_neg (by omega)]
                        exact u3) hAg
                    rw [Nat.add_zero cr1, ← li0] at hjc
                    rw [← li0] at e103
                    have hn1 : nI n - (1 : Int32) = nI (n - 1) := pk_sub (a := n) (b := 1) (by omega)
                    have hn1' : nI n - nI 1 = nI (n - 1) := pk_sub (a := n) (b := 1) (by omega)
                    rw [nI_add p1 1, e103, fRd_readCorrections, hn1]
                    rcases hjc with ⟨q, rr, x1, x2, x3, x4, y1, y2, y3, y4, y5, y6, g1, g2, g3, g4⟩ | ⟨p2, many2, lets2, own2, g1, g2, g3, g4, g5, g6⟩
                    · rw [g3, g4, Option.bind_some, Option.bind_some, Option.bind_some]
                      dsimp only
                      exact Or.inl ⟨q, rr, g1, g2, flt52 h g1 g2, mflt (by omega)⟩
                    · rw [g5, g6, Option.bind_some, Option.bind_some, Option.bind_some]
                      dsimp only
                      rw [nI_add, nI_add, ifmax (by omega) (by omega), show max (max (max D (l + most)) (l + 1)) (l + 1 + most1) = max D (l + max most (1 + most1)) by omega, show rp1 + (l + 1) = rp1 + 1 + l by omega]
                      exact hafter p2 (max most (1 + most1)) (size + n * V) lt1 (rp1 + 1) (cr1 + many2) (max mc1 many2) N3 lets2 own2 ia1 la1 ti1 (by omega) g2 (by omega) (by omega) (by omega) (by omega) g4 (by omega) harr
                  · rw [if_neg (show ¬ nI (size - start + n * V) ≤ (24 : Int32) from nI_ge (a := 24) (by omega) (by omega)), if_neg (show ¬ nI (size - start + n * V) ≤ (24 : Int32) from nI_ge (a := 24) (by omega) (by omega)), fRd_blame, if_pos rfl, Option.bind_some, Option.bind_some, fMD_faulty, Option.bind_some, if_pos (Or.inl rfl), Option.bind_some]
                    dsimp only
                    exact Or.inl ⟨p, 4, by omega, by omega, flt52 (r := 4) h (by omega) (by omega), mflt (r := 4) (by omega)⟩
          · rw [if_neg c40, if_neg c40, Option.bind_some, Option.bind_some]
            dsimp only
            rw [if_pos rfl, if_pos rfl, Option.bind_some, Option.bind_some]
            dsimp only
            exact Or.inl ⟨X, 1, by omega, by omega, flt52 (r := 1) h (by omega) (by omega), mflt (r := 1) (by omega)⟩
        · rw [pRd_bad h (by omega) cd, Option.bind_some]
          refine Or.inl ⟨p, 1, by omega, by omega, flt52 h (by omega) (by omega), pMD_bad h hpm cl cd hl30 (fun z1 z2 => ?_) h12 (by omega)⟩
          rcases h4 with ⟨q1, q2, q3⟩ | ⟨q1, q2, q3, q4⟩
          · exact q2
          · exact absurd z1 (q4 z2)
    · exact hend p l j start turn most size lt rp cr mc D N1 N2 lets ow ia la ti (by omega) h2 h4 (by omega) (by omega)
