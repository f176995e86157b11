/-! unfolding, the corrections of a repeat -/
def ufd (A : Nat → Int32) (be n K : Nat) : Nat → Int32 := fun j => if be + n ≤ j ∧ j < be + K then A (be + (j - be) % n) else A j
theorem ufd_n {A : Nat → Int32} {be n : Nat} : ufd A be n n = A := by
  funext j
  unfold ufd
  rw [if_neg (by omega)]
theorem ufd_s {A : Nat → Int32} {be n k : Nat} (hn : 1 ≤ n) (hk : n ≤ k) : upd (ufd A be n k) (be + k) (ufd A be n k (be + k - n)) = ufd A be n (k + 1) := by
  funext j
  by_cases c : j = be + k
  · subst c
    rw [pk_us]
    unfold ufd
    rw [if_pos (show be + n ≤ be + k ∧ be + k < be + (k + 1) by omega), show be + k - be = k by omega, Nat.mod_eq_sub_mod hk]
    by_cases c2 : be + n ≤ be + k - n ∧ be + k - n < be + k
    · rw [if_pos c2, show be + k - n - be = k - n by omega]
    · rw [if_neg c2, Nat.mod_eq_of_lt (by omega), show be + k - n = be + (k - n) by omega]
  · rw [pk_un c]
    unfold ufd
    by_cases c2 : be + n ≤ j ∧ j < be + k
    · rw [if_pos c2, if_pos (by omega)]
    · rw [if_neg c2, if_neg (by omega)]
theorem pRd_unfold10 {A : Nat → Int32} {be n K : Nat} (hn : 1 ≤ n) (h : be + K ≤ 744) (sz : Int32) : ∀ (q k N : Nat), k + q = K → q < N → n ≤ k → fRd_unfold_10 (nI be) (nI K) N (nI n) (nI k) sz (ufd A be n k) = some (nI (be + K), ufd A be n K) := by
  intro q
  induction q with
  | zero =>
    intro k N h1 h2 h3
    obtain ⟨N, rfl⟩ : ∃ q, N = q + 1 := ⟨N - 1, by omega⟩
    have : k = K := by omega
    subst this
    rw [fRd_unfold_10, if_pos (nI_le (Nat.le_refl _) (by omega)), nI_add]
  | succ q ih =>
    intro k N h1 h2 h3
    obtain ⟨N, rfl⟩ : ∃ q, N = q + 1 := ⟨N - 1, by omega⟩
    rw [fRd_unfold_10, if_neg (nI_ge (by omega) (by omega)), nI_add, pk_sub (by omega), pRd_letter (by omega), Option.bind_some, pRd_put (by omega), Option.bind_some, nI_1, ufd_s hn h3]
    exact ih (k + 1) N (by omega) (by omega) (by omega)
theorem pRd_unfold {A : Nat → Int32} {be n K : Nat} (hn : 1 ≤ n) (hK : n ≤ K) (h : be + K ≤ 744) : fRd_unfold (nI (be + n)) A (nI be) (nI K) = some (nI (be + K), ufd A be n K) := by
  rw [fRd_unfold, pk_sub (by omega), show be + n - be = n by omega]
  have e := pRd_unfold10 (A := A) hn h (nI (be + n)) (K - n) n FU (by omega) (by show _ < 1000000; omega) (Nat.le_refl _)
  rw [ufd_n] at e
  exact e
theorem pMD_103 {A tx : Nat → Int32} {m be n T : Nat} (hn : 1 ≤ n) (h : be + n * T ≤ 744) (hbn : n ≤ 24) (at_ ol dp_ co mo pl rs : Int32) : ∀ (q k N : Nat), k + q = n * T → q < N → n ≤ k → fMD_endsBlock_103 (nI m) tx N (nI be) (nI n) (nI T) (nI k) at_ ol dp_ co mo pl rs (ufd A be n k) = fMD_endsBlock_152 (nI m) tx FU (nI be) (nI n) (nI T) (nI 0) (-1) at_ (nI (be + n * T)) dp_ co mo pl rs (ufd A be n (n * T)) := by
  intro q
  induction q with
  | zero =>
    intro k N h1 h2 h3
    obtain ⟨N, rfl⟩ : ∃ q, N = q + 1 := ⟨N - 1, by omega⟩
    have : k = n * T := by omega
    subst this
    rw [fMD_endsBlock_103, pk_mul, if_pos (nI_le (Nat.le_refl _) (by omega)), nI_add]
    rfl
  | succ q ih =>
    intro k N h1 h2 h3
    obtain ⟨N, rfl⟩ : ∃ q, N = q + 1 := ⟨N - 1, by omega⟩
    rw [fMD_endsBlock_103, pk_mul, if_neg (nI_ge (by omega) (by omega)), nI_add, pk_sub (by omega), if_pos (bIn_nI (by omega) (by omega)), if_pos (bIn_nI (by omega) (by omega)), rd_nI (by omega), wr_nI (by omega), nI_1, ufd_s hn h3]
    exact ih (k + 1) N (by omega) (by omega) (by omega)
abbrev R6 : Type := Option (Int32 × Int32 × Int32 × Int32 × Int32 × A1r)
abbrev R9 : Type := Option (Int32 × Int32 × Int32 × Int32 × Int32 × Int32 × Int32 × Int32 × A1r)
set_option maxHeartbeats 1000000 in
theorem JC2 {m be n T : Nat} {cc : Nat → Nat} {sg tx : Nat → Int32} (h : TT m cc sg tx) (hn : 1 ≤ n) (hT : n * T ≤ 24) (hnT : n ≤ n * T) (hbe : be + n * T ≤ 744) (ol dep pl rs : Int32) (c0 mc : Nat) (hmc : mc ≤ 100) : ∀ (r p many lst N1 N2 : Nat) (x6 : Int32) (lets own : Nat → Int32), m - p ≤ r → p ≤ m → many ≤ p → r < N1 → r < N2 → ((x6 = -1 ∧ lst + 1 = n) ∨ (x6 = nI lst ∧ n ≤ lst ∧ lst < n * T)) → (∀ i, lst < i → i < n * T → ∃ a : Nat, a < 4 ∧ lets (be + i) = nI a ∧ own (be + i % n) = nI a) → Ag (be + n * T) lets own → (∃ q r x1 x2 x3 x4 y1 y2 y3 y4 y5 y6, 0 < r ∧ r < 10 ∧ fRd_readCorrections_7 (nI m) (nI (be + n * T)) sg (nI be) N1 (nI many) (nI lst) (nI p) (0 : Int32) (0 : Int32) (nI c0) (nI mc) lets = some (x1, nI q, nI r, x2, x3, x4) ∧ fMD_endsBlock_152 (nI m) tx N2 (nI be) (nI n) (nI T) (nI many) x6 (nI p) ol dep (nI (c0 + many)) (nI mc) pl rs own = some (0, y1, y2, y3, y4, y5, nI q, nI r, y6)) ∨ (∃ p2 many2 lets2 own2, p ≤ p2 ∧ p2 ≤ m ∧ many2 ≤ p2 ∧ Ag (be + n * T) lets2 own2 ∧ fRd_readCorrections_7 (nI m) (nI (be + n * T)) sg (nI be) N1 (nI many) (nI lst) (nI p) (0 : Int32) (0 : Int32) (nI c0) (nI mc) lets = some (nI p2, (0 : Int32), (0 : Int32), nI (c0 + many2), nI (max mc many2), lets2) ∧ fMD_endsBlock_152 (nI m) tx N2 (nI be) (nI n) (nI T) (nI many) x6 (nI p) ol dep (nI (c0 + many)) (nI mc) pl rs own = some (1, nI p2, ol, dep, nI (c0 + many2), nI (max mc many2), pl, rs, own2)) := by
  have hm := h.1
  have hstop : ∀ (p many lst N1 N2 : Nat) (x6 : Int32) (lets own : Nat → Int32), p ≤ m → many ≤ p → cc p ≠ 91 → Ag (be + n * T) lets own → (∃ p2 many2 lets2 own2, p ≤ p2 ∧ p2 ≤ m ∧ many2 ≤ p2 ∧ Ag (be + n * T) lets2 own2 ∧ fRd_readCorrections_7 (nI m) (nI (be + n * T)) sg (nI be) (N1 + 1) (nI many) (nI lst) (nI p) (0 : Int32) (0 : Int32) (nI c0) (nI mc) lets = some (nI p2, (0 : Int32), (0 : Int32), nI (c0 + many2), nI (max mc many2), lets2) ∧ fMD_endsBlock_152 (nI m) tx (N2 + 1) (nI be) (nI n) (nI T) (nI many) x6 (nI p) ol dep (nI (c0 + many)) (nI mc) pl rs own = some (1, nI p2, ol, dep, nI (c0 + many2), nI (max mc many2), pl, rs, own2)) := by
    intro p many lst N1 N2 x6 lets own h1 h2 h3 h4
    refine ⟨p, many, lets, own, Nat.le_refl _, h1, h2, h4, ?_, ?_⟩
    · rw [fRd_readCorrections_7, pRd_sign h (by omega), Option.bind_some, if_neg (show ¬ sgx cc p = (91 : Int32) from fun z => h3 ((sgn_eq (x := 91) (TT_b h p) (by omega) (by omega)).mp z)), fRd_readCorrections_45, nI_add, ifmax (by omega) (by omega)]
    · rw [fMD_endsBlock_152, pMD_sign h (by omega), Option.bind_some, if_neg (show ¬ sgx cc p = (91 : Int32) from fun z => h3 ((sgn_eq (x := 91) (TT_b h p) (by omega) (by omega)).mp z))]
      by_cases c : many ≤ mc
      · rw [if_pos (nI_le c (by omega)), show max mc many = mc by omega]
      · rw [if_neg (nI_ge (by omega) (by omega)), show max mc many = many by omega]
  intro r
  induction r with
  | zero =>
    intro p many lst N1 N2 x6 lets own h1 h2 h3 h4 h5 h6 h7 h8
    obtain ⟨N1, rfl⟩ : ∃ q, N1 = q + 1 := ⟨N1 - 1, by omega⟩
    obtain ⟨N2, rfl⟩ : ∃ q, N2 = q + 1 := ⟨N2 - 1, by omega⟩
    exact Or.inr (hstop p many lst N1 N2 x6 lets own h2 h3 (by rw [h.2.1 p (by omega)]; omega) h8)
  | succ r ih =>
    intro p many lst N1 N2 x6 lets own h1 h2 h3 h4 h5 h6 h7 h8
    obtain ⟨N1, rfl⟩ : ∃ q, N1 = q + 1 := ⟨N1 - 1, by omega⟩
    obtain ⟨N2, rfl⟩ : ∃ q, N2 = q + 1 := ⟨N2 - 1, by omega⟩
    by_cases c91 : cc p = 91
    · have hpm := TT_lt h (p := p) (by omega)
      have hcls : fRd_readCorrections_7 (nI m) (nI (be + n * T)) sg (nI be) (N1 + 1) (nI many) (nI lst) (nI p) (0 : Int32) (0 : Int32) (nI c0) (nI mc) lets = (fRd_readCorrection (nI m) (nI (be + n * T)) sg (nI p) (0 : Int32) (0 : Int32) lets (nI be) (nI lst)).bind fun o4 => (fRd_hasFault o4.2.2.2.1).bind fun o5 => if o5 = 0 then fRd_readCorrections_7 (nI m) (nI (be + n * T)) sg (nI be) N1 (nI many + 1) o4.1 o4.2.1 o4.2.2.1 o4.2.2.2.1 (nI c0) (nI mc) o4.2.2.2.2 else some (o4.2.1, o4.2.2.1, o4.2.2.2.1, (nI c0), (nI mc), o4.2.2.2.2) := by
        rw [fRd_readCorrections_7, pRd_sign h (by omega), Option.bind_some, if_pos (show sgx cc p = (91 : Int32) from (sgn_eq (x := 91) (TT_b h p) (by omega) (by omega)).mpr c91), if_neg (show ¬ (60 : Int32) ≤ nI many from nI_ge (b := 60) (by omega) (by decide))]
      have hmdl : ∀ K, (fMD_correction (nI m) tx (nI p) (nI (c0 + many)) pl rs own (nI be) (nI n) (nI T) x6) = some K → fMD_endsBlock_152 (nI m) tx (N2 + 1) (nI be) (nI n) (nI T) (nI many) x6 (nI p) ol dep (nI (c0 + many)) (nI mc) pl rs own = if K.1 = 0 then some ((0 : Int32), K.2.1, ol, dep, K.2.2.1, (nI mc), K.2.2.2.1, K.2.2.2.2.1, K.2.2.2.2.2) else if bIn (nI p + (2 : Int32)) 60 = true then if (rd tx (nI p + (2 : Int32))) = (44 : Int32) then if bIn (nI p + (1 : Int32)) 60 = true then fMD_endsBlock_152 (nI m) tx N2 (nI be) (nI n) (nI T) (nI many + 1) ((rd tx (nI p + (1 : Int32))) - (48 : Int32)) K.2.1 ol dep K.2.2.1 (nI mc) K.2.2.2.1 K.2.2.2.2.1 K.2.2.2.2.2 else none else if bIn (nI p + (1 : Int32)) 60 = true then if bIn (nI p + (2 : Int32)) 60 = true then fMD_endsBlock_152 (nI m) tx N2 (nI be) (nI n) (nI T) (nI many + 1) ((((10 : Int32) * ((rd tx (nI p + (1 : Int32))) - (48 : Int32))) + (rd tx (nI p + (2 : Int32)))) - (48 : Int32)) K.2.1 ol dep K.2.2.1 (nI mc) K.2.2.2.1 K.2.2.2.2.1 K.2.2.2.2.2 else none else none else none := by
        intro K hK
        rw [fMD_endsBlock_152, pMD_sign h (by omega), Option.bind_some, if_pos (show sgx cc p = (91 : Int32) from (sgn_eq (x := 91) (TT_b h p) (by omega) (by omega)).mpr c91), hK, Option.bind_some]
      rcases JC1 h c91 hn hT hnT hbe h6 h7 (nI (c0 + many)) pl rs with ⟨q, rr, x1, x2, x3, x5, y5, a1, a2, a3, a4, a5⟩ | ⟨v, a, p2, a1, a2, a3, a4, a5, a6, a7, a8, a9, a10⟩
      · left
        refine ⟨q, rr, x2, nI c0, nI mc, x5, x3, ol, dep, nI (c0 + many), nI mc, y5, a1, a2, ?_, ?_⟩
        · rw [hcls, a4, Option.bind_some]
          dsimp only
          rw [fRd_hasFault, if_neg (nI_ne0 a1 (by omega)), Option.bind_some, if_neg (by decide)]
        · rw [hmdl _ a5]
          dsimp only
          rw [if_pos rfl]
      · have hih := ih p2 (many + 1) v N1 N2 (nI v) (upd lets (be + v) (nI a)) (upd own (be + v) (nI a)) (by omega) a6 (by omega) (by omega) (by omega) (Or.inr ⟨rfl, a2, a3⟩) (fun i hi hi2 => by
          obtain ⟨a', z1, z2, z3⟩ := h7 i (by omega) hi2
          have hmod : i % n < n := Nat.mod_lt _ (by omega)
          exact ⟨a', z1, by rw [pk_un (by omega)]; exact z2, by rw [pk_un (by omega)]; exact z3⟩) (Ag_upd h8 a4)
        have e1 : fRd_readCorrections_7 (nI m) (nI (be + n * T)) sg (nI be) (N1 + 1) (nI many) (nI lst) (nI p) (0 : Int32) (0 : Int32) (nI c0) (nI mc) lets = fRd_readCorrections_7 (nI m) (nI (be + n * T)) sg (nI be) N1 (nI (many + 1)) (nI v) (nI p2) (0 : Int32) (0 : Int32) (nI c0) (nI mc) (upd lets (be + v) (nI a)) := by
          rw [hcls, a7, Option.bind_some]
          dsimp only
          rw [fRd_hasFault, if_pos rfl, Option.bind_some, if_pos rfl, nI_1]
        have e2 : fMD_endsBlock_152 (nI m) tx (N2 + 1) (nI be) (nI n) (nI T) (nI many) x6 (nI p) ol dep (nI (c0 + many)) (nI mc) pl rs own = fMD_endsBlock_152 (nI m) tx N2 (nI be) (nI n) (nI T) (nI (many + 1)) (nI v) (nI p2) ol dep (nI (c0 + (many + 1))) (nI mc) pl rs (upd own (be + v) (nI a)) := by
          have q1 : nI p + (1 : Int32) = nI (p + 1) := nI_1 p
          have q2 : nI p + (2 : Int32) = nI (p + 2) := nI_add p 2
          have q3 : nI (c0 + many) + (1 : Int32) = nI (c0 + (many + 1)) := nI_1 _
          have q4 : nI many + (1 : Int32) = nI (many + 1) := nI_1 _
          rw [hmdl _ a8]
          dsimp only
          rw [if_neg (by decide), q1, q2, q3, q4, if_pos (bIn_nI (by omega) (by omega)), if_pos (bIn_nI (by omega) (by omega)), rd_nI (by omega), rd_nI (by omega)]
          by_cases z : tx (p + 2) = (44 : Int32)
          · rw [if_pos z] at a9 ⊢
            rw [a9]
          · rw [if_neg z] at a9 ⊢
            rw [if_pos (bIn_nI (by omega) (by omega)), if_pos (bIn_nI (by omega) (by omega)), a9]
        rw [e1, e2]
        rcases hih with ⟨q, rr, x1, x2, x3, x4, y1, y2, y3, y4, y5, y6, z⟩ | ⟨p3, many3, l3, o3, z1, z2, z3, z4, z5, z6⟩
        · exact Or.inl ⟨q, rr, x1, x2, x3, x4, y1, y2, y3, y4, y5, y6, z⟩
        · exact Or.inr ⟨p3, many3, l3, o3, by omega, z2, z3, z4, z5, z6⟩
    · exact Or.inr (hstop p many lst N1 N2 x6 lets own h2 h3 c91 h8)
