/-! the whole text -/
def RdR (len : Int32) (tx : A1r) (size fp fre lt rt ct_ mc deep : Int32) (lets : A1r) : Prop := ∀ (pl rs : Int32) (ia la ow ti : A1r), ∃ (at_ ol de dp_ le re co mo : Int32) (ia2 la2 ow2 ti2 : A1r), (¬ fre = 0 ∧ fMD_reads len tx pl rs ia la ow ti = some (0, at_, ol, de, dp_, le, re, co, mo, fp, fre, ia2, la2, ow2, ti2)) ∨ (fre = 0 ∧ ∃ s : Nat, 1 ≤ s ∧ s ≤ 24 ∧ size = nI s ∧ Ag s lets ow2 ∧ fMD_reads len tx pl rs ia la ow ti = some (1, at_, size, de, deep, lt, rt, ct_, mc, pl, rs, ia2, la2, ow2, ti2))
theorem JI0 {m : Nat} {cc : Nat → Nat} {sg tx : Nat → Int32} (h : TT m cc sg tx) (dpI : Int32) (lets : A1r) (pl rs : Int32) (ia la ow ti : A1r) : OUT m cc tx 0 0 0 0 FU pl rs ia (upd la 0 (nI 0)) ti (fRd_readItems 40 (nI m) (0 : Int32) (0 : Int32) (0 : Int32) (0 : Int32) (0 : Int32) (0 : Int32) (0 : Int32) (0 : Int32) dpI (1 : Int32) lets sg (0 : Int32)) (fMD_reads (nI m) tx pl rs ia la ow ti) := by
  have hm := h.1
  have e := JI h dpI (1 : Int32) pl rs m 0 0 39 0 0 0 0 0 0 0 0 0 FU FU lets ow ia (upd la 0 (nI 0)) ti (by omega) (by omega) (by omega) (by omega) (Or.inl ⟨rfl, rfl, fun _ => rfl⟩) (by omega) (by omega) (by omega) (by omega) (by omega) (by show _ ≤ 1000000; omega) (by show _ ≤ 1000000; omega) pk_us (fun i hi => absurd hi (by omega))
  have e1 : fMD_reads (nI m) tx pl rs ia la ow ti = fMD_reads_49 (nI m) tx FU (1 : Int32) (nI 0) (nI 0) (nI 0) (nI (max 0 (0 + 0))) (nI 0) (nI (0 + 0)) (nI 0) (nI 0) pl rs ia (upd la 0 (nI 0)) ow ti := by
    rw [fMD_reads, li0, wr_nI (by omega)]
    rfl
  have e2 : fRd_readItems 40 (nI m) (0 : Int32) (0 : Int32) (0 : Int32) (0 : Int32) (0 : Int32) (0 : Int32) (0 : Int32) (0 : Int32) dpI (1 : Int32) lets sg (0 : Int32) = fRd_readItems_10 (fRd_readRepeat (fRd_readItems 39)) (nI m) dpI (1 : Int32) sg (nI 0) FU (nI 0) (nI 0) (nI 0) (nI 0) (nI 0) (0 : Int32) (0 : Int32) (nI 0) (nI 0) (nI 0) (nI 0) lets := rfl
  rw [e1, e2]
  exact e
theorem RdR_of {m : Nat} {cc : Nat → Nat} {sg tx : Nat → Int32} (h : TT m cc sg tx) {dpI : Int32} {lets : A1r} {d a s fp fr lt rp cr mc : Int32} {l2 : A1r} (hc : fRd_readItems 40 (nI m) (0 : Int32) (0 : Int32) (0 : Int32) (0 : Int32) (0 : Int32) (0 : Int32) (0 : Int32) (0 : Int32) dpI (1 : Int32) lets sg (0 : Int32) = some (d, a, s, fp, fr, lt, rp, cr, mc, l2)) : RdR (nI m) tx s fp fr lt rp cr mc d l2 := by
  have hm := h.1
  intro pl rs ia la ow ti
  rcases JI0 h dpI lets pl rs ia la ow ti with ⟨q, r, h1, h2, ⟨x1, x2, x3, x4, x5, x6, x7, x8, e⟩, ⟨y1, y2, y3, y4, y5, y6, y7, y8, y9, y10, y11, y12, e2⟩⟩ | ⟨most2, p2, size2, lt2, rp2, cr2, mc2, N2, lets2, ow2, ia2, la2, ti2, b1, b2, b3, b4, b5, b6, b7, b8, b9, b10, b11, b12, b13⟩
  · rw [hc] at e
    simp only [Option.some.injEq, Prod.mk.injEq] at e
    obtain ⟨e3, e4, e5, e6, e7, e8⟩ := e
    refine ⟨y1, y2, y3, y4, y5, y6, y7, y8, y9, y10, y11, y12, Or.inl ⟨by rw [e7]; exact nI_ne0 h1 (by omega), ?_⟩⟩
    rw [e2, e6, e7]
  · rw [hc] at b1
    simp only [Option.some.injEq, Prod.mk.injEq] at b1
    obtain ⟨rfl, rfl, rfl, rfl, rfl, rfl, rfl, rfl, rfl, rfl⟩ := b1
    have hp2 := b8 rfl
    have hFU : (1000000 : Nat) ≤ N2 + (p2 - 0) := b11
    obtain ⟨N2, rfl⟩ : ∃ q, N2 = q + 1 := ⟨N2 - 1, by omega⟩
    refine ⟨nI p2, 0, nI 0, 0, 0, 0, 0, 0, ia2, la2, ow2, ti2, Or.inr ⟨rfl, size2, by omega, by omega, rfl, b10, ?_⟩⟩
    rw [b13, fMD_reads_49, if_neg (by decide), if_pos (nI_le (by omega) (by omega)), fMD_reads_138, if_neg (by decide), if_neg (by decide), if_neg (nI_ne0 (by omega) (by omega)), Nat.add_zero, show max 0 (0 + most2) = most2 by omega]
theorem rd_some {m : Nat} {cc : Nat → Nat} {sg : Nat → Int32} (h : TT m cc sg sg) (dpI : Int32) (lets : A1r) : ∃ d a s fp fr lt rp cr mc l2, fRd_readItems 40 (nI m) (0 : Int32) (0 : Int32) (0 : Int32) (0 : Int32) (0 : Int32) (0 : Int32) (0 : Int32) (0 : Int32) dpI (1 : Int32) lets sg (0 : Int32) = some (d, a, s, fp, fr, lt, rp, cr, mc, l2) := by
  rcases JI0 h dpI lets 0 0 lets lets lets lets with ⟨q, r, h1, h2, ⟨x1, x2, x3, x4, x5, x6, x7, x8, e⟩, _⟩ | ⟨most2, p2, size2, lt2, rp2, cr2, mc2, N2, lets2, ow2, ia2, la2, ti2, b1, _⟩
  · exact ⟨_, _, _, _, _, _, _, _, _, _, e⟩
  · exact ⟨_, _, _, _, _, _, _, _, _, _, b1⟩
