/-! fault, told, adopt -/
theorem TT_of {m : Nat} {sg tx : Nat → Int32} (hm : m ≤ 60) (h : ∀ i, i < m → ∃ c : Nat, 32 ≤ c ∧ c ≤ 126 ∧ sg i = nI c ∧ tx i = nI c) : TT m (fun i => if i < m then (sg i).toNatClampNeg else 0) sg tx := by
  refine ⟨hm, fun i hi => if_neg (by omega), fun i hi => ?_⟩
  obtain ⟨c, h1, h2, h3, h4⟩ := h i hi
  have e : (fun i => if i < m then (sg i).toNatClampNeg else 0) i = c := by
    show (if i < m then (sg i).toNatClampNeg else 0) = c
    rw [if_pos hi, h3, nI_clamp (by omega)]
  rw [e]
  exact ⟨h1, h2, h3, h4⟩
theorem reader_fresh {len typed fr size fp fre lt rt ct_ mc deep : Int32} {sg tx lets : Nat → Int32} (hT : TxOK len sg typed tx) (c : Fr fr (VReader len sg size fp fre lt rt ct_ mc deep lets)) (at_ : Int32) : ∃ a1 s1 f1 r1 l1 p1 k1 m1 d1 L1, fRd_refresh len sg at_ size fp fre lt rt ct_ mc deep fr lets = some (a1, s1, f1, r1, l1, p1, k1, m1, d1, 1, L1) ∧ VReader len sg s1 f1 r1 l1 p1 k1 m1 d1 L1 ∧ RdR typed tx s1 f1 r1 l1 p1 k1 m1 d1 L1 := by
  obtain ⟨m, hm, rfl, rfl, hTT⟩ := hT
  have hag : ∀ i, i < m → tx i = sg i := fun i hi => by
    obtain ⟨c, _, _, h3, h4⟩ := hTT i hi
    rw [h3, h4]
  rcases c with rfl | ⟨rfl, hV⟩
  · have h0 : TT m _ sg sg := TT_of hm (fun i hi => by
      obtain ⟨c, h1, h2, h3, _⟩ := hTT i hi
      exact ⟨c, h1, h2, h3, h3⟩)
    obtain ⟨d, a, s, f, r, l, p, k, mm, L1, e⟩ := rd_some h0 deep lets
    have hV : VReader (nI m) sg s f r l p k mm d L1 := by
      intro tx2 m2 g1 g2 g3
      have : m = m2 := (nI_eq (by omega) (by omega)).mp g1
      subst this
      have h2 : TT m _ sg tx2 := TT_of hm (fun i hi => by
        obtain ⟨c, h1, h2, h3, _⟩ := hTT i hi
        exact ⟨c, h1, h2, h3, by rw [g3 i hi, h3]⟩)
      exact RdR_of h2 e
    refine ⟨a, s, f, r, l, p, k, mm, d, L1, ?_, hV, hV tx m rfl hm hag⟩
    rw [fRd_refresh, if_pos rfl, e, Option.bind_some]
  · exact ⟨_, _, _, _, _, _, _, _, _, _, by rw [fRd_refresh, if_neg (by decide)], hV, hV tx m rfl hm hag⟩
set_option maxHeartbeats 4000000 in
theorem sim_fault (t_history_size : Int32) (t_history_states_e0_size : Int32) (t_history_states_e0_letters : Nat → Int32) (t_history_states_e0_settings : Nat → Int32) (t_history_states_e1_size : Int32) (t_history_states_e1_letters : Nat → Int32) (t_history_states_e1_settings : Nat → Int32) (t_history_states_e2_size : Int32) (t_history_states_e2_letters : Nat → Int32) (t_history_states_e2_settings : Nat → Int32) (t_history_states_e3_size : Int32) (t_history_states_e3_letters : Nat → Int32) (t_history_states_e3_settings : Nat → Int32) (t_numbers_fresh : Int32) (t_numbers_items : Nat → Int64) (t_numbers_repeats_rowSize : Int32) (t_numbers_repeats_repeatPrice : Int32) (t_numbers_repeats_correctionPrice : Int32) (t_numbers_repeats_mostCorrections : Int32) (t_numbers_repeats_number : Int32) (t_numbers_repeats_blocks : Nat → Int32) (t_numbers_repeats_ends : Nat → Int32) (t_numbers_repeats_prices : Nat → Int32) (t_numbers_repeats_standing : Nat → Int32) (t_numbers_repeats_unlike : Nat → Int32) (t_numbers_table : Nat → Int64) (t_prices_fresh : Int32) (t_prices_items : Nat → Int32) (t_prices_repeats_rowSize : Int32) (t_prices_repeats_repeatPrice : Int32) (t_prices_repeats_correctionPrice : Int32) (t_prices_repeats_mostCorrections : Int32) (t_prices_repeats_number : Int32) (t_prices_repeats_blocks : Nat → Int32) (t_prices_repeats_ends : Nat → Int32) (t_prices_repeats_prices : Nat → Int32) (t_prices_repeats_standing : Nat → Int32) (t_prices_repeats_unlike : Nat → Int32) (t_prices_table : Nat → Int32) (t_reader_length : Int32) (t_reader_at : Int32) (t_reader_size : Int32) (t_reader_faultPlace : Int32) (t_reader_faultReason : Int32) (t_reader_lettersTold : Int32) (t_reader_repeatsTold : Int32) (t_reader_correctionsTold : Int32) (t_reader_mostCorrections : Int32) (t_reader_deepest : Int32) (t_reader_fresh : Int32) (t_reader_letters : Nat → Int32) (t_reader_signs : Nat → Int32) (t_runs_number : Int32) (t_runs_fresh : Int32) (t_runs_froms : Nat → Int32) (t_runs_periods : Nat → Int32) (t_runs_tos : Nat → Int32) (t_state_size : Int32) (t_state_letters : Nat → Int32) (t_state_settings : Nat → Int32) (t_telling_length : Int32) (t_telling_partFrom : Int32) (t_telling_partTo : Int32) (t_telling_items : Int32) (t_telling_deepest : Int32) (t_telling_repeatsTold : Int32) (t_telling_correctionsTold : Int32) (t_telling_firstLetters : Int32) (t_telling_firstTimes : Int32) (t_telling_chosenEnd : Int32) (t_telling_chosenBlock : Int32) (t_telling_fresh : Int32) (t_telling_repeats_rowSize : Int32) (t_telling_repeats_repeatPrice : Int32) (t_telling_repeats_correctionPrice : Int32) (t_telling_repeats_mostCorrections : Int32) (t_telling_repeats_number : Int32) (t_telling_repeats_blocks : Nat → Int32) (t_telling_repeats_ends : Nat → Int32) (t_telling_repeats_prices : Nat → Int32) (t_telling_repeats_standing : Nat → Int32) (t_telling_repeats_unlike : Nat → Int32) (t_telling_signs : Nat → Int32) (t_trial_fresh : Int32) (t_trial_found : Int32) (t_trial_bestPlace : Int32) (t_trial_bestLetter : Int32) (t_trial_bestPrice : Int32) (t_trial_prices_fresh : Int32) (t_trial_prices_items : Nat → Int32) (t_trial_prices_repeats_rowSize : Int32) (t_trial_prices_repeats_repeatPrice : Int32) (t_trial_prices_repeats_correctionPrice : Int32) (t_trial_prices_repeats_mostCorrections : Int32) (t_trial_prices_repeats_number : Int32) (t_trial_prices_repeats_blocks : Nat → Int32) (t_trial_prices_repeats_ends : Nat → Int32) (t_trial_prices_repeats_prices : Nat → Int32) (t_trial_prices_repeats_standing : Nat → Int32) (t_trial_prices_repeats_unlike : Nat → Int32) (t_trial_prices_table : Nat → Int32) (t_trial_tried_size : Int32) (t_trial_tried_letters : Nat → Int32) (t_trial_tried_settings : Nat → Int32) (w_states : Int32) (w_typed : Int32) (w_height : Int32) (w_length : Int32) (w_at : Int32) (w_ownLength : Int32) (w_depth : Int32) (w_deepest : Int32) (w_letters : Int32) (w_repeats : Int32) (w_corrections : Int32) (w_mostCorrections : Int32) (w_place : Int32) (w_reason : Int32) (w_begun : Nat → Int32) (w_block : Nat → Int32) (w_cost : Nat → Int32) (w_first : Nat → Int32) (w_itemAt : Nat → Int32) (w_levelAt : Nat → Int32) (w_many : Nat → Int64) (w_own : Nat → Int32) (w_s : Nat → Int32) (w_stack : Nat → Int32) (w_text : Nat → Int32) (w_times : Nat → Int32) (w_was : Nat → Int32) (w_written : Nat → Int32) (w_wrong : Nat → Int32) (x1 : Int32) (hI : Inv t_history_size t_history_states_e0_size t_history_states_e0_letters t_history_states_e0_settings t_history_states_e1_size t_history_states_e1_letters t_history_states_e1_settings t_history_states_e2_size t_history_states_e2_letters t_history_states_e2_settings t_history_states_e3_size t_history_states_e3_letters t_history_states_e3_settings t_numbers_fresh t_numbers_items t_numbers_repeats_rowSize t_numbers_repeats_repeatPrice t_numbers_repeats_correctionPrice t_numbers_repeats_mostCorrections t_numbers_repeats_number t_numbers_repeats_blocks t_numbers_repeats_ends t_numbers_repeats_prices t_numbers_repeats_standing t_numbers_repeats_unlike t_numbers_table t_prices_fresh t_prices_items t_prices_repeats_rowSize t_prices_repeats_repeatPrice t_prices_repeats_correctionPrice t_prices_repeats_mostCorrections t_prices_repeats_number t_prices_repeats_blocks t_prices_repeats_ends t_prices_repeats_prices t_prices_repeats_standing t_prices_repeats_unlike t_prices_table t_reader_length t_reader_at t_reader_size t_reader_faultPlace t_reader_faultReason t_reader_lettersTold t_reader_repeatsTold t_reader_correctionsTold t_reader_mostCorrections t_reader_deepest t_reader_fresh t_reader_letters t_reader_signs t_runs_number t_runs_fresh t_runs_froms t_runs_periods t_runs_tos t_state_size t_state_letters t_state_settings t_telling_length t_telling_partFrom t_telling_partTo t_telling_items t_telling_deepest t_telling_repeatsTold t_telling_correctionsTold t_telling_firstLetters t_telling_firstTimes t_telling_chosenEnd t_telling_chosenBlock t_telling_fresh t_telling_repeats_rowSize t_telling_repeats_repeatPrice t_telling_repeats_correctionPrice t_telling_repeats_mostCorrections t_telling_repeats_number t_telling_repeats_blocks t_telling_repeats_ends t_telling_repeats_prices t_telling_repeats_standing t_telling_repeats_unlike t_telling_signs t_trial_fresh t_trial_found t_trial_bestPlace t_trial_bestLetter t_trial_bestPrice t_trial_prices_fresh t_trial_prices_items t_trial_prices_repeats_rowSize t_trial_prices_repeats_repeatPrice t_trial_prices_repeats_correctionPrice t_trial_prices_repeats_mostCorrections t_trial_prices_repeats_number t_trial_prices_repeats_blocks t_trial_prices_repeats_ends t_trial_prices_repeats_prices t_trial_prices_repeats_standing t_trial_prices_repeats_unlike t_trial_prices_table t_trial_tried_size t_trial_tried_letters t_trial_tried_settings w_states w_typed w_height w_length w_at w_ownLength w_depth w_deepest w_letters w_repeats w_corrections w_mostCorrections w_place w_reason w_begun w_block w_cost w_first w_itemAt w_levelAt w_many w_own w_s w_stack w_text w_times w_was w_written w_wrong) : ∃ (r : Int32) (y_t_reader_at : Int32) (y_t_reader_size : Int32) (y_t_reader_faultPlace : Int32) (y_t_reader_faultReason : Int32) (y_t_reader_lettersTold : Int32) (y_t_reader_repeatsTold : Int32) (y_t_reader_correctionsTold : Int32) (y_t_reader_mostCorrections : Int32) (y_t_reader_deepest : Int32) (y_t_reader_fresh : Int32) (y_t_reader_letters : Nat → Int32) (y_w_at : Int32) (y_w_ownLength : Int32) (y_w_depth : Int32) (y_w_deepest : Int32) (y_w_letters : Int32) (y_w_repeats : Int32) (y_w_corrections : Int32) (y_w_mostCorrections : Int32) (y_w_place : Int32) (y_w_reason : Int32) (y_w_itemAt : Nat → Int32) (y_w_levelAt : Nat → Int32) (y_w_own : Nat → Int32) (y_w_times : Nat → Int32), fRN_fault t_reader_length t_reader_signs t_reader_at t_reader_size t_reader_faultPlace t_reader_faultReason t_reader_lettersTold t_reader_repeatsTold t_reader_correctionsTold t_reader_mostCorrections t_reader_deepest t_reader_fresh t_reader_letters x1 = some (r, y_t_reader_at, y_t_reader_size, y_t_reader_faultPlace, y_t_reader_faultReason, y_t_reader_lettersTold, y_t_reader_repeatsTold, y_t_reader_correctionsTold, y_t_reader_mostCorrections, y_t_reader_deepest, y_t_reader_fresh, y_t_reader_letters) ∧ fMD_fault w_typed w_text w_at w_ownLength w_depth w_deepest w_letters w_repeats w_corrections w_mostCorrections w_place w_reason w_itemAt w_levelAt w_own w_times x1 = some (r, y_w_at, y_w_ownLength, y_w_depth, y_w_deepest, y_w_letters, y_w_repeats, y_w_corrections, y_w_mostCorrections, y_w_place, y_w_reason, y_w_itemAt, y_w_levelAt, y_w_own, y_w_times) ∧ Inv t_history_size t_history_states_e0_size t_history_states_e0_letters t_history_states_e0_settings t_history_states_e1_size t_history_states_e1_letters t_history_states_e1_settings t_history_states_e2_size t_history_states_e2_letters t_history_states_e2_settings t_history_states_e3_size t_history_states_e3_letters t_history_states_e3_settings t_numbers_fresh t_numbers_items t_numbers_repeats_rowSize t_numbers_repeats_repeatPrice t_numbers_repeats_correctionPrice t_numbers_repeats_mostCorrections t_numbers_repeats_number t_numbers_repeats_blocks t_numbers_repeats_ends t_numbers_repeats_prices t_numbers_repeats_standing t_numbers_repeats_unlike t_numbers_table t_prices_fresh t_prices_items t_prices_repeats_rowSize t_prices_repeats_repeatPrice t_prices_repeats_correctionPrice t_prices_repeats_mostCorrections t_prices_repeats_number t_prices_repeats_blocks t_prices_repeats_ends t_prices_repeats_prices t_prices_repeats_standing t_prices_repeats_unlike t_prices_table t_reader_length y_t_reader_at y_t_reader_size y_t_reader_faultPlace y_t_reader_faultReason y_t_reader_lettersTold y_t_reader_repeatsTold y_t_reader_correctionsTold y_t_reader_mostCorrections y_t_reader_deepest y_t_reader_fresh y_t_reader_letters t_reader_signs t_runs_number t_runs_fresh t_runs_froms t_runs_periods t_runs_tos t_state_size t_state_letters t_state_settings t_telling_length t_telling_partFrom t_telling_partTo t_telling_items t_telling_deepest t_telling_repeatsTold t_telling_correctionsTold t_telling_firstLetters t_telling_firstTimes t_telling_chosenEnd t_telling_chosenBlock t_telling_fresh t_telling_repeats_rowSize t_telling_repeats_repeatPrice t_telling_repeats_correctionPrice t_telling_repeats_mostCorrections t_telling_repeats_number t_telling_repeats_blocks t_telling_repeats_ends t_telling_repeats_prices t_telling_repeats_standing t_telling_repeats_unlike t_telling_signs t_trial_fresh t_trial_found t_trial_bestPlace t_trial_bestLetter t_trial_bestPrice t_trial_prices_fresh t_trial_prices_items t_trial_prices_repeats_rowSize t_trial_prices_repeats_repeatPrice t_trial_prices_repeats_correctionPrice t_trial_prices_repeats_mostCorrections t_trial_prices_repeats_number t_trial_prices_repeats_blocks t_trial_prices_repeats_ends t_trial_prices_repeats_prices t_trial_prices_repeats_standing t_trial_prices_repeats_unlike t_trial_prices_table t_trial_tried_size t_trial_tried_letters t_trial_tried_settings w_states w_typed w_height w_length y_w_at y_w_ownLength y_w_depth y_w_deepest y_w_letters y_w_repeats y_w_corrections y_w_mostCorrections y_w_place y_w_reason w_begun w_block w_cost w_first y_w_itemAt y_w_levelAt w_many y_w_own w_s w_stack w_text y_w_times w_was w_written w_wrong := by
  obtain ⟨hS, hH, hT, c1, c2, c3, c4, c5, c6⟩ := id hI
  obtain ⟨a1, s1, f1, r1, l1, p1, k1, m1, d1, L1, e1, hV, hR⟩ := reader_fresh hT c6 t_reader_at
  obtain ⟨b1, b2, b3, b4, b5, b6, b7, b8, B1, B2, B3, B4, hR2⟩ := hR w_place w_reason w_itemAt w_levelAt w_own w_times
  rcases in_cases x1 (a := 0) (b := 1) (by omega) (by omega) with ⟨x, hx0, hx1, rfl, k2⟩ | ⟨k3, k2⟩
  · have k2' : fMD_in (nI x) (0 : Int32) (1 : Int32) = some (nI 1) := k2
    have hx : x = 0 ∨ x = 1 := by omega
    rcases hR2 with ⟨g1, g2⟩ | ⟨g1, s, g2, g3, rfl, g5, g6⟩
    · rcases hx with rfl | rfl
      · refine ⟨f1, a1, s1, f1, r1, l1, p1, k1, m1, d1, 1, L1, b1, b2, b3, b4, b5, b6, b7, b8, f1, r1, B1, B2, B3, B4, ?_, ?_, hS, hH, hT, c1, c2, c3, c4, c5, Or.inr ⟨rfl, hV⟩⟩
        · rw [fRN_fault, if_neg (by decide), if_pos (by decide), e1, Option.bind_some]
          dsimp only
          rw [fRd_hasFault, if_neg g1, Option.bind_some, if_neg (by decide), if_pos (by decide)]
        · rw [fMD_fault, k2', Option.bind_some, if_neg (by decide), g2, Option.bind_some]
          dsimp only
          rw [if_pos rfl, if_pos (by decide)]
      · refine ⟨r1, a1, s1, f1, r1, l1, p1, k1, m1, d1, 1, L1, b1, b2, b3, b4, b5, b6, b7, b8, f1, r1, B1, B2, B3, B4, ?_, ?_, hS, hH, hT, c1, c2, c3, c4, c5, Or.inr ⟨rfl, hV⟩⟩
        · rw [fRN_fault, if_neg (by decide), if_pos (by decide), e1, Option.bind_some]
          dsimp only
          rw [fRd_hasFault, if_neg g1, Option.bind_some, if_neg (by decide), if_neg (by decide)]
        · rw [fMD_fault, k2', Option.bind_some, if_neg (by decide), g2, Option.bind_some]
          dsimp only
          rw [if_pos rfl, if_neg (by decide)]
    · refine ⟨(-1000004), a1, nI s, f1, r1, l1, p1, k1, m1, d1, 1, L1, b1, nI s, b3, d1, l1, p1, k1, m1, w_place, w_reason, B1, B2, B3, B4, ?_, ?_, hS, hH, hT, c1, c2, c3, c4, c5, Or.inr ⟨rfl, hV⟩⟩
      · rw [fRN_fault, if_neg (nI_pos (by omega)), if_pos (show nI x ≤ (1 : Int32) from nI_le (b := 1) hx1 (by decide)), e1, Option.bind_some]
        dsimp only
        rw [fRd_hasFault, if_pos g1, Option.bind_some, if_pos rfl]
      · rw [fMD_fault, k2', Option.bind_some, if_neg (by decide), g6, Option.bind_some]
        dsimp only
        rw [if_neg (by decide)]
  · have k2' : fMD_in x1 (0 : Int32) (1 : Int32) = some (nI 0) := k2
    refine ⟨(-1000001), t_reader_at, t_reader_size, t_reader_faultPlace, t_reader_faultReason, t_reader_lettersTold, t_reader_repeatsTold, t_reader_correctionsTold, t_reader_mostCorrections, t_reader_deepest, t_reader_fresh, t_reader_letters, w_at, w_ownLength, w_depth, w_deepest, w_letters, w_repeats, w_corrections, w_mostCorrections, w_place, w_reason, w_itemAt, w_levelAt, w_own, w_times, ?_, ?_, hI⟩
    · rcases k3 with k3 | ⟨k, hk, rfl, k3⟩
      · rw [fRN_fault, if_pos k3]
      · rw [fRN_fault, if_neg (nI_pos hk), if_neg (show ¬ nI k ≤ (1 : Int32) from nI_ge (a := 1) (by omega) hk)]
    · rw [fMD_fault, k2', Option.bind_some, if_pos (by decide)]
/-- describes: the same row -/
theorem pRd_desc15 {s n : Nat} {lets L ow sm : Nat → Int32} (hs : s ≤ 24) (hsn : s = n) (hA : Ag s lets ow) (hL : ∀ i, i < n → ∃ a : Nat, a < 4 ∧ L i = nI a ∧ sm (6 + i) = nI a) (hm : sm 0 = nI n) : ∀ (q i N M : Nat), i + q = n → q < N → q < M → ∃ b : Nat, b ≤ 1 ∧ fRd_describes_15 (nI s) lets (nI n) L N (nI i) = some (nI b) ∧ fMD_isRow_21 ow sm M (nI 1) (nI i) = some (nI b) := by
  intro q
  induction q with
  | zero =>
    intro i N M h1 h2 h3
    obtain ⟨N, rfl⟩ : ∃ q, N = q + 1 := ⟨N - 1, by omega⟩
    obtain ⟨M, rfl⟩ : ∃ q, M = q + 1 := ⟨M - 1, by omega⟩
    refine ⟨1, Nat.le_refl _, ?_, ?_⟩
    · rw [fRd_describes_15, if_pos (nI_le (by omega) (by omega))]
      rfl
    · rw [fMD_isRow_21, li0, rd_nI (by omega), hm, if_pos (nI_le (by omega) (by omega)), if_pos (Or.inr (show nI 1 = (1 : Int32) from rfl))]
  | succ q ih =>
    intro i N M h1 h2 h3
    obtain ⟨N, rfl⟩ : ∃ q, N = q + 1 := ⟨N - 1, by omega⟩
    obtain ⟨M, rfl⟩ : ∃ q, M = q + 1 := ⟨M - 1, by omega⟩
    obtain ⟨a, ha, hl, ho⟩ := hA i (by omega)
    obtain ⟨a2, ha2, hl2, ho2⟩ := hL i (by omega)
    have eC : fRd_describes_15 (nI s) lets (nI n) L (N + 1) (nI i) = if nI a = nI a2 then fRd_describes_15 (nI s) lets (nI n) L N (nI (i + 1)) else some (0 : Int32) := by
      rw [fRd_describes_15, if_neg (nI_ge (by omega) (by omega)), pRd_letter (by omega), Option.bind_some, pSt_letter_in (by omega) (by omega), Option.bind_some, hl, hl2, nI_1]
    have eM : fMD_isRow_21 ow sm (M + 1) (nI 1) (nI i) = if nI a = nI a2 then fMD_isRow_21 ow sm M (1 : Int32) (nI (i + 1)) else fMD_isRow_21 ow sm M (0 : Int32) (nI (i + 1)) := by
      rw [fMD_isRow_21, li0, rd_nI (by omega), hm, if_neg (nI_ge (by omega) (by omega)), if_neg (by decide), if_pos (bIn_nI (by omega) (by omega)), li6, nI_add, if_pos (bIn_nI (by omega) (by omega)), rd_nI (by omega), rd_nI (by omega), ho, ho2, nI_1]
    rw [eC, eM]
    by_cases c : a = a2
    · rw [if_pos (by rw [c]), if_pos (by rw [c])]
      exact ih (i + 1) N M (by omega) (by omega) (by omega)
    · have hne : ¬ nI a = nI a2 := by rw [nI_eq (by omega) (by omega)]; exact c
      rw [if_neg hne, if_neg hne]
      obtain ⟨M, rfl⟩ : ∃ q, M = q + 1 := ⟨M - 1, by omega⟩
      refine ⟨0, by omega, rfl, ?_⟩
      rw [fMD_isRow_21, li0, rd_nI (by omega), hm]
      by_cases z : n ≤ i + 1
      · rw [if_pos (nI_le z (by omega)), if_pos (Or.inl rfl)]
      · rw [if_neg (nI_ge (by omega) (by omega)), if_pos rfl, if_pos (Or.inl rfl)]
theorem isRow_ok {s n : Nat} {lets L ow sm : Nat → Int32} (hs : s ≤ 24) (hn : n ≤ 24) (hA : Ag s lets ow) (hL : ∀ i, i < n → ∃ a : Nat, a < 4 ∧ L i = nI a ∧ sm (6 + i) = nI a) (hm : sm 0 = nI n) : ∃ b : Nat, b ≤ 1 ∧ fRd_describes (nI s) lets (nI n) L = some (nI b) ∧ fMD_isRow (nI s) ow sm = some (nI b) := by
  by_cases c : s = n
  · obtain ⟨b, h1, h2, h3⟩ := pRd_desc15 hs c hA hL hm n 0 FU FU (by omega) (by show _ < 1000000; omega) (by show _ < 1000000; omega)
    refine ⟨b, h1, ?_, ?_⟩
    · rw [fRd_describes, if_pos (by rw [c]), li0]; exact h2
    · rw [fMD_isRow, li0, rd_nI (by omega), hm, if_pos (by rw [c])]; exact h3
  · have hne : ¬ nI s = nI n := by rw [nI_eq (by omega) (by omega)]; exact c
    refine ⟨0, by omega, ?_, ?_⟩
    · rw [fRd_describes, if_neg hne]; rfl
    · obtain ⟨N, hN⟩ := FU_s
      rw [fMD_isRow, li0, rd_nI (by omega), hm, if_neg hne, hN, fMD_isRow_21, li0, rd_nI (by omega), hm]
      by_cases z : n ≤ 0
      · rw [if_pos (nI_le z (by omega)), if_pos (Or.inl rfl)]
      · rw [if_neg (nI_ge (by omega) (by omega)), if_pos rfl, if_pos (Or.inl rfl)]
set_option maxHeartbeats 4000000 in
theorem sim_told (t_history_size : Int32) (t_history_states_e0_size : Int32) (t_history_states_e0_letters : Nat → Int32) (t_history_states_e0_settings : Nat → Int32) (t_history_states_e1_size : Int32) (t_history_states_e1_letters : Nat → Int32) (t_history_states_e1_settings : Nat → Int32) (t_history_states_e2_size : Int32) (t_history_states_e2_letters : Nat → Int32) (t_history_states_e2_settings : Nat → Int32) (t_history_states_e3_size : Int32) (t_history_states_e3_letters : Nat → Int32) (t_history_states_e3_settings : Nat → Int32) (t_numbers_fresh : Int32) (t_numbers_items : Nat → Int64) (t_numbers_repeats_rowSize : Int32) (t_numbers_repeats_repeatPrice : Int32) (t_numbers_repeats_correctionPrice : Int32) (t_numbers_repeats_mostCorrections : Int32) (t_numbers_repeats_number : Int32) (t_numbers_repeats_blocks : Nat → Int32) (t_numbers_repeats_ends : Nat → Int32) (t_numbers_repeats_prices : Nat → Int32) (t_numbers_repeats_standing : Nat → Int32) (t_numbers_repeats_unlike : Nat → Int32) (t_numbers_table : Nat → Int64) (t_prices_fresh : Int32) (t_prices_items : Nat → Int32) (t_prices_repeats_rowSize : Int32) (t_prices_repeats_repeatPrice : Int32) (t_prices_repeats_correctionPrice : Int32) (t_prices_repeats_mostCorrections : Int32) (t_prices_repeats_number : Int32) (t_prices_repeats_blocks : Nat → Int32) (t_prices_repeats_ends : Nat → Int32) (t_prices_repeats_prices : Nat → Int32) (t_prices_repeats_standing : Nat → Int32) (t_prices_repeats_unlike : Nat → Int32) (t_prices_table : Nat → Int32) (t_reader_length : Int32) (t_reader_at : Int32) (t_reader_size : Int32) (t_reader_faultPlace : Int32) (t_reader_faultReason : Int32) (t_reader_lettersTold : Int32) (t_reader_repeatsTold : Int32) (t_reader_correctionsTold : Int32) (t_reader_mostCorrections : Int32) (t_reader_deepest : Int32) (t_reader_fresh : Int32) (t_reader_letters : Nat → Int32) (t_reader_signs : Nat → Int32) (t_runs_number : Int32) (t_runs_fresh : Int32) (t_runs_froms : Nat → Int32) (t_runs_periods : Nat → Int32) (t_runs_tos : Nat → Int32) (t_state_size : Int32) (t_state_letters : Nat → Int32) (t_state_settings : Nat → Int32) (t_telling_length : Int32) (t_telling_partFrom : Int32) (t_telling_partTo : Int32) (t_telling_items : Int32) (t_telling_deepest : Int32) (t_telling_repeatsTold : Int32) (t_telling_correctionsTold : Int32) (t_telling_firstLetters : Int32) (t_telling_firstTimes : Int32) (t_telling_chosenEnd : Int32) (t_telling_chosenBlock : Int32) (t_telling_fresh : Int32) (t_telling_repeats_rowSize : Int32) (t_telling_repeats_repeatPrice : Int32) (t_telling_repeats_correctionPrice : Int32) (t_telling_repeats_mostCorrections : Int32) (t_telling_repeats_number : Int32) (t_telling_repeats_blocks : Nat → Int32) (t_telling_repeats_ends : Nat → Int32) (t_telling_repeats_prices : Nat → Int32) (t_telling_repeats_standing : Nat → Int32) (t_telling_repeats_unlike : Nat → Int32) (t_telling_signs : Nat → Int32) (t_trial_fresh : Int32) (t_trial_found : Int32) (t_trial_bestPlace : Int32) (t_trial_bestLetter : Int32) (t_trial_bestPrice : Int32) (t_trial_prices_fresh : Int32) (t_trial_prices_items : Nat → Int32) (t_trial_prices_repeats_rowSize : Int32) (t_trial_prices_repeats_repeatPrice : Int32) (t_trial_prices_repeats_correctionPrice : Int32) (t_trial_prices_repeats_mostCorrections : Int32) (t_trial_prices_repeats_number : Int32) (t_trial_prices_repeats_blocks : Nat → Int32) (t_trial_prices_repeats_ends : Nat → Int32) (t_trial_prices_repeats_prices : Nat → Int32) (t_trial_prices_repeats_standing : Nat → Int32) (t_trial_prices_repeats_unlike : Nat → Int32) (t_trial_prices_table : Nat → Int32) (t_trial_tried_size : Int32) (t_trial_tried_letters : Nat → Int32) (t_trial_tried_settings : Nat → Int32) (w_states : Int32) (w_typed : Int32) (w_height : Int32) (w_length : Int32) (w_at : Int32) (w_ownLength : Int32) (w_depth : Int32) (w_deepest : Int32) (w_letters : Int32) (w_repeats : Int32) (w_corrections : Int32) (w_mostCorrections : Int32) (w_place : Int32) (w_reason : Int32) (w_begun : Nat → Int32) (w_block : Nat → Int32) (w_cost : Nat → Int32) (w_first : Nat → Int32) (w_itemAt : Nat → Int32) (w_levelAt : Nat → Int32) (w_many : Nat → Int64) (w_own : Nat → Int32) (w_s : Nat → Int32) (w_stack : Nat → Int32) (w_text : Nat → Int32) (w_times : Nat → Int32) (w_was : Nat → Int32) (w_written : Nat → Int32) (w_wrong : Nat → Int32) (x1 : Int32) (hI : Inv t_history_size t_history_states_e0_size t_history_states_e0_letters t_history_states_e0_settings t_history_states_e1_size t_history_states_e1_letters t_history_states_e1_settings t_history_states_e2_size t_history_states_e2_letters t_history_states_e2_settings t_history_states_e3_size t_history_states_e3_letters t_history_states_e3_settings t_numbers_fresh t_numbers_items t_numbers_repeats_rowSize t_numbers_repeats_repeatPrice t_numbers_repeats_correctionPrice t_numbers_repeats_mostCorrections t_numbers_repeats_number t_numbers_repeats_blocks t_numbers_repeats_ends t_numbers_repeats_prices t_numbers_repeats_standing t_numbers_repeats_unlike t_numbers_table t_prices_fresh t_prices_items t_prices_repeats_rowSize t_prices_repeats_repeatPrice t_prices_repeats_correctionPrice t_prices_repeats_mostCorrections t_prices_repeats_number t_prices_repeats_blocks t_prices_repeats_ends t_prices_repeats_prices t_prices_repeats_standing t_prices_repeats_unlike t_prices_table t_reader_length t_reader_at t_reader_size t_reader_faultPlace t_reader_faultReason t_reader_lettersTold t_reader_repeatsTold t_reader_correctionsTold t_reader_mostCorrections t_reader_deepest t_reader_fresh t_reader_letters t_reader_signs t_runs_number t_runs_fresh t_runs_froms t_runs_periods t_runs_tos t_state_size t_state_letters t_state_settings t_telling_length t_telling_partFrom t_telling_partTo t_telling_items t_telling_deepest t_telling_repeatsTold t_telling_correctionsTold t_telling_firstLetters t_telling_firstTimes t_telling_chosenEnd t_telling_chosenBlock t_telling_fresh t_telling_repeats_rowSize t_telling_repeats_repeatPrice t_telling_repeats_correctionPrice t_telling_repeats_mostCorrections t_telling_repeats_number t_telling_repeats_blocks t_telling_repeats_ends t_telling_repeats_prices t_telling_repeats_standing t_telling_repeats_unlike t_telling_signs t_trial_fresh t_trial_found t_trial_bestPlace t_trial_bestLetter t_trial_bestPrice t_trial_prices_fresh t_trial_prices_items t_trial_prices_repeats_rowSize t_trial_prices_repeats_repeatPrice t_trial_prices_repeats_correctionPrice t_trial_prices_repeats_mostCorrections t_trial_prices_repeats_number t_trial_prices_repeats_blocks t_trial_prices_repeats_ends t_trial_prices_repeats_prices t_trial_prices_repeats_standing t_trial_prices_repeats_unlike t_trial_prices_table t_trial_tried_size t_trial_tried_letters t_trial_tried_settings w_states w_typed w_height w_length w_at w_ownLength w_depth w_deepest w_letters w_repeats w_corrections w_mostCorrections w_place w_reason w_begun w_block w_cost w_first w_itemAt w_levelAt w_many w_own w_s w_stack w_text w_times w_was w_written w_wrong) : ∃ (r : Int32) (y_t_reader_at : Int32) (y_t_reader_size : Int32) (y_t_reader_faultPlace : Int32) (y_t_reader_faultReason : Int32) (y_t_reader_lettersTold : Int32) (y_t_reader_repeatsTold : Int32) (y_t_reader_correctionsTold : Int32) (y_t_reader_mostCorrections : Int32) (y_t_reader_deepest : Int32) (y_t_reader_fresh : Int32) (y_t_reader_letters : Nat → Int32) (y_w_at : Int32) (y_w_ownLength : Int32) (y_w_depth : Int32) (y_w_deepest : Int32) (y_w_letters : Int32) (y_w_repeats : Int32) (y_w_corrections : Int32) (y_w_mostCorrections : Int32) (y_w_place : Int32) (y_w_reason : Int32) (y_w_itemAt : Nat → Int32) (y_w_levelAt : Nat → Int32) (y_w_own : Nat → Int32) (y_w_times : Nat → Int32), fRN_told t_reader_length t_reader_signs t_state_size t_state_letters t_state_settings t_reader_at t_reader_size t_reader_faultPlace t_reader_faultReason t_reader_lettersTold t_reader_repeatsTold t_reader_correctionsTold t_reader_mostCorrections t_reader_deepest t_reader_fresh t_reader_letters x1 = some (r, y_t_reader_at, y_t_reader_size, y_t_reader_faultPlace, y_t_reader_faultReason, y_t_reader_lettersTold, y_t_reader_repeatsTold, y_t_reader_correctionsTold, y_t_reader_mostCorrections, y_t_reader_deepest, y_t_reader_fresh, y_t_reader_letters) ∧ fMD_told w_typed w_s w_text w_at w_ownLength w_depth w_deepest w_letters w_repeats w_corrections w_mostCorrections w_place w_reason w_itemAt w_levelAt w_own w_times x1 = some (r, y_w_at, y_w_ownLength, y_w_depth, y_w_deepest, y_w_letters, y_w_repeats, y_w_corrections, y_w_mostCorrections, y_w_place, y_w_reason, y_w_itemAt, y_w_levelAt, y_w_own, y_w_times) ∧ Inv t_history_size t_history_states_e0_size t_history_states_e0_letters t_history_states_e0_settings t_history_states_e1_size t_history_states_e1_letters t_history_states_e1_settings t_history_states_e2_size t_history_states_e2_letters t_history_states_e2_settings t_history_states_e3_size t_history_states_e3_letters t_history_states_e3_settings t_numbers_fresh t_numbers_items t_numbers_repeats_rowSize t_numbers_repeats_repeatPrice t_numbers_repeats_correctionPrice t_numbers_repeats_mostCorrections t_numbers_repeats_number t_numbers_repeats_blocks t_numbers_repeats_ends t_numbers_repeats_prices t_numbers_repeats_standing t_numbers_repeats_unlike t_numbers_table t_prices_fresh t_prices_items t_prices_repeats_rowSize t_prices_repeats_repeatPrice t_prices_repeats_correctionPrice t_prices_repeats_mostCorrections t_prices_repeats_number t_prices_repeats_blocks t_prices_repeats_ends t_prices_repeats_prices t_prices_repeats_standing t_prices_repeats_unlike t_prices_table t_reader_length y_t_reader_at y_t_reader_size y_t_reader_faultPlace y_t_reader_faultReason y_t_reader_lettersTold y_t_reader_repeatsTold y_t_reader_correctionsTold y_t_reader_mostCorrections y_t_reader_deepest y_t_reader_fresh y_t_reader_letters t_reader_signs t_runs_number t_runs_fresh t_runs_froms t_runs_periods t_runs_tos t_state_size t_state_letters t_state_settings t_telling_length t_telling_partFrom t_telling_partTo t_telling_items t_telling_deepest t_telling_repeatsTold t_telling_correctionsTold t_telling_firstLetters t_telling_firstTimes t_telling_chosenEnd t_telling_chosenBlock t_telling_fresh t_telling_repeats_rowSize t_telling_repeats_repeatPrice t_telling_repeats_correctionPrice t_telling_repeats_mostCorrections t_telling_repeats_number t_telling_repeats_blocks t_telling_repeats_ends t_telling_repeats_prices t_telling_repeats_standing t_telling_repeats_unlike t_telling_signs t_trial_fresh t_trial_found t_trial_bestPlace t_trial_bestLetter t_trial_bestPrice t_trial_prices_fresh t_trial_prices_items t_trial_prices_repeats_rowSize t_trial_prices_repeats_repeatPrice t_trial_prices_repeats_correctionPrice t_trial_prices_repeats_mostCorrections t_trial_prices_repeats_number t_trial_prices_repeats_blocks t_trial_prices_repeats_ends t_trial_prices_repeats_prices t_trial_prices_repeats_standing t_trial_prices_repeats_unlike t_trial_prices_table t_trial_tried_size t_trial_tried_letters t_trial_tried_settings w_states w_typed w_height w_length y_w_at y_w_ownLength y_w_depth y_w_deepest y_w_letters y_w_repeats y_w_corrections y_w_mostCorrections y_w_place y_w_reason w_begun w_block w_cost w_first y_w_itemAt y_w_levelAt w_many y_w_own w_s w_stack w_text y_w_times w_was w_written w_wrong := by
  obtain ⟨hS, hH, hT, c1, c2, c3, c4, c5, c6⟩ := id hI
  obtain ⟨a1, s1, f1, r1, l1, p1, k1, m1, d1, L1, e1, hV, hR⟩ := reader_fresh hT c6 t_reader_at
  obtain ⟨b1, b2, b3, b4, b5, b6, b7, b8, B1, B2, B3, B4, hR2⟩ := hR w_place w_reason w_itemAt w_levelAt w_own w_times
  obtain ⟨n, rfl, hn, hSt, hMd⟩ := SS_can hS
  have hS5 := hSt.2.2.2.1
  have hM1 : ∀ k, k < 5 → w_s (1 + k) = t_state_settings k := fun k hk => by
    have := hMd.2.1 k hk
    rw [Nat.zero_add] at this
    rw [this, hS5 k hk]
  have hLL : ∀ i, i < n → ∃ a : Nat, a < 4 ∧ t_state_letters i = nI a ∧ w_s (6 + i) = nI a := fun i hi => by
    have h1 := hSt.2.2.1 i hi
    have h2 := hMd.2.2 i hi
    rw [Nat.zero_add] at h2
    exact ⟨_, h1.1, h1.2, h2⟩
  have hm : w_s 0 = nI n := hMd.1
  have hw1 : rd w_s (1 : Int32) = t_state_settings 0 := hM1 0 (by omega)
  have hw2 : rd w_s (2 : Int32) = t_state_settings 1 := hM1 1 (by omega)
  have hw3 : rd w_s (3 : Int32) = t_state_settings 2 := hM1 2 (by omega)
  have hval : (∃ x : Nat, x ≤ 5 ∧ x1 = nI x) ∨ (∃ k : Nat, k < 24 ∧ x1 = nI (100 + k)) ∨ (fRN_told t_reader_length t_reader_signs (nI n) t_state_letters t_state_settings t_reader_at t_reader_size t_reader_faultPlace t_reader_faultReason t_reader_lettersTold t_reader_repeatsTold t_reader_correctionsTold t_reader_mostCorrections t_reader_deepest t_reader_fresh t_reader_letters x1 = some ((-1000001 : Int32), t_reader_at, t_reader_size, t_reader_faultPlace, t_reader_faultReason, t_reader_lettersTold, t_reader_repeatsTold, t_reader_correctionsTold, t_reader_mostCorrections, t_reader_deepest, t_reader_fresh, t_reader_letters) ∧ fMD_told w_typed w_s w_text w_at w_ownLength w_depth w_deepest w_letters w_repeats w_corrections w_mostCorrections w_place w_reason w_itemAt w_levelAt w_own w_times x1 = some ((-1000001 : Int32), w_at, w_ownLength, w_depth, w_deepest, w_letters, w_repeats, w_corrections, w_mostCorrections, w_place, w_reason, w_itemAt, w_levelAt, w_own, w_times)) := by
    rcases in_cases x1 (a := 0) (b := 5) (by omega) (by omega) with ⟨x, hx0, hx1, rfl, k2⟩ | ⟨k3, k2⟩
    · exact Or.inl ⟨x, hx1, rfl⟩
    · rcases in_cases x1 (a := 100) (b := 123) (by omega) (by omega) with ⟨x, hx0, hx1, rfl, q2⟩ | ⟨q3, q2⟩
      · exact Or.inr (Or.inl ⟨x - 100, by omega, by rw [show 100 + (x - 100) = x by omega]⟩)
      · right; right
        have k2' : fMD_in x1 (0 : Int32) (5 : Int32) = some (nI 0) := k2
        have q2' : fMD_in x1 (100 : Int32) (123 : Int32) = some (nI 0) := q2
        refine ⟨?_, by rw [fMD_told, k2', Option.bind_some, if_pos (by decide), q2', Option.bind_some, if_pos (by decide)]⟩
        rcases k3 with k3 | ⟨k, hk, rfl, k3⟩
        · rw [fRN_told, if_pos (show x1 < (100 : Int32) from neg_lt k3 (a := 100) (by omega)), fRN_told_21, fRN_told_22, if_pos rfl, if_pos k3]
        · have k5 : 5 < k := by omega
          have h22 : ∀ y : Int32, fRN_told_21 t_reader_length t_reader_signs (nI n) t_state_letters t_state_settings (nI k) y t_reader_at t_reader_size t_reader_faultPlace t_reader_faultReason t_reader_lettersTold t_reader_repeatsTold t_reader_correctionsTold t_reader_mostCorrections t_reader_deepest t_reader_fresh t_reader_letters = some ((-1000001 : Int32), t_reader_at, t_reader_size, t_reader_faultPlace, t_reader_faultReason, t_reader_lettersTold, t_reader_repeatsTold, t_reader_correctionsTold, t_reader_mostCorrections, t_reader_deepest, t_reader_fresh, t_reader_letters) := by
            intro y
            rw [fRN_told_21, fRN_told_22, if_pos rfl, if_neg (nI_pos hk), if_neg (show ¬ nI k ≤ (5 : Int32) from nI_ge (a := 5) k5 hk)]
          rw [fRN_told]
          by_cases z : k < 100
          · rw [if_pos (show nI k < (100 : Int32) from nI_lt (b := 100) z (by decide)), h22]
          · have z2 : 123 < k := by
              rcases q3 with q3 | ⟨k', hk', q4, q5⟩
              · exact absurd q3 (nI_pos hk)
              · have := (nI_eq hk hk').mp q4
                omega
            rw [if_neg (show ¬ nI k < (100 : Int32) from nI_nlt (b := 100) (by omega) hk), li100, pk_sub (by omega), if_pos (show (24 : Int32) ≤ nI (k - 100) from nI_le (a := 24) (by omega) (by omega)), h22]
  have hcls : ∀ k : Nat, k ≤ 5 → x1 = nI k → fRN_told t_reader_length t_reader_signs (nI n) t_state_letters t_state_settings t_reader_at t_reader_size t_reader_faultPlace t_reader_faultReason t_reader_lettersTold t_reader_repeatsTold t_reader_correctionsTold t_reader_mostCorrections t_reader_deepest t_reader_fresh t_reader_letters x1 = fRN_told_39 t_reader_length t_reader_signs (nI n) t_state_letters t_state_settings x1 (x1 - (100 : Int32)) (0 : Int32) t_reader_at t_reader_size t_reader_faultPlace t_reader_faultReason t_reader_lettersTold t_reader_repeatsTold t_reader_correctionsTold t_reader_mostCorrections t_reader_deepest t_reader_fresh t_reader_letters ∧ fMD_told w_typed w_s w_text w_at w_ownLength w_depth w_deepest w_letters w_repeats w_corrections w_mostCorrections w_place w_reason w_itemAt w_levelAt w_own w_times x1 = fMD_told_23 w_typed w_s w_text x1 w_at w_ownLength w_depth w_deepest w_letters w_repeats w_corrections w_mostCorrections w_place w_reason w_itemAt w_levelAt w_own w_times := by
    intro k hk hx
    refine ⟨by rw [fRN_told, if_pos (show x1 < (100 : Int32) by rw [hx]; exact nI_lt (b := 100) (by omega) (by decide)), fRN_told_21, fRN_told_22, if_pos rfl, if_neg (show ¬ x1 < 0 by rw [hx]; exact nI_pos (by omega)), if_pos (show x1 ≤ (5 : Int32) by rw [hx]; exact nI_le (b := 5) (by omega) (by decide))], ?_⟩
    have k2' : fMD_in x1 (0 : Int32) (5 : Int32) = some (1 : Int32) := by
      rw [fMD_in, if_neg (show ¬ x1 < 0 by rw [hx]; exact nI_pos (by omega)), if_neg (show ¬ (5 : Int32) < x1 by rw [hx]; exact nI_nlt (a := 5) hk (by decide))]
    rw [fMD_told, k2', Option.bind_some, if_neg (by decide)]
  have hcls2 : ∀ k : Nat, k < 24 → x1 = nI (100 + k) → fRN_told t_reader_length t_reader_signs (nI n) t_state_letters t_state_settings t_reader_at t_reader_size t_reader_faultPlace t_reader_faultReason t_reader_lettersTold t_reader_repeatsTold t_reader_correctionsTold t_reader_mostCorrections t_reader_deepest t_reader_fresh t_reader_letters x1 = fRN_told_39 t_reader_length t_reader_signs (nI n) t_state_letters t_state_settings x1 (nI k) (1 : Int32) t_reader_at t_reader_size t_reader_faultPlace t_reader_faultReason t_reader_lettersTold t_reader_repeatsTold t_reader_correctionsTold t_reader_mostCorrections t_reader_deepest t_reader_fresh t_reader_letters ∧ fMD_told w_typed w_s w_text w_at w_ownLength w_depth w_deepest w_letters w_repeats w_corrections w_mostCorrections w_place w_reason w_itemAt w_levelAt w_own w_times x1 = fMD_told_23 w_typed w_s w_text x1 w_at w_ownLength w_depth w_deepest w_letters w_repeats w_corrections w_mostCorrections w_place w_reason w_itemAt w_levelAt w_own w_times ∧ x1 - (100 : Int32) = nI k := by
    intro k hk hx
    have hsub : x1 - (100 : Int32) = nI k := by rw [hx, li100, pk_sub (by omega), show 100 + k - 100 = k by omega]
    refine ⟨by rw [fRN_told, hsub, if_neg (show ¬ x1 < (100 : Int32) by rw [hx]; exact nI_nlt (b := 100) (by omega) (by omega)), if_neg (show ¬ (24 : Int32) ≤ nI k from nI_ge (b := 24) hk (by decide)), fRN_told_22, if_neg (by decide)], ?_, hsub⟩
    have k2' : fMD_in x1 (0 : Int32) (5 : Int32) = some (0 : Int32) := by
      rw [fMD_in, if_neg (show ¬ x1 < 0 by rw [hx]; exact nI_pos (by omega)), if_pos (show (5 : Int32) < x1 by rw [hx]; exact nI_lt (a := 5) (by omega) (by omega))]
    have k3' : fMD_in x1 (100 : Int32) (123 : Int32) = some (1 : Int32) := by
      rw [fMD_in, if_neg (show ¬ x1 < (100 : Int32) by rw [hx]; exact nI_nlt (b := 100) (by omega) (by omega)), if_neg (show ¬ (123 : Int32) < x1 by rw [hx]; exact nI_nlt (a := 123) (by omega) (by decide))]
    rw [fMD_told, k2', Option.bind_some, if_pos rfl, k3', Option.bind_some, if_neg (by decide)]
  rcases hval with hx | hx | ⟨v1, v2⟩
  rotate_left
  rotate_left
  · exact ⟨(-1000001), t_reader_at, t_reader_size, t_reader_faultPlace, t_reader_faultReason, t_reader_lettersTold, t_reader_repeatsTold, t_reader_correctionsTold, t_reader_mostCorrections, t_reader_deepest, t_reader_fresh, t_reader_letters, w_at, w_ownLength, w_depth, w_deepest, w_letters, w_repeats, w_corrections, w_mostCorrections, w_place, w_reason, w_itemAt, w_levelAt, w_own, w_times, v1, v2, hI⟩
  · obtain ⟨k, hk, hx⟩ := hx
    obtain ⟨v1, v2⟩ := hcls k hk hx
    rcases hR2 with ⟨g1, g2⟩ | ⟨g1, s, g2, g3, rfl, g5, g6⟩
    · refine ⟨(-1000002), a1, s1, f1, r1, l1, p1, k1, m1, d1, 1, L1, b1, b2, b3, b4, b5, b6, b7, b8, f1, r1, B1, B2, B3, B4, ?_, ?_, hS, hH, hT, c1, c2, c3, c4, c5, Or.inr ⟨rfl, hV⟩⟩
      · rw [v1, fRN_told_39, e1, Option.bind_some]
        dsimp only
        rw [fRd_hasFault, if_neg g1, Option.bind_some, if_neg (by decide)]
      · rw [v2, fMD_told_23, g2, Option.bind_some]
        dsimp only
        rw [if_pos rfl]
    · have hq : ∃ R, fRd_measure (nI s) l1 p1 k1 m1 d1 L1 (nI n) t_state_letters t_state_settings x1 = some R ∧ fMD_told_23 w_typed w_s w_text x1 w_at w_ownLength w_depth w_deepest w_letters w_repeats w_corrections w_mostCorrections w_place w_reason w_itemAt w_levelAt w_own w_times = some (R, b1, nI s, b3, d1, l1, p1, k1, m1, w_place, w_reason, B1, B2, B3, B4) := by
        rw [fMD_told_23, g6, Option.bind_some]
        dsimp only
        rw [if_neg (by decide), hx]
        rcases (show k = 0 ∨ k = 1 ∨ k = 2 ∨ k = 3 ∨ k = 4 ∨ k = 5 by omega) with rfl | rfl | rfl | rfl | rfl | rfl
        · refine ⟨l1 * t_state_settings 0 + p1 * t_state_settings 1 + k1 * t_state_settings 2, ?_, ?_⟩
          · rw [fRd_measure, if_pos (by decide), li0, li1, li2, pSt_setting (by omega), Option.bind_some, pSt_setting (by omega), Option.bind_some, pSt_setting (by omega), Option.bind_some]
          · rw [if_pos (by decide), hw1, hw2, hw3]
        · exact ⟨_, by rw [fRd_measure, if_neg (by decide), if_pos (by decide)], by rw [if_neg (by decide), if_pos (by decide)]⟩
        · exact ⟨_, by rw [fRd_measure, if_neg (by decide), if_neg (by decide), if_pos (by decide)], by rw [if_neg (by decide), if_neg (by decide), if_pos (by decide)]⟩
        · exact ⟨_, by rw [fRd_measure, if_neg (by decide), if_neg (by decide), if_neg (by decide), if_pos (by decide)], by rw [if_neg (by decide), if_neg (by decide), if_neg (by decide), if_pos (by decide)]⟩
        · exact ⟨_, by rw [fRd_measure, if_neg (by decide), if_neg (by decide), if_neg (by decide), if_neg (by decide), if_pos (by decide)], by rw [if_neg (by decide), if_neg (by decide), if_neg (by decide), if_neg (by decide), if_pos (by decide)]⟩
        · obtain ⟨b, hb, i1, i2⟩ := isRow_ok g3 hn g5 hLL hm
          refine ⟨if nI b = 0 then (0 : Int32) else (1 : Int32), ?_, ?_⟩
          · rw [fRd_measure, if_neg (by decide), if_neg (by decide), if_neg (by decide), if_neg (by decide), if_neg (by decide), i1, Option.bind_some]
            by_cases z : nI b = 0
            · rw [if_pos z, if_pos z]
            · rw [if_neg z, if_neg z]
          · rw [if_neg (by decide), if_neg (by decide), if_neg (by decide), if_neg (by decide), if_neg (by decide), if_pos (by decide), i2, Option.bind_some]
            by_cases z : nI b = 0
            · rw [if_pos z, if_pos z]
            · rw [if_neg z, if_neg z]
      obtain ⟨R, i1, i2⟩ := hq
      refine ⟨R, a1, nI s, f1, r1, l1, p1, k1, m1, d1, 1, L1, b1, nI s, b3, d1, l1, p1, k1, m1, w_place, w_reason, B1, B2, B3, B4, ?_, v2.trans i2, hS, hH, hT, c1, c2, c3, c4, c5, Or.inr ⟨rfl, hV⟩⟩
      rw [v1, fRN_told_39, e1, Option.bind_some]
      dsimp only
      rw [fRd_hasFault, if_pos g1, Option.bind_some, if_pos rfl, if_pos rfl, i1, Option.bind_some]
  · obtain ⟨k, hk, hx⟩ := hx
    obtain ⟨v1, v2, v3⟩ := hcls2 k hk hx
    rcases hR2 with ⟨g1, g2⟩ | ⟨g1, s, g2, g3, rfl, g5, g6⟩
    · refine ⟨(-1000002), a1, s1, f1, r1, l1, p1, k1, m1, d1, 1, L1, b1, b2, b3, b4, b5, b6, b7, b8, f1, r1, B1, B2, B3, B4, ?_, ?_, hS, hH, hT, c1, c2, c3, c4, c5, Or.inr ⟨rfl, hV⟩⟩
      · rw [v1, fRN_told_39, e1, Option.bind_some]
        dsimp only
        rw [fRd_hasFault, if_neg g1, Option.bind_some, if_neg (by decide)]
      · rw [v2, fMD_told_23, g2, Option.bind_some]
        dsimp only
        rw [if_pos rfl]
    · have hne : ∀ c : Nat, c < 10 → ¬ x1 = nI c := fun c hc => by rw [hx, nI_eq (by omega) (by omega)]; omega
      have i2 : ∀ R : Int32, R = (if s ≤ k then (-1000004 : Int32) else B3 k) → fMD_told_23 w_typed w_s w_text x1 w_at w_ownLength w_depth w_deepest w_letters w_repeats w_corrections w_mostCorrections w_place w_reason w_itemAt w_levelAt w_own w_times = some (R, b1, nI s, b3, d1, l1, p1, k1, m1, w_place, w_reason, B1, B2, B3, B4) := by
        intro R hRR
        rw [fMD_told_23, g6, Option.bind_some]
        dsimp only
        rw [if_neg (by decide), if_neg (show ¬ x1 = (0 : Int32) from hne 0 (by omega)), if_neg (show ¬ x1 = (1 : Int32) from hne 1 (by omega)), if_neg (show ¬ x1 = (2 : Int32) from hne 2 (by omega)), if_neg (show ¬ x1 = (3 : Int32) from hne 3 (by omega)), if_neg (show ¬ x1 = (4 : Int32) from hne 4 (by omega)), if_neg (show ¬ x1 = (5 : Int32) from hne 5 (by omega)), v3, hRR]
        by_cases z : s ≤ k
        · rw [if_pos (nI_le z (by omega)), if_pos z]
        · rw [if_neg (nI_ge (by omega) (by omega)), if_neg z, if_pos (bIn_nI (by omega) (by omega)), rd_nI (by omega)]
      by_cases z : s ≤ k
      · refine ⟨(-1000004), a1, nI s, f1, r1, l1, p1, k1, m1, d1, 1, L1, b1, nI s, b3, d1, l1, p1, k1, m1, w_place, w_reason, B1, B2, B3, B4, ?_, v2.trans (i2 _ (by rw [if_pos z])), hS, hH, hT, c1, c2, c3, c4, c5, Or.inr ⟨rfl, hV⟩⟩
        rw [v1, fRN_told_39, e1, Option.bind_some]
        dsimp only
        rw [fRd_hasFault, if_pos g1, Option.bind_some, if_pos rfl, if_neg (by decide), if_pos (nI_le z (by omega))]
      · obtain ⟨a, ha, ha1, ha2⟩ := g5 k (by omega)
        refine ⟨nI a, a1, nI s, f1, r1, l1, p1, k1, m1, d1, 1, L1, b1, nI s, b3, d1, l1, p1, k1, m1, w_place, w_reason, B1, B2, B3, B4, ?_, v2.trans (i2 _ (by rw [if_neg z, ha2])), hS, hH, hT, c1, c2, c3, c4, c5, Or.inr ⟨rfl, hV⟩⟩
        rw [v1, fRN_told_39, e1, Option.bind_some]
        dsimp only
        rw [fRd_hasFault, if_pos g1, Option.bind_some, if_pos rfl, if_neg (by decide), if_neg (nI_ge (by omega) (by omega)), pRd_letter (by omega), Option.bind_some, ha1]
/-- adopt's loops -/
theorem pRN_ad34 {s : Nat} {lets : Nat → Int32} (hs : s ≤ 24) (hA : ∀ i, i < s → ∃ a : Nat, a < 4 ∧ lets i = nI a) (hh : Int32) (z0 : Int32) (A0 B0 : Nat → Int32) (z1 : Int32) (A1 B1 : Nat → Int32) (z2 : Int32) (A2 B2 : Nat → Int32) (z3 : Int32) (A3 B3 : Nat → Int32) (nf pf a f r l p k mc d fr rf tf trf : Int32) : ∀ (q i N : Nat) (L : Nat → Int32), i + q = s → q < N → fRN_adopt_34 N (nI i) hh z0 A0 B0 z1 A1 B1 z2 A2 B2 z3 A3 B3 nf pf a (nI s) f r l p k mc d fr lets rf (nI i) (fl lets L i) tf trf = some (nI s, hh, z0, A0, B0, z1, A1, B1, z2, A2, B2, z3, A3, B3, nf, pf, a, nI s, f, r, l, p, k, mc, d, fr, lets, rf, nI s, fl lets L s, tf, trf) := by
  intro q
  induction q with
  | zero =>
    intro i N L h1 h2
    obtain ⟨N, rfl⟩ : ∃ q, N = q + 1 := ⟨N - 1, by omega⟩
    have : i = s := by omega
    subst this
    rw [fRN_adopt_34, if_pos (nI_le (Nat.le_refl _) (by omega))]
  | succ q ih =>
    intro i N L h1 h2
    obtain ⟨N, rfl⟩ : ∃ q, N = q + 1 := ⟨N - 1, by omega⟩
    rw [fRN_adopt_34, if_neg (nI_ge (by omega) (by omega)), pRd_letter (by omega), Option.bind_some, pSt_addLetter (by omega), Option.bind_some]
    dsimp only
    rw [nI_1, fl_s]
    exact ih (i + 1) N L (by omega) (by omega)
theorem pMD_ad16 {s : Nat} {ow : Nat → Int32} (hs : s ≤ 24) (st a de dp_ le re co mo pl rs : Int32) (bg ia la ti wa : Nat → Int32) : ∀ (q i N : Nat) (S : Nat → Int32), i + q = s → q < N → fMD_adopt_16 N (nI i) st a (nI s) de dp_ le re co mo pl rs bg ia la ow (ins S ow 6 i) ti wa = (fMD_acted bg st wa (nI s)).bind fun o2 => some (o2.1, o2.2.1, a, nI s, de, dp_, le, re, co, mo, pl, rs, bg, ia, la, ow, upd (ins S ow 6 s) 0 (nI s), ti, o2.2.2) := by
  intro q
  induction q with
  | zero =>
    intro i N S h1 h2
    obtain ⟨N, rfl⟩ : ∃ q, N = q + 1 := ⟨N - 1, by omega⟩
    have : i = s := by omega
    subst this
    rw [fMD_adopt_16, if_pos (nI_le (Nat.le_refl _) (by omega)), li0, wr_nI (by omega)]
  | succ q ih =>
    intro i N S h1 h2
    obtain ⟨N, rfl⟩ : ∃ q, N = q + 1 := ⟨N - 1, by omega⟩
    rw [fMD_adopt_16, if_neg (nI_ge (by omega) (by omega)), if_pos (bIn_nI (by omega) (by omega)), li6, nI_add, if_pos (bIn_nI (by omega) (by omega)), rd_nI (by omega), wr_nI (by omega), ins_s, nI_1]
    exact ih (i + 1) N S (by omega) (by omega)
set_option maxHeartbeats 4000000 in
theorem sim_adopt (t_history_size : Int32) (t_history_states_e0_size : Int32) (t_history_states_e0_letters : Nat → Int32) (t_history_states_e0_settings : Nat → Int32) (t_history_states_e1_size : Int32) (t_history_states_e1_letters : Nat → Int32) (t_history_states_e1_settings : Nat → Int32) (t_history_states_e2_size : Int32) (t_history_states_e2_letters : Nat → Int32) (t_history_states_e2_settings : Nat → Int32) (t_history_states_e3_size : Int32) (t_history_states_e3_letters : Nat → Int32) (t_history_states_e3_settings : Nat → Int32) (t_numbers_fresh : Int32) (t_numbers_items : Nat → Int64) (t_numbers_repeats_rowSize : Int32) (t_numbers_repeats_repeatPrice : Int32) (t_numbers_repeats_correctionPrice : Int32) (t_numbers_repeats_mostCorrections : Int32) (t_numbers_repeats_number : Int32) (t_numbers_repeats_blocks : Nat → Int32) (t_numbers_repeats_ends : Nat → Int32) (t_numbers_repeats_prices : Nat → Int32) (t_numbers_repeats_standing : Nat → Int32) (t_numbers_repeats_unlike : Nat → Int32) (t_numbers_table : Nat → Int64) (t_prices_fresh : Int32) (t_prices_items : Nat → Int32) (t_prices_repeats_rowSize : Int32) (t_prices_repeats_repeatPrice : Int32) (t_prices_repeats_correctionPrice : Int32) (t_prices_repeats_mostCorrections : Int32) (t_prices_repeats_number : Int32) (t_prices_repeats_blocks : Nat → Int32) (t_prices_repeats_ends : Nat → Int32) (t_prices_repeats_prices : Nat → Int32) (t_prices_repeats_standing : Nat → Int32) (t_prices_repeats_unlike : Nat → Int32) (t_prices_table : Nat → Int32) (t_reader_length : Int32) (t_reader_at : Int32) (t_reader_size : Int32) (t_reader_faultPlace : Int32) (t_reader_faultReason : Int32) (t_reader_lettersTold : Int32) (t_reader_repeatsTold : Int32) (t_reader_correctionsTold : Int32) (t_reader_mostCorrections : Int32) (t_reader_deepest : Int32) (t_reader_fresh : Int32) (t_reader_letters : Nat → Int32) (t_reader_signs : Nat → Int32) (t_runs_number : Int32) (t_runs_fresh : Int32) (t_runs_froms : Nat → Int32) (t_runs_periods : Nat → Int32) (t_runs_tos : Nat → Int32) (t_state_size : Int32) (t_state_letters : Nat → Int32) (t_state_settings : Nat → Int32) (t_telling_length : Int32) (t_telling_partFrom : Int32) (t_telling_partTo : Int32) (t_telling_items : Int32) (t_telling_deepest : Int32) (t_telling_repeatsTold : Int32) (t_telling_correctionsTold : Int32) (t_telling_firstLetters : Int32) (t_telling_firstTimes : Int32) (t_telling_chosenEnd : Int32) (t_telling_chosenBlock : Int32) (t_telling_fresh : Int32) (t_telling_repeats_rowSize : Int32) (t_telling_repeats_repeatPrice : Int32) (t_telling_repeats_correctionPrice : Int32) (t_telling_repeats_mostCorrections : Int32) (t_telling_repeats_number : Int32) (t_telling_repeats_blocks : Nat → Int32) (t_telling_repeats_ends : Nat → Int32) (t_telling_repeats_prices : Nat → Int32) (t_telling_repeats_standing : Nat → Int32) (t_telling_repeats_unlike : Nat → Int32) (t_telling_signs : Nat → Int32) (t_trial_fresh : Int32) (t_trial_found : Int32) (t_trial_bestPlace : Int32) (t_trial_bestLetter : Int32) (t_trial_bestPrice : Int32) (t_trial_prices_fresh : Int32) (t_trial_prices_items : Nat → Int32) (t_trial_prices_repeats_rowSize : Int32) (t_trial_prices_repeats_repeatPrice : Int32) (t_trial_prices_repeats_correctionPrice : Int32) (t_trial_prices_repeats_mostCorrections : Int32) (t_trial_prices_repeats_number : Int32) (t_trial_prices_repeats_blocks : Nat → Int32) (t_trial_prices_repeats_ends : Nat → Int32) (t_trial_prices_repeats_prices : Nat → Int32) (t_trial_prices_repeats_standing : Nat → Int32) (t_trial_prices_repeats_unlike : Nat → Int32) (t_trial_prices_table : Nat → Int32) (t_trial_tried_size : Int32) (t_trial_tried_letters : Nat → Int32) (t_trial_tried_settings : Nat → Int32) (w_states : Int32) (w_typed : Int32) (w_height : Int32) (w_length : Int32) (w_at : Int32) (w_ownLength : Int32) (w_depth : Int32) (w_deepest : Int32) (w_letters : Int32) (w_repeats : Int32) (w_corrections : Int32) (w_mostCorrections : Int32) (w_place : Int32) (w_reason : Int32) (w_begun : Nat → Int32) (w_block : Nat → Int32) (w_cost : Nat → Int32) (w_first : Nat → Int32) (w_itemAt : Nat → Int32) (w_levelAt : Nat → Int32) (w_many : Nat → Int64) (w_own : Nat → Int32) (w_s : Nat → Int32) (w_stack : Nat → Int32) (w_text : Nat → Int32) (w_times : Nat → Int32) (w_was : Nat → Int32) (w_written : Nat → Int32) (w_wrong : Nat → Int32)  (hI : Inv t_history_size t_history_states_e0_size t_history_states_e0_letters t_history_states_e0_settings t_history_states_e1_size t_history_states_e1_letters t_history_states_e1_settings t_history_states_e2_size t_history_states_e2_letters t_history_states_e2_settings t_history_states_e3_size t_history_states_e3_letters t_history_states_e3_settings t_numbers_fresh t_numbers_items t_numbers_repeats_rowSize t_numbers_repeats_repeatPrice t_numbers_repeats_correctionPrice t_numbers_repeats_mostCorrections t_numbers_repeats_number t_numbers_repeats_blocks t_numbers_repeats_ends t_numbers_repeats_prices t_numbers_repeats_standing t_numbers_repeats_unlike t_numbers_table t_prices_fresh t_prices_items t_prices_repeats_rowSize t_prices_repeats_repeatPrice t_prices_repeats_correctionPrice t_prices_repeats_mostCorrections t_prices_repeats_number t_prices_repeats_blocks t_prices_repeats_ends t_prices_repeats_prices t_prices_repeats_standing t_prices_repeats_unlike t_prices_table t_reader_length t_reader_at t_reader_size t_reader_faultPlace t_reader_faultReason t_reader_lettersTold t_reader_repeatsTold t_reader_correctionsTold t_reader_mostCorrections t_reader_deepest t_reader_fresh t_reader_letters t_reader_signs t_runs_number t_runs_fresh t_runs_froms t_runs_periods t_runs_tos t_state_size t_state_letters t_state_settings t_telling_length t_telling_partFrom t_telling_partTo t_telling_items t_telling_deepest t_telling_repeatsTold t_telling_correctionsTold t_telling_firstLetters t_telling_firstTimes t_telling_chosenEnd t_telling_chosenBlock t_telling_fresh t_telling_repeats_rowSize t_telling_repeats_repeatPrice t_telling_repeats_correctionPrice t_telling_repeats_mostCorrections t_telling_repeats_number t_telling_repeats_blocks t_telling_repeats_ends t_telling_repeats_prices t_telling_repeats_standing t_telling_repeats_unlike t_telling_signs t_trial_fresh t_trial_found t_trial_bestPlace t_trial_bestLetter t_trial_bestPrice t_trial_prices_fresh t_trial_prices_items t_trial_prices_repeats_rowSize t_trial_prices_repeats_repeatPrice t_trial_prices_repeats_correctionPrice t_trial_prices_repeats_mostCorrections t_trial_prices_repeats_number t_trial_prices_repeats_blocks t_trial_prices_repeats_ends t_trial_prices_repeats_prices t_trial_prices_repeats_standing t_trial_prices_repeats_unlike t_trial_prices_table t_trial_tried_size t_trial_tried_letters t_trial_tried_settings w_states w_typed w_height w_length w_at w_ownLength w_depth w_deepest w_letters w_repeats w_corrections w_mostCorrections w_place w_reason w_begun w_block w_cost w_first w_itemAt w_levelAt w_many w_own w_s w_stack w_text w_times w_was w_written w_wrong) : ∃ (r : Int32) (y_t_history_size : Int32) (y_t_history_states_e0_size : Int32) (y_t_history_states_e0_letters : Nat → Int32) (y_t_history_states_e0_settings : Nat → Int32) (y_t_history_states_e1_size : Int32) (y_t_history_states_e1_letters : Nat → Int32) (y_t_history_states_e1_settings : Nat → Int32) (y_t_history_states_e2_size : Int32) (y_t_history_states_e2_letters : Nat → Int32) (y_t_history_states_e2_settings : Nat → Int32) (y_t_history_states_e3_size : Int32) (y_t_history_states_e3_letters : Nat → Int32) (y_t_history_states_e3_settings : Nat → Int32) (y_t_numbers_fresh : Int32) (y_t_prices_fresh : Int32) (y_t_reader_at : Int32) (y_t_reader_size : Int32) (y_t_reader_faultPlace : Int32) (y_t_reader_faultReason : Int32) (y_t_reader_lettersTold : Int32) (y_t_reader_repeatsTold : Int32) (y_t_reader_correctionsTold : Int32) (y_t_reader_mostCorrections : Int32) (y_t_reader_deepest : Int32) (y_t_reader_fresh : Int32) (y_t_reader_letters : Nat → Int32) (y_t_runs_fresh : Int32) (y_t_state_size : Int32) (y_t_state_letters : Nat → Int32) (y_t_telling_fresh : Int32) (y_t_trial_fresh : Int32) (y_w_states : Int32) (y_w_at : Int32) (y_w_ownLength : Int32) (y_w_depth : Int32) (y_w_deepest : Int32) (y_w_letters : Int32) (y_w_repeats : Int32) (y_w_corrections : Int32) (y_w_mostCorrections : Int32) (y_w_place : Int32) (y_w_reason : Int32) (y_w_begun : Nat → Int32) (y_w_itemAt : Nat → Int32) (y_w_levelAt : Nat → Int32) (y_w_own : Nat → Int32) (y_w_s : Nat → Int32) (y_w_times : Nat → Int32) (y_w_was : Nat → Int32), fRN_adopt t_reader_length t_reader_signs t_state_settings t_history_size t_history_states_e0_size t_history_states_e0_letters t_history_states_e0_settings t_history_states_e1_size t_history_states_e1_letters t_history_states_e1_settings t_history_states_e2_size t_history_states_e2_letters t_history_states_e2_settings t_history_states_e3_size t_history_states_e3_letters t_history_states_e3_settings t_numbers_fresh t_prices_fresh t_reader_at t_reader_size t_reader_faultPlace t_reader_faultReason t_reader_lettersTold t_reader_repeatsTold t_reader_correctionsTold t_reader_mostCorrections t_reader_deepest t_reader_fresh t_reader_letters t_runs_fresh t_state_size t_state_letters t_telling_fresh t_trial_fresh = some (r, y_t_history_size, y_t_history_states_e0_size, y_t_history_states_e0_letters, y_t_history_states_e0_settings, y_t_history_states_e1_size, y_t_history_states_e1_letters, y_t_history_states_e1_settings, y_t_history_states_e2_size, y_t_history_states_e2_letters, y_t_history_states_e2_settings, y_t_history_states_e3_size, y_t_history_states_e3_letters, y_t_history_states_e3_settings, y_t_numbers_fresh, y_t_prices_fresh, y_t_reader_at, y_t_reader_size, y_t_reader_faultPlace, y_t_reader_faultReason, y_t_reader_lettersTold, y_t_reader_repeatsTold, y_t_reader_correctionsTold, y_t_reader_mostCorrections, y_t_reader_deepest, y_t_reader_fresh, y_t_reader_letters, y_t_runs_fresh, y_t_state_size, y_t_state_letters, y_t_telling_fresh, y_t_trial_fresh) ∧ fMD_adopt w_typed w_text w_states w_place w_reason w_begun w_itemAt w_levelAt w_own w_s w_times w_was = some (r, y_w_states, y_w_at, y_w_ownLength, y_w_depth, y_w_deepest, y_w_letters, y_w_repeats, y_w_corrections, y_w_mostCorrections, y_w_place, y_w_reason, y_w_begun, y_w_itemAt, y_w_levelAt, y_w_own, y_w_s, y_w_times, y_w_was) ∧ Inv y_t_history_size y_t_history_states_e0_size y_t_history_states_e0_letters y_t_history_states_e0_settings y_t_history_states_e1_size y_t_history_states_e1_letters y_t_history_states_e1_settings y_t_history_states_e2_size y_t_history_states_e2_letters y_t_history_states_e2_settings y_t_history_states_e3_size y_t_history_states_e3_letters y_t_history_states_e3_settings y_t_numbers_fresh t_numbers_items t_numbers_repeats_rowSize t_numbers_repeats_repeatPrice t_numbers_repeats_correctionPrice t_numbers_repeats_mostCorrections t_numbers_repeats_number t_numbers_repeats_blocks t_numbers_repeats_ends t_numbers_repeats_prices t_numbers_repeats_standing t_numbers_repeats_unlike t_numbers_table y_t_prices_fresh t_prices_items t_prices_repeats_rowSize t_prices_repeats_repeatPrice t_prices_repeats_correctionPrice t_prices_repeats_mostCorrections t_prices_repeats_number t_prices_repeats_blocks t_prices_repeats_ends t_prices_repeats_prices t_prices_repeats_standing t_prices_repeats_unlike t_prices_table t_reader_length y_t_reader_at y_t_reader_size y_t_reader_faultPlace y_t_reader_faultReason y_t_reader_lettersTold y_t_reader_repeatsTold y_t_reader_correctionsTold y_t_reader_mostCorrections y_t_reader_deepest y_t_reader_fresh y_t_reader_letters t_reader_signs t_runs_number y_t_runs_fresh t_runs_froms t_runs_periods t_runs_tos y_t_state_size y_t_state_letters t_state_settings t_telling_length t_telling_partFrom t_telling_partTo t_telling_items t_telling_deepest t_telling_repeatsTold t_telling_correctionsTold t_telling_firstLetters t_telling_firstTimes t_telling_chosenEnd t_telling_chosenBlock y_t_telling_fresh t_telling_repeats_rowSize t_telling_repeats_repeatPrice t_telling_repeats_correctionPrice t_telling_repeats_mostCorrections t_telling_repeats_number t_telling_repeats_blocks t_telling_repeats_ends t_telling_repeats_prices t_telling_repeats_standing t_telling_repeats_unlike t_telling_signs y_t_trial_fresh t_trial_found t_trial_bestPlace t_trial_bestLetter t_trial_bestPrice t_trial_prices_fresh t_trial_prices_items t_trial_prices_repeats_rowSize t_trial_prices_repeats_repeatPrice t_trial_prices_repeats_correctionPrice t_trial_prices_repeats_mostCorrections t_trial_prices_repeats_number t_trial_prices_repeats_blocks t_trial_prices_repeats_ends t_trial_prices_repeats_prices t_trial_prices_repeats_standing t_trial_prices_repeats_unlike t_trial_prices_table t_trial_tried_size t_trial_tried_letters t_trial_tried_settings y_w_states w_typed w_height w_length y_w_at y_w_ownLength y_w_depth y_w_deepest y_w_letters y_w_repeats y_w_corrections y_w_mostCorrections y_w_place y_w_reason y_w_begun w_block w_cost w_first y_w_itemAt y_w_levelAt w_many y_w_own y_w_s w_stack w_text y_w_times y_w_was w_written w_wrong := by
  obtain ⟨hS, hH, hT, c1, c2, c3, c4, c5, c6⟩ := id hI
  obtain ⟨a1, s1, f1, r1, l1, p1, k1, m1, d1, L1, e1, hV, hR⟩ := reader_fresh hT c6 t_reader_at
  obtain ⟨b1, b2, b3, b4, b5, b6, b7, b8, B1, B2, B3, B4, hR2⟩ := hR w_place w_reason w_itemAt w_levelAt w_own w_times
  rcases hR2 with ⟨g1, g2⟩ | ⟨g1, s, g2, g3, rfl, g5, g6⟩
  · refine ⟨(-1000002), t_history_size, t_history_states_e0_size, t_history_states_e0_letters, t_history_states_e0_settings, t_history_states_e1_size, t_history_states_e1_letters, t_history_states_e1_settings, t_history_states_e2_size, t_history_states_e2_letters, t_history_states_e2_settings, t_history_states_e3_size, t_history_states_e3_letters, t_history_states_e3_settings, t_numbers_fresh, t_prices_fresh, a1, s1, f1, r1, l1, p1, k1, m1, d1, 1, L1, t_runs_fresh, t_state_size, t_state_letters, t_telling_fresh, t_trial_fresh, w_states, b1, b2, b3, b4, b5, b6, b7, b8, f1, r1, w_begun, B1, B2, B3, w_s, B4, w_was, ?_, ?_, hS, hH, hT, c1, c2, c3, c4, c5, Or.inr ⟨rfl, hV⟩⟩
    · rw [fRN_adopt, e1, Option.bind_some]
      dsimp only
      rw [fRd_hasFault, if_neg g1, Option.bind_some, if_neg (by decide)]
    · rw [fMD_adopt, g2, Option.bind_some]
      dsimp only
      rw [if_pos rfl]
  · obtain ⟨h, rfl, rfl, hH⟩ := hH
    obtain ⟨c2, _⟩ := c2
    obtain ⟨c3, _⟩ := c3
    obtain ⟨c5, _⟩ := c5
    obtain ⟨n, w, g, ⟨rfl, hn, hw, hS5, hg⟩, m1', m2, m3⟩ := id hS
    obtain ⟨h2, a0, A0, C0, a1', A1, C1, a2, A2, C2, a3, A3, C3, f2, e, e2, e3⟩ := keep_ok hH hS (fl w_s w_begun 30) (fun j hj => fl_in hj) (r := nI s) (nI_neg1 (by omega))
    refine ⟨nI s, nI h2, a0, A0, C0, a1', A1, C1, a2, A2, C2, a3, A3, C3, 0, 0, a1, nI s, f1, r1, l1, p1, k1, m1, d1, 1, L1, 0, nI s, fl L1 t_state_letters s, 0, 0, nI h2, b1, nI s, b3, d1, l1, p1, k1, m1, w_place, w_reason, fl w_s w_begun 30, B1, B2, B3, upd (ins w_s B3 6 s) 0 (nI s), B4, f2, ?_, ?_, ?_⟩
    · have ha := pRN_ad34 (lets := L1) g3 (fun i hi => by obtain ⟨a, y1, y2, _⟩ := g5 i hi; exact ⟨a, y1, y2⟩) (nI h2) a0 A0 C0 a1' A1 C1 a2 A2 C2 a3 A3 C3 0 0 a1 f1 r1 l1 p1 k1 m1 d1 1 0 0 0 s 0 FU t_state_letters (by omega) (by show _ < 1000000; omega)
      rw [fl_0] at ha
      have hb : fRN_beginChange (nI n) t_state_letters t_state_settings (nI h) t_history_states_e0_size t_history_states_e0_letters t_history_states_e0_settings t_history_states_e1_size t_history_states_e1_letters t_history_states_e1_settings t_history_states_e2_size t_history_states_e2_letters t_history_states_e2_settings t_history_states_e3_size t_history_states_e3_letters t_history_states_e3_settings = some (nI h2, a0, A0, C0, a1', A1, C1, a2, A2, C2, a3, A3, C3, 0, 0, 0, 0, 0) := by
        simp (disch := omega) only [fRN_beginChange, e, fRN_forgetAnswers, Option.bind_some]
      rw [fRN_adopt, e1, Option.bind_some]
      dsimp only
      rw [fRd_hasFault, if_pos g1, Option.bind_some, if_pos rfl, hb, Option.bind_some]
      exact ha
    · have hm16 := pMD_ad16 (ow := B3) g3 (nI h) b1 b3 d1 l1 p1 k1 m1 w_place w_reason (fl w_s w_begun 30) B1 B2 B4 w_was s 0 FU w_s (by omega) (by show _ < 1000000; omega)
      rw [ins_0, e2, Option.bind_some] at hm16
      rw [fMD_adopt, g6, Option.bind_some]
      dsimp only
      rw [if_neg (by decide), pMD_keeps, Option.bind_some]
      exact hm16
    · obtain ⟨v, hv⟩ : ∃ v : Nat → Nat, v = fun i => (L1 i).toNatClampNeg := ⟨_, rfl⟩
      have hvL : ∀ i, i < s → v i < 4 ∧ L1 i = nI (v i) ∧ B3 i = nI (v i) := fun i hi => by
        obtain ⟨a, y1, y2, y3⟩ := g5 i hi
        have : v i = a := by rw [hv]; show (L1 i).toNatClampNeg = a; rw [y2, nI_clamp (by omega)]
        rw [this]; exact ⟨y1, y2, y3⟩
      refine ⟨⟨s, v, g, ⟨rfl, g3, fun i hi => ⟨(hvL i hi).1, by rw [fl_in hi]; exact (hvL i hi).2.1⟩, hS5, hg⟩, ?_, fun i hi => ?_, fun i hi => ?_⟩, ⟨h2, rfl, rfl, e3⟩, hT, Fr_0, ⟨c2, Fr_0⟩, ⟨c3, Fr_0⟩, Fr_0, ⟨c5, Fr_0⟩, Or.inr ⟨rfl, hV⟩⟩
      · exact pk_us
      · rw [pk_un (by omega)]
        unfold ins
        rw [if_neg (by omega)]
        exact m2 i hi
      · rw [pk_un (by omega)]
        unfold ins
        rw [if_pos (by omega), show 0 + 6 + i - 6 = i by omega]
        exact (hvL i hi).2.2
