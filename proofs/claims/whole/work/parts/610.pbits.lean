/-! Integer.bitCount, of 24 bits -/
theorem fa_and (a b : Nat) : nI a &&& nI b = nI (a &&& b) := by
  apply Int32.toBitVec_inj.1
  show BitVec.ofNat 32 a &&& BitVec.ofNat 32 b = BitVec.ofNat 32 (a &&& b)
  apply BitVec.eq_of_getLsbD_eq
  intro i hi
  simp [hi]
theorem ush1 {n : Nat} (h : n < 2 ^ 32) : (Int32.toUInt32 (nI n) >>> (Int32.toUInt32 (1 : Int32) &&& Int32.toUInt32 31)).toInt32 = nI (n / 2) := pk_ushrN h 1 1 (by decide)
theorem ush2 {n : Nat} (h : n < 2 ^ 32) : (Int32.toUInt32 (nI n) >>> (Int32.toUInt32 (2 : Int32) &&& Int32.toUInt32 31)).toInt32 = nI (n / 4) := pk_ushrN h 2 2 (by decide)
theorem ush4 {n : Nat} (h : n < 2 ^ 32) : (Int32.toUInt32 (nI n) >>> (Int32.toUInt32 (4 : Int32) &&& Int32.toUInt32 31)).toInt32 = nI (n / 16) := pk_ushrN h 4 4 (by decide)
theorem ush8 {n : Nat} (h : n < 2 ^ 32) : (Int32.toUInt32 (nI n) >>> (Int32.toUInt32 (8 : Int32) &&& Int32.toUInt32 31)).toInt32 = nI (n / 256) := pk_ushrN h 8 8 (by decide)
theorem ush16 {n : Nat} (h : n < 2 ^ 32) : (Int32.toUInt32 (nI n) >>> (Int32.toUInt32 (16 : Int32) &&& Int32.toUInt32 31)).toInt32 = nI (n / 65536) := pk_ushrN h 16 16 (by decide)
def st1 (n : Nat) : Nat := n - (n / 2 &&& 1431655765)
def st2 (y : Nat) : Nat := (y &&& 858993459) + (y / 4 &&& 858993459)
def st3 (z : Nat) : Nat := z + z / 16 &&& 252645135
theorem pJI_bitCount {n : Nat} (hn : n < 2 ^ 24) : fJI_bitCount (nI n) = some (nI ((st3 (st2 (st1 n)) + st3 (st2 (st1 n)) / 256 + (st3 (st2 (st1 n)) + st3 (st2 (st1 n)) / 256) / 65536) &&& 63)) := by
  have b1 : n / 2 &&& 1431655765 ≤ n := Nat.le_trans Nat.and_le_left (Nat.div_le_self _ _)
  obtain ⟨y, hy⟩ : ∃ y, y = st1 n := ⟨_, rfl⟩
  have hy2 : y ≤ n := by rw [hy]; exact Nat.sub_le _ _
  have c1 : y &&& 858993459 ≤ y := Nat.and_le_left
  have c2 : y / 4 &&& 858993459 ≤ y / 4 := Nat.and_le_left
  obtain ⟨z, hz⟩ : ∃ z, z = st2 y := ⟨_, rfl⟩
  have hz2 : z ≤ y + y / 4 := by rw [hz]; unfold st2; omega
  have d1 : z + z / 16 &&& 252645135 ≤ z + z / 16 := Nat.and_le_left
  obtain ⟨u, hu⟩ : ∃ u, u = st3 z := ⟨_, rfl⟩
  have hu2 : u ≤ z + z / 16 := by rw [hu]; exact d1
  have e1 : nI n - nI (n / 2 &&& 1431655765) = nI y := by rw [pk_sub b1, hy]; rfl
  have e2 : nI (y &&& 858993459) + nI (y / 4 &&& 858993459) = nI z := by rw [nI_add, hz]; rfl
  have e3 : nI (z + z / 16 &&& 252645135) = nI u := by rw [hu]; rfl
  rw [← hy, ← hz, ← hu]
  simp (disch := omega) only [fJI_bitCount, ush1, ush2, ush4, ush8, ush16, li1431655765, li858993459, li252645135, li63, fa_and, e1, e2, e3, nI_add]
theorem land_split {a c k : Nat} (ha : a < 2 ^ k) (hc : c < 2 ^ k) (b d : Nat) : (2 ^ k * b + a) &&& (2 ^ k * d + c) = 2 ^ k * (b &&& d) + (a &&& c) := by
  apply Nat.eq_of_testBit_eq
  intro i
  have hac : a &&& c < 2 ^ k := Nat.lt_of_le_of_lt Nat.and_le_left ha
  rw [Nat.testBit_and, Nat.testBit_two_pow_mul_add _ ha, Nat.testBit_two_pow_mul_add _ hc, Nat.testBit_two_pow_mul_add _ hac]
  by_cases h : i < k
  · rw [if_pos h, if_pos h, if_pos h, Nat.testBit_and]
  · rw [if_neg h, if_neg h, if_neg h, Nat.testBit_and]
def sb1 (a : Nat) : Nat := a - (a / 2 &&& 85)
def sb2 (p : Nat) : Nat := (p &&& 51) + (p / 4 &&& 51)
def sb3 (p : Nat) : Nat := (p + p / 16) % 16
def pc : Nat → Nat → Nat
  | _, 0 => 0
  | m, k + 1 => pc m k + (m.testBit k).toNat
set_option maxRecDepth 100000 in
theorem by_1 : ∀ a, a < 256 → ∀ r, r < 2 → a / 2 + 128 * r &&& 85 = a / 2 &&& 85 := by decide +kernel
set_option maxRecDepth 100000 in
theorem by_2 : ∀ a, a < 256 → ∀ r, r < 4 → a / 4 + 64 * r &&& 51 = a / 4 &&& 51 := by decide +kernel
set_option maxRecDepth 100000 in
theorem by_3 : ∀ a, a < 69 → ∀ r, r < 5 → a + a / 16 + 16 * r &&& 15 = (a + a / 16) % 16 := by decide +kernel
set_option maxRecDepth 100000 in
theorem by_4 : ∀ a, a < 256 → sb3 (sb2 (sb1 a)) = pc a 8 ∧ sb1 a < 256 ∧ sb2 (sb1 a) < 69 ∧ sb2 (sb1 a) % 16 < 5 ∧ pc a 8 ≤ 8 := by decide +kernel
theorem st1_s {a b : Nat} (ha : a < 256) (M : Nat) : (2 ^ 8 * b + a) - ((2 ^ 8 * b + a) / 2 &&& (2 ^ 8 * M + 85)) = 2 ^ 8 * (b - (b / 2 &&& M)) + sb1 a := by
  have e : (2 ^ 8 * b + a) / 2 = 2 ^ 8 * (b / 2) + (a / 2 + 128 * (b % 2)) := by omega
  rw [e, land_split (by omega) (by omega), by_1 a ha _ (by omega)]
  have h1 : b / 2 &&& M ≤ b := Nat.le_trans Nat.and_le_left (Nat.div_le_self _ _)
  have h2 : a / 2 &&& 85 ≤ a := Nat.le_trans Nat.and_le_left (Nat.div_le_self _ _)
  unfold sb1
  omega
theorem st2_s {p q : Nat} (hp : p < 256) (M : Nat) : ((2 ^ 8 * q + p) &&& (2 ^ 8 * M + 51)) + ((2 ^ 8 * q + p) / 4 &&& (2 ^ 8 * M + 51)) = 2 ^ 8 * ((q &&& M) + (q / 4 &&& M)) + sb2 p := by
  have e : (2 ^ 8 * q + p) / 4 = 2 ^ 8 * (q / 4) + (p / 4 + 64 * (q % 4)) := by omega
  rw [e, land_split (by omega) (by omega), land_split (by omega) (by omega), by_2 p hp _ (by omega)]
  unfold sb2
  omega
theorem st3_s {p q : Nat} (hp : p < 69) (hq : q % 16 < 5) (M : Nat) : ((2 ^ 8 * q + p) + (2 ^ 8 * q + p) / 16 &&& (2 ^ 8 * M + 15)) = 2 ^ 8 * (q + q / 16 &&& M) + sb3 p := by
  have e : (2 ^ 8 * q + p) + (2 ^ 8 * q + p) / 16 = 2 ^ 8 * (q + q / 16) + (p + p / 16 + 16 * (q % 16)) := by omega
  rw [e, land_split (by omega) (by omega), by_3 p hp _ hq]
  rfl
theorem pc_cong {m m2 : Nat} : ∀ k, (∀ i, i < k → m.testBit i = m2.testBit i) → pc m k = pc m2 k := by
  intro k
  induction k with
  | zero => intro h; rfl
  | succ k ih =>
    intro h
    unfold pc
    rw [ih (fun i hi => h i (by omega)), h k (by omega)]
theorem pc_split {a b : Nat} (ha : a < 256) : ∀ k, pc (2 ^ 8 * b + a) (8 + k) = pc a 8 + pc b k := by
  intro k
  induction k with
  | zero =>
    rw [Nat.add_zero]
    show pc (2 ^ 8 * b + a) 8 = pc a 8 + 0
    rw [Nat.add_zero]
    exact pc_cong 8 (fun i hi => by rw [Nat.testBit_two_pow_mul_add _ ha, if_pos hi])
  | succ k ih =>
    show pc (2 ^ 8 * b + a) (8 + k) + ((2 ^ 8 * b + a).testBit (8 + k)).toNat = pc a 8 + (pc b k + (b.testBit k).toNat)
    rw [ih, Nat.testBit_two_pow_mul_add _ ha, if_neg (by omega), Nat.add_sub_cancel_left, Nat.add_assoc]
theorem pJI_pc {n : Nat} (hn : n < 2 ^ 24) : fJI_bitCount (nI n) = some (nI (pc n 24)) := by
  rw [pJI_bitCount hn]
  obtain ⟨a, ha⟩ : ∃ a, a = n % 256 := ⟨_, rfl⟩
  obtain ⟨b, hb⟩ : ∃ b, b = n / 256 % 256 := ⟨_, rfl⟩
  obtain ⟨c, hc⟩ : ∃ c, c = n / 65536 := ⟨_, rfl⟩
  have en : n = 2 ^ 8 * (2 ^ 8 * c + b) + a := by omega
  have la : a < 256 := by omega
  have lb : b < 256 := by omega
  have lc : c < 256 := by omega
  obtain ⟨a1, a2, a3, a4, a5⟩ := by_4 a la
  obtain ⟨b1, b2, b3, b4, b5⟩ := by_4 b lb
  obtain ⟨c1, c2, c3, c4, c5⟩ := by_4 c lc
  have s1 : st1 n = 2 ^ 8 * (2 ^ 8 * sb1 c + sb1 b) + sb1 a := by
    unfold st1
    rw [en]
    have h := st1_s (b := 2 ^ 8 * c + b) la 5592405
    rw [show 2 ^ 8 * 5592405 + 85 = 1431655765 by rfl] at h
    rw [h]
    have h2 := st1_s (b := c) lb 21845
    rw [show 2 ^ 8 * 21845 + 85 = 5592405 by rfl] at h2
    rw [h2]
    have h3 := st1_s (b := 0) lc 85
    have h4 : c / 2 &&& 21845 = c / 2 &&& 85 := by
      have h5 := land_split (a := c / 2) (c := 85) (k := 8) (by omega) (by omega) 0 85
      simpa using h5
    rw [h4]
    rfl
  have s2 : st2 (st1 n) = 2 ^ 8 * (2 ^ 8 * sb2 (sb1 c) + sb2 (sb1 b)) + sb2 (sb1 a) := by
    rw [s1]
    unfold st2
    have h := st2_s (q := 2 ^ 8 * sb1 c + sb1 b) a2 3355443
    rw [show 2 ^ 8 * 3355443 + 51 = 858993459 by rfl] at h
    rw [h]
    have h2 := st2_s (q := sb1 c) b2 13107
    rw [show 2 ^ 8 * 13107 + 51 = 3355443 by rfl] at h2
    rw [h2]
    have h4 : sb1 c &&& 13107 = sb1 c &&& 51 := by
      have h5 := land_split (a := sb1 c) (c := 51) (k := 8) (by omega) (by omega) 0 51
      simpa using h5
    have h6 : sb1 c / 4 &&& 13107 = sb1 c / 4 &&& 51 := by
      have h5 := land_split (a := sb1 c / 4) (c := 51) (k := 8) (by omega) (by omega) 0 51
      simpa using h5
    rw [h4, h6]
    rfl
  have s3 : st3 (st2 (st1 n)) = 2 ^ 8 * (2 ^ 8 * pc c 8 + pc b 8) + pc a 8 := by
    rw [s2]
    unfold st3
    have h := st3_s (q := 2 ^ 8 * sb2 (sb1 c) + sb2 (sb1 b)) a3 (by omega) 986895
    rw [show 2 ^ 8 * 986895 + 15 = 252645135 by rfl] at h
    rw [h, a1]
    have h2 := st3_s (q := sb2 (sb1 c)) b3 c4 3855
    rw [show 2 ^ 8 * 3855 + 15 = 986895 by rfl] at h2
    rw [h2, b1]
    have h4 : sb2 (sb1 c) + sb2 (sb1 c) / 16 &&& 3855 = (sb2 (sb1 c) + sb2 (sb1 c) / 16) % 16 := by
      have h5 := land_split (a := sb2 (sb1 c) + sb2 (sb1 c) / 16) (c := 15) (k := 8) (by omega) (by omega) 0 15
      have h6 := by_3 (sb2 (sb1 c)) c3 0 (by omega)
      rw [Nat.mul_zero, Nat.add_zero] at h6
      rw [h6] at h5
      simpa using h5
    rw [h4]
    have h5 : (sb2 (sb1 c) + sb2 (sb1 c) / 16) % 16 = pc c 8 := c1
    rw [h5]
  rw [s3]
  have e24 : pc n 24 = pc a 8 + (pc b 8 + pc c 8) := by
    rw [en]
    have h := pc_split (b := 2 ^ 8 * c + b) la 16
    have h2 := pc_split (b := c) lb 8
    rw [h, h2]
  rw [e24]
  congr 2
  have hm : ∀ x : Nat, x &&& 63 = x % 64 := fun x => by
    have := Nat.and_two_pow_sub_one_eq_mod x 6
    simpa using this
  rw [hm]
  obtain ⟨x, hx⟩ : ∃ x, x = pc a 8 := ⟨_, rfl⟩
  obtain ⟨y, hy⟩ : ∃ y, y = pc b 8 := ⟨_, rfl⟩
  obtain ⟨z, hz⟩ : ∃ z, z = pc c 8 := ⟨_, rfl⟩
  rw [← hx, ← hy, ← hz]
  rw [← hx] at a5
  rw [← hy] at b5
  rw [← hz] at c5
  show (256 * (256 * z + y) + x + (256 * (256 * z + y) + x) / 256 + (256 * (256 * z + y) + x + (256 * (256 * z + y) + x) / 256) / 65536) % 64 = x + (y + z)
  clear s1 s2 s3 e24 en hx hy hz ha hb hc a1 a2 a3 a4 b1 b2 b3 b4 c1 c2 c3 c4 hm
  have h1 : (256 * (256 * z + y) + x) / 256 = 256 * z + y := by omega
  rw [h1]
  have h2 : (256 * (256 * z + y) + x + (256 * z + y)) / 65536 = z := by omega
  rw [h2]
  omega
