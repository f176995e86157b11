-- RN_partIndex
def fRN_partIndex (x0 : Int32) (x1 : Int32) (x2 : Int32) : Option (Int32) :=
  some (((x0 * (325 : Int32)) + ((x2 * (x2 + (1 : Int32))) / (2 : Int32))) + x1)

-- RN_isKind
def fRN_isKind (x0 : Int32) : Option (Int32) :=
  if x0 < 0 then
    some (0 : Int32)
  else
    if (4 : Int32) ≤ x0 then
      some (0 : Int32)
    else
      some (1 : Int32)

-- St_init
def fSt_init_26  : Nat → Int32 → (Nat → Int32) → Option ((Nat → Int32))
  | 0, _, _ => none
  | n + 1, x1, na_n14 =>
    if (5 : Int32) ≤ x1 then
      some na_n14
    else
      if bIn x1 5 = true then
        if bIn x1 5 = true then
          fSt_init_26 n (x1 + 1) (wr na_n14 x1 (rd vFIRST x1))
        else none
      else none
def fSt_init  : Option ((Nat → Int32)) :=
  fSt_init_26 FU (0 : Int32) (fun _ => 0)

-- St_copyFrom
def fSt_copyFrom_28 (u_size : Int32) (u_settings : Nat → Int32) : Nat → Int32 → Int32 → (Nat → Int32) → (Nat → Int32) → Option (Int32 × (Nat → Int32) × (Nat → Int32))
  | 0, _, _, _, _ => none
  | n + 1, x2, t_size, t_letters, t_settings =>
    if (5 : Int32) ≤ x2 then
      some (u_size, t_letters, t_settings)
    else
      if bIn x2 5 = true then
        if bIn x2 5 = true then
          fSt_copyFrom_28 u_size u_settings n (x2 + 1) t_size t_letters (wr t_settings x2 (rd u_settings x2))
        else none
      else none
def fSt_copyFrom_2 (u_size : Int32) (u_letters : Nat → Int32) (u_settings : Nat → Int32) : Nat → Int32 → Int32 → (Nat → Int32) → (Nat → Int32) → Option (Int32 × (Nat → Int32) × (Nat → Int32))
  | 0, _, _, _, _ => none
  | n + 1, x2, t_size, t_letters, t_settings =>
    if (24 : Int32) ≤ x2 then
      fSt_copyFrom_28 u_size u_settings FU (0 : Int32) t_size t_letters t_settings
    else
      if bIn x2 24 = true then
        if bIn x2 24 = true then
          fSt_copyFrom_2 u_size u_letters u_settings n (x2 + 1) t_size (wr t_letters x2 (rd u_letters x2)) t_settings
        else none
      else none
def fSt_copyFrom (u_size : Int32) (u_letters : Nat → Int32) (u_settings : Nat → Int32) (t_size : Int32) (t_letters : Nat → Int32) (t_settings : Nat → Int32) : Option (Int32 × (Nat → Int32) × (Nat → Int32)) :=
  fSt_copyFrom_2 u_size u_letters u_settings FU (0 : Int32) t_size t_letters t_settings

-- St_addLetter
def fSt_addLetter (t_size : Int32) (t_letters : Nat → Int32) (x1 : Int32) : Option (Int32 × (Nat → Int32)) :=
  if t_size < 0 then
    some (t_size, t_letters)
  else
    if (24 : Int32) ≤ t_size then
      some (t_size, t_letters)
    else
      if bIn t_size 24 = true then
        some ((t_size + (1 : Int32)), (wr t_letters t_size x1))
      else none

-- St_setting
def fSt_setting (t_settings : Nat → Int32) (x1 : Int32) : Option (Int32) :=
  if x1 < 0 then
    some (0 : Int32)
  else
    if (5 : Int32) ≤ x1 then
      some (0 : Int32)
    else
      if bIn x1 5 = true then
        some (rd t_settings x1)
      else none

-- St_letter
def fSt_letter (t_size : Int32) (t_letters : Nat → Int32) (x1 : Int32) : Option (Int32) :=
  if x1 < 0 then
    some (-1 : Int32)
  else
    if t_size ≤ x1 then
      some (-1 : Int32)
    else
      if (24 : Int32) ≤ x1 then
        some (-1 : Int32)
      else
        if bIn x1 24 = true then
          some (rd t_letters x1)
        else none

-- St_putLetter
def fSt_putLetter (t_size : Int32) (t_letters : Nat → Int32) (x1 : Int32) (x2 : Int32) : Option ((Nat → Int32)) :=
  if x1 < 0 then
    some t_letters
  else
    if t_size ≤ x1 then
      some t_letters
    else
      if (24 : Int32) ≤ x1 then
        some t_letters
      else
        if bIn x1 24 = true then
          some (wr t_letters x1 x2)
        else none

-- St_hasPlace
def fSt_hasPlace (t_size : Int32) (x1 : Int32) : Option (Int32) :=
  if x1 < 0 then
    some (0 : Int32)
  else
    if t_size ≤ x1 then
      some (0 : Int32)
    else
      some (1 : Int32)

-- St_hasPart
def fSt_hasPart (t_size : Int32) (x1 : Int32) (x2 : Int32) : Option (Int32) :=
  if x1 < 0 then
    some (0 : Int32)
  else
    if x2 ≤ x1 then
      some (0 : Int32)
    else
      if t_size < x2 then
        some (0 : Int32)
      else
        some (1 : Int32)

-- St_unlikeLetters
def fSt_unlikeLetters_8 (t_size : Int32) (t_letters : Nat → Int32) (x2 : Int32) (x3 : Int32) : Nat → Int32 → Int32 → Option (Int32)
  | 0, _, _ => none
  | n + 1, x4, x5 =>
    if x2 ≤ x5 then
      some x4
    else
      (fSt_letter t_size t_letters x5).bind fun o2 =>
        (fSt_letter t_size t_letters (x5 - x3)).bind fun o3 =>
          if o2 = o3 then
            fSt_unlikeLetters_8 t_size t_letters x2 x3 n x4 (x5 + 1)
          else
            fSt_unlikeLetters_8 t_size t_letters x2 x3 n (x4 + 1) (x5 + 1)
def fSt_unlikeLetters (t_size : Int32) (t_letters : Nat → Int32) (x1 : Int32) (x2 : Int32) (x3 : Int32) : Option (Int32) :=
  fSt_unlikeLetters_8 t_size t_letters x2 x3 FU (0 : Int32) (x1 + x3)

-- St_leastPeriod
def fSt_leastPeriod_2 (t_size : Int32) (t_letters : Nat → Int32) (x1 : Int32) (x2 : Int32) : Nat → Int32 → Option (Int32)
  | 0, _ => none
  | n + 1, x3 =>
    if (x2 - x1) ≤ x3 then
      some (x2 - x1)
    else
      (fSt_unlikeLetters t_size t_letters x1 x2 x3).bind fun o2 =>
        if o2 = 0 then
          some x3
        else
          fSt_leastPeriod_2 t_size t_letters x1 x2 n (x3 + 1)
def fSt_leastPeriod (t_size : Int32) (t_letters : Nat → Int32) (x1 : Int32) (x2 : Int32) : Option (Int32) :=
  fSt_leastPeriod_2 t_size t_letters x1 x2 FU (1 : Int32)

-- St_putSetting
def fSt_putSetting (t_settings : Nat → Int32) (x1 : Int32) (x2 : Int32) : Option ((Nat → Int32)) :=
  if x1 < 0 then
    some t_settings
  else
    if (5 : Int32) ≤ x1 then
      some t_settings
    else
      if bIn x1 5 = true then
        some (wr t_settings x1 x2)
      else none

-- St_reverse
def fSt_reverse_2 (t_size : Int32) : Nat → Int32 → (Nat → Int32) → Option ((Nat → Int32))
  | 0, _, _ => none
  | n + 1, x1, t_letters =>
    if (t_size / (2 : Int32)) ≤ x1 then
      some t_letters
    else
      (fSt_letter t_size t_letters x1).bind fun o2 =>
        (fSt_letter t_size t_letters ((t_size - (1 : Int32)) - x1)).bind fun o3 =>
          (fSt_putLetter t_size t_letters x1 o3).bind fun o4 =>
            (fSt_putLetter t_size o4 ((t_size - (1 : Int32)) - x1) o2).bind fun o5 =>
              fSt_reverse_2 t_size n (x1 + 1) o5
def fSt_reverse (t_size : Int32) (t_letters : Nat → Int32) : Option ((Nat → Int32)) :=
  fSt_reverse_2 t_size FU (0 : Int32) t_letters

-- Hi_init
def fHi_init  : Option ((Nat → Int32) × (Nat → Int32) × (Nat → Int32) × (Nat → Int32)) :=
  (fSt_init).bind fun o2 =>
    (fSt_init).bind fun o4 =>
      (fSt_init).bind fun o6 =>
        (fSt_init).bind fun o8 =>
          some (o2, o4, o6, o8)

-- Hi_dropOldest
def fHi_dropOldest (t_size : Int32) (t_states_e0_size : Int32) (t_states_e0_letters : Nat → Int32) (t_states_e0_settings : Nat → Int32) (t_states_e1_size : Int32) (t_states_e1_letters : Nat → Int32) (t_states_e1_settings : Nat → Int32) (t_states_e2_size : Int32) (t_states_e2_letters : Nat → Int32) (t_states_e2_settings : Nat → Int32) (t_states_e3_size : Int32) (t_states_e3_letters : Nat → Int32) (t_states_e3_settings : Nat → Int32) : Option (Int32 × Int32 × (Nat → Int32) × (Nat → Int32) × Int32 × (Nat → Int32) × (Nat → Int32) × Int32 × (Nat → Int32) × (Nat → Int32) × Int32 × (Nat → Int32) × (Nat → Int32)) :=
  some ((t_size - (1 : Int32)), t_states_e1_size, t_states_e1_letters, t_states_e1_settings, t_states_e2_size, t_states_e2_letters, t_states_e2_settings, t_states_e3_size, t_states_e3_letters, t_states_e3_settings, t_states_e0_size, t_states_e0_letters, t_states_e0_settings)

-- Hi_state
def fHi_state (h_t_states_e0 : Nat) (h_t_states_e1 : Nat) (h_t_states_e2 : Nat) (h_t_states_e3 : Nat) (x1 : Int32) : Option (Value) :=
  if x1 < 0 then
    some .null
  else
    if (4 : Int32) ≤ x1 then
      some .null
    else
      if x1 = (0 : Int32) then
        some (.ref h_t_states_e0)
      else
        if x1 = (1 : Int32) then
          some (.ref h_t_states_e1)
        else
          if x1 = (2 : Int32) then
            some (.ref h_t_states_e2)
          else
            if x1 = (3 : Int32) then
              some (.ref h_t_states_e3)
            else
              none

-- Hi_keep
def fHi_keep_12 (u_size : Int32) (u_letters : Nat → Int32) (u_settings : Nat → Int32) (t_size : Int32) (t_states_e0_size : Int32) (t_states_e0_letters : Nat → Int32) (t_states_e0_settings : Nat → Int32) (t_states_e1_size : Int32) (t_states_e1_letters : Nat → Int32) (t_states_e1_settings : Nat → Int32) (t_states_e2_size : Int32) (t_states_e2_letters : Nat → Int32) (t_states_e2_settings : Nat → Int32) (t_states_e3_size : Int32) (t_states_e3_letters : Nat → Int32) (t_states_e3_settings : Nat → Int32) : Option (Int32 × Int32 × (Nat → Int32) × (Nat → Int32) × Int32 × (Nat → Int32) × (Nat → Int32) × Int32 × (Nat → Int32) × (Nat → Int32) × Int32 × (Nat → Int32) × (Nat → Int32)) :=
    if t_size = (0 : Int32) then
      (fSt_copyFrom u_size u_letters u_settings t_states_e0_size t_states_e0_letters t_states_e0_settings).bind fun o3 =>
        some ((t_size + (1 : Int32)), o3.1, o3.2.1, o3.2.2, t_states_e1_size, t_states_e1_letters, t_states_e1_settings, t_states_e2_size, t_states_e2_letters, t_states_e2_settings, t_states_e3_size, t_states_e3_letters, t_states_e3_settings)
    else
      if t_size = (1 : Int32) then
        (fSt_copyFrom u_size u_letters u_settings t_states_e1_size t_states_e1_letters t_states_e1_settings).bind fun o6 =>
          some ((t_size + (1 : Int32)), t_states_e0_size, t_states_e0_letters, t_states_e0_settings, o6.1, o6.2.1, o6.2.2, t_states_e2_size, t_states_e2_letters, t_states_e2_settings, t_states_e3_size, t_states_e3_letters, t_states_e3_settings)
      else
        if t_size = (2 : Int32) then
          (fSt_copyFrom u_size u_letters u_settings t_states_e2_size t_states_e2_letters t_states_e2_settings).bind fun o9 =>
            some ((t_size + (1 : Int32)), t_states_e0_size, t_states_e0_letters, t_states_e0_settings, t_states_e1_size, t_states_e1_letters, t_states_e1_settings, o9.1, o9.2.1, o9.2.2, t_states_e3_size, t_states_e3_letters, t_states_e3_settings)
        else
          if t_size = (3 : Int32) then
            (fSt_copyFrom u_size u_letters u_settings t_states_e3_size t_states_e3_letters t_states_e3_settings).bind fun o12 =>
              some ((t_size + (1 : Int32)), t_states_e0_size, t_states_e0_letters, t_states_e0_settings, t_states_e1_size, t_states_e1_letters, t_states_e1_settings, t_states_e2_size, t_states_e2_letters, t_states_e2_settings, o12.1, o12.2.1, o12.2.2)
          else
            some (t_size, t_states_e0_size, t_states_e0_letters, t_states_e0_settings, t_states_e1_size, t_states_e1_letters, t_states_e1_settings, t_states_e2_size, t_states_e2_letters, t_states_e2_settings, t_states_e3_size, t_states_e3_letters, t_states_e3_settings)
def fHi_keep (u_size : Int32) (u_letters : Nat → Int32) (u_settings : Nat → Int32) (t_size : Int32) (t_states_e0_size : Int32) (t_states_e0_letters : Nat → Int32) (t_states_e0_settings : Nat → Int32) (t_states_e1_size : Int32) (t_states_e1_letters : Nat → Int32) (t_states_e1_settings : Nat → Int32) (t_states_e2_size : Int32) (t_states_e2_letters : Nat → Int32) (t_states_e2_settings : Nat → Int32) (t_states_e3_size : Int32) (t_states_e3_letters : Nat → Int32) (t_states_e3_settings : Nat → Int32) : Option (Int32 × Int32 × (Nat → Int32) × (Nat → Int32) × Int32 × (Nat → Int32) × (Nat → Int32) × Int32 × (Nat → Int32) × (Nat → Int32) × Int32 × (Nat → Int32) × (Nat → Int32)) :=
  if t_size < (4 : Int32) then
    fHi_keep_12 u_size u_letters u_settings t_size t_states_e0_size t_states_e0_letters t_states_e0_settings t_states_e1_size t_states_e1_letters t_states_e1_settings t_states_e2_size t_states_e2_letters t_states_e2_settings t_states_e3_size t_states_e3_letters t_states_e3_settings
  else
    (fHi_dropOldest t_size t_states_e0_size t_states_e0_letters t_states_e0_settings t_states_e1_size t_states_e1_letters t_states_e1_settings t_states_e2_size t_states_e2_letters t_states_e2_settings t_states_e3_size t_states_e3_letters t_states_e3_settings).bind fun o15 =>
      fHi_keep_12 u_size u_letters u_settings o15.1 o15.2.1 o15.2.2.1 o15.2.2.2.1 o15.2.2.2.2.1 o15.2.2.2.2.2.1 o15.2.2.2.2.2.2.1 o15.2.2.2.2.2.2.2.1 o15.2.2.2.2.2.2.2.2.1 o15.2.2.2.2.2.2.2.2.2.1 o15.2.2.2.2.2.2.2.2.2.2.1 o15.2.2.2.2.2.2.2.2.2.2.2.1 o15.2.2.2.2.2.2.2.2.2.2.2.2

-- Hi_giveBack
def fHi_giveBack (t_states_e0_size : Int32) (t_states_e0_letters : Nat → Int32) (t_states_e0_settings : Nat → Int32) (t_states_e1_size : Int32) (t_states_e1_letters : Nat → Int32) (t_states_e1_settings : Nat → Int32) (t_states_e2_size : Int32) (t_states_e2_letters : Nat → Int32) (t_states_e2_settings : Nat → Int32) (t_states_e3_size : Int32) (t_states_e3_letters : Nat → Int32) (t_states_e3_settings : Nat → Int32) (t_size : Int32) (u_size : Int32) (u_letters : Nat → Int32) (u_settings : Nat → Int32) : Option (Int32 × Int32 × (Nat → Int32) × (Nat → Int32)) :=
  if (t_size - (1 : Int32)) = (0 : Int32) then
    (fSt_copyFrom t_states_e0_size t_states_e0_letters t_states_e0_settings u_size u_letters u_settings).bind fun o3 =>
      some ((t_size - (1 : Int32)), o3.1, o3.2.1, o3.2.2)
  else
    if (t_size - (1 : Int32)) = (1 : Int32) then
      (fSt_copyFrom t_states_e1_size t_states_e1_letters t_states_e1_settings u_size u_letters u_settings).bind fun o6 =>
        some ((t_size - (1 : Int32)), o6.1, o6.2.1, o6.2.2)
    else
      if (t_size - (1 : Int32)) = (2 : Int32) then
        (fSt_copyFrom t_states_e2_size t_states_e2_letters t_states_e2_settings u_size u_letters u_settings).bind fun o9 =>
          some ((t_size - (1 : Int32)), o9.1, o9.2.1, o9.2.2)
      else
        if (t_size - (1 : Int32)) = (3 : Int32) then
          (fSt_copyFrom t_states_e3_size t_states_e3_letters t_states_e3_settings u_size u_letters u_settings).bind fun o12 =>
            some ((t_size - (1 : Int32)), o12.1, o12.2.1, o12.2.2)
        else
          some (t_size, u_size, u_letters, u_settings)

-- Ru_init
def fRu_init  : Option (Unit) :=
  some ()

-- Ru_goesOn
def fRu_goesOn_23 (u_size : Int32) (u_letters : Nat → Int32) (x2 : Int32) (x3 : Int32)  : Option (Int32) :=
    if u_size ≤ x2 then
      some (0 : Int32)
    else
      (fSt_letter u_size u_letters x2).bind fun o2 =>
        (fSt_letter u_size u_letters (x2 - x3)).bind fun o3 =>
          if o2 = o3 then
            some (1 : Int32)
          else
            some (0 : Int32)
def fRu_goesOn (u_size : Int32) (u_letters : Nat → Int32) (x1 : Int32) (x2 : Int32) (x3 : Int32) : Option (Int32) :=
  if x1 ≤ 0 then
    fRu_goesOn_23 u_size u_letters x2 x3
  else
    (fSt_letter u_size u_letters (x1 - (1 : Int32))).bind fun o6 =>
      (fSt_letter u_size u_letters ((x1 - (1 : Int32)) + x3)).bind fun o7 =>
        if o6 = o7 then
          some (1 : Int32)
        else
          fRu_goesOn_23 u_size u_letters x2 x3

-- Ru_look
def fRu_look (u_size : Int32) (u_letters : Nat → Int32) (t_number : Int32) (t_froms : Nat → Int32) (t_periods : Nat → Int32) (t_tos : Nat → Int32) (x2 : Int32) (x3 : Int32) : Option (Int32 × (Nat → Int32) × (Nat → Int32) × (Nat → Int32)) :=
  (fSt_leastPeriod u_size u_letters x2 x3).bind fun o1 =>
    if (x3 - x2) < ((2 : Int32) * o1) then
      some (t_number, t_froms, t_periods, t_tos)
    else
      (fRu_goesOn u_size u_letters x2 x3 o1).bind fun o3 =>
        if o3 = 0 then
          if t_number < 0 then
            some (t_number, t_froms, t_periods, t_tos)
          else
            if (24 : Int32) ≤ t_number then
              some (t_number, t_froms, t_periods, t_tos)
            else
              if bIn t_number 24 = true then
                if bIn t_number 24 = true then
                  if bIn t_number 24 = true then
                    some ((t_number + (1 : Int32)), (wr t_froms t_number x2), (wr t_periods t_number o1), (wr t_tos t_number x3))
                  else none
                else none
              else none
        else
          some (t_number, t_froms, t_periods, t_tos)

-- Ru_refresh
def fRu_refresh_30 (u_size : Int32) (u_letters : Nat → Int32) (k23 : Int32 → Int32 → Int32 → (Nat → Int32) → (Nat → Int32) → (Nat → Int32) → Option (Int32 × Int32 × (Nat → Int32) × (Nat → Int32) × (Nat → Int32))) : Nat → Int32 → Int32 → Int32 → Int32 → (Nat → Int32) → (Nat → Int32) → (Nat → Int32) → Option (Int32 × Int32 × (Nat → Int32) × (Nat → Int32) × (Nat → Int32))
  | 0, _, _, _, _, _, _, _ => none
  | n + 1, x2, x3, t_number, t_fresh, t_froms, t_periods, t_tos =>
    if u_size < (x3 + x2) then
      k23 (x2 + (-1)) t_number t_fresh t_froms t_periods t_tos
    else
      (fRu_look u_size u_letters t_number t_froms t_periods t_tos x3 (x3 + x2)).bind fun o2 =>
        fRu_refresh_30 u_size u_letters k23 n x2 (x3 + 1) o2.1 t_fresh o2.2.1 o2.2.2.1 o2.2.2.2
def fRu_refresh_23 (u_size : Int32) (u_letters : Nat → Int32) : Nat → Int32 → Int32 → Int32 → (Nat → Int32) → (Nat → Int32) → (Nat → Int32) → Option (Int32 × Int32 × (Nat → Int32) × (Nat → Int32) × (Nat → Int32))
  | 0, _, _, _, _, _, _ => none
  | n + 1, x2, t_number, t_fresh, t_froms, t_periods, t_tos =>
    if x2 < (2 : Int32) then
      some (t_number, t_fresh, t_froms, t_periods, t_tos)
    else
      fRu_refresh_30 u_size u_letters (fRu_refresh_23 u_size u_letters n) FU x2 (0 : Int32) t_number t_fresh t_froms t_periods t_tos
def fRu_refresh (u_size : Int32) (u_letters : Nat → Int32) (t_number : Int32) (t_fresh : Int32) (t_froms : Nat → Int32) (t_periods : Nat → Int32) (t_tos : Nat → Int32) : Option (Int32 × Int32 × (Nat → Int32) × (Nat → Int32) × (Nat → Int32)) :=
  if t_fresh = 0 then
    fRu_refresh_23 u_size u_letters FU u_size (0 : Int32) (1 : Int32) t_froms t_periods t_tos
  else
    some (t_number, t_fresh, t_froms, t_periods, t_tos)

-- Ru_tell
def fRu_tell (t_number : Int32) (t_froms : Nat → Int32) (t_periods : Nat → Int32) (t_tos : Nat → Int32) (x1 : Int32) (x2 : Int32) : Option (Int32) :=
  if x1 < 0 then
    some (-1000004 : Int32)
  else
    if t_number ≤ x1 then
      some (-1000004 : Int32)
    else
      if x1 < (24 : Int32) then
        if x2 = 0 then
          if bIn x1 24 = true then
            some (rd t_froms x1)
          else none
        else
          if x2 = (1 : Int32) then
            if bIn x1 24 = true then
              some (rd t_tos x1)
            else none
          else
            if bIn x1 24 = true then
              some (rd t_periods x1)
            else none
      else
        some (-1000004 : Int32)

-- JI_bitCount
def fJI_bitCount (x0 : Int32) : Option (Int32) :=
  some ((((((((x0 - (((Int32.toUInt32 x0 >>> (Int32.toUInt32 (1 : Int32) &&& Int32.toUInt32 31)).toInt32) &&& (1431655765 : Int32))) &&& (858993459 : Int32)) + (((Int32.toUInt32 (x0 - (((Int32.toUInt32 x0 >>> (Int32.toUInt32 (1 : Int32) &&& Int32.toUInt32 31)).toInt32) &&& (1431655765 : Int32))) >>> (Int32.toUInt32 (2 : Int32) &&& Int32.toUInt32 31)).toInt32) &&& (858993459 : Int32))) + ((Int32.toUInt32 (((x0 - (((Int32.toUInt32 x0 >>> (Int32.toUInt32 (1 : Int32) &&& Int32.toUInt32 31)).toInt32) &&& (1431655765 : Int32))) &&& (858993459 : Int32)) + (((Int32.toUInt32 (x0 - (((Int32.toUInt32 x0 >>> (Int32.toUInt32 (1 : Int32) &&& Int32.toUInt32 31)).toInt32) &&& (1431655765 : Int32))) >>> (Int32.toUInt32 (2 : Int32) &&& Int32.toUInt32 31)).toInt32) &&& (858993459 : Int32))) >>> (Int32.toUInt32 (4 : Int32) &&& Int32.toUInt32 31)).toInt32)) &&& (252645135 : Int32)) + ((Int32.toUInt32 (((((x0 - (((Int32.toUInt32 x0 >>> (Int32.toUInt32 (1 : Int32) &&& Int32.toUInt32 31)).toInt32) &&& (1431655765 : Int32))) &&& (858993459 : Int32)) + (((Int32.toUInt32 (x0 - (((Int32.toUInt32 x0 >>> (Int32.toUInt32 (1 : Int32) &&& Int32.toUInt32 31)).toInt32) &&& (1431655765 : Int32))) >>> (Int32.toUInt32 (2 : Int32) &&& Int32.toUInt32 31)).toInt32) &&& (858993459 : Int32))) + ((Int32.toUInt32 (((x0 - (((Int32.toUInt32 x0 >>> (Int32.toUInt32 (1 : Int32) &&& Int32.toUInt32 31)).toInt32) &&& (1431655765 : Int32))) &&& (858993459 : Int32)) + (((Int32.toUInt32 (x0 - (((Int32.toUInt32 x0 >>> (Int32.toUInt32 (1 : Int32) &&& Int32.toUInt32 31)).toInt32) &&& (1431655765 : Int32))) >>> (Int32.toUInt32 (2 : Int32) &&& Int32.toUInt32 31)).toInt32) &&& (858993459 : Int32))) >>> (Int32.toUInt32 (4 : Int32) &&& Int32.toUInt32 31)).toInt32)) &&& (252645135 : Int32)) >>> (Int32.toUInt32 (8 : Int32) &&& Int32.toUInt32 31)).toInt32)) + ((Int32.toUInt32 ((((((x0 - (((Int32.toUInt32 x0 >>> (Int32.toUInt32 (1 : Int32) &&& Int32.toUInt32 31)).toInt32) &&& (1431655765 : Int32))) &&& (858993459 : Int32)) + (((Int32.toUInt32 (x0 - (((Int32.toUInt32 x0 >>> (Int32.toUInt32 (1 : Int32) &&& Int32.toUInt32 31)).toInt32) &&& (1431655765 : Int32))) >>> (Int32.toUInt32 (2 : Int32) &&& Int32.toUInt32 31)).toInt32) &&& (858993459 : Int32))) + ((Int32.toUInt32 (((x0 - (((Int32.toUInt32 x0 >>> (Int32.toUInt32 (1 : Int32) &&& Int32.toUInt32 31)).toInt32) &&& (1431655765 : Int32))) &&& (858993459 : Int32)) + (((Int32.toUInt32 (x0 - (((Int32.toUInt32 x0 >>> (Int32.toUInt32 (1 : Int32) &&& Int32.toUInt32 31)).toInt32) &&& (1431655765 : Int32))) >>> (Int32.toUInt32 (2 : Int32) &&& Int32.toUInt32 31)).toInt32) &&& (858993459 : Int32))) >>> (Int32.toUInt32 (4 : Int32) &&& Int32.toUInt32 31)).toInt32)) &&& (252645135 : Int32)) + ((Int32.toUInt32 (((((x0 - (((Int32.toUInt32 x0 >>> (Int32.toUInt32 (1 : Int32) &&& Int32.toUInt32 31)).toInt32) &&& (1431655765 : Int32))) &&& (858993459 : Int32)) + (((Int32.toUInt32 (x0 - (((Int32.toUInt32 x0 >>> (Int32.toUInt32 (1 : Int32) &&& Int32.toUInt32 31)).toInt32) &&& (1431655765 : Int32))) >>> (Int32.toUInt32 (2 : Int32) &&& Int32.toUInt32 31)).toInt32) &&& (858993459 : Int32))) + ((Int32.toUInt32 (((x0 - (((Int32.toUInt32 x0 >>> (Int32.toUInt32 (1 : Int32) &&& Int32.toUInt32 31)).toInt32) &&& (1431655765 : Int32))) &&& (858993459 : Int32)) + (((Int32.toUInt32 (x0 - (((Int32.toUInt32 x0 >>> (Int32.toUInt32 (1 : Int32) &&& Int32.toUInt32 31)).toInt32) &&& (1431655765 : Int32))) >>> (Int32.toUInt32 (2 : Int32) &&& Int32.toUInt32 31)).toInt32) &&& (858993459 : Int32))) >>> (Int32.toUInt32 (4 : Int32) &&& Int32.toUInt32 31)).toInt32)) &&& (252645135 : Int32)) >>> (Int32.toUInt32 (8 : Int32) &&& Int32.toUInt32 31)).toInt32)) >>> (Int32.toUInt32 (16 : Int32) &&& Int32.toUInt32 31)).toInt32)) &&& (63 : Int32))

-- Rp_init
def fRp_init  : Option (Unit) :=
  some ()

-- Rp_findOf
def fRp_findOf_14 (t_rowSize : Int32) (t_repeatPrice : Int32) (t_correctionPrice : Int32) (t_mostCorrections : Int32) (t_unlike : Nat → Int32) (x1 : Int32) (x2 : Int32) : Nat → Int32 → Int32 → Int32 → Int32 → (Nat → Int32) → (Nat → Int32) → (Nat → Int32) → Option (Int32 × (Nat → Int32) × (Nat → Int32) × (Nat → Int32))
  | 0, _, _, _, _, _, _, _ => none
  | n + 1, x3, x4, x5, t_number, t_blocks, t_ends, t_prices =>
    if (24 : Int32) < x5 then
      some (t_number, t_blocks, t_ends, t_prices)
    else
      if t_rowSize < (x1 + (x5 * x2)) then
        some (t_number, t_blocks, t_ends, t_prices)
      else
        if ((x5 - (1 : Int32)) * x2) < (1 : Int32) then
          some (t_number, t_blocks, t_ends, t_prices)
        else
          if (24 : Int32) ≤ ((x5 - (1 : Int32)) * x2) then
            some (t_number, t_blocks, t_ends, t_prices)
          else
            if t_number < 0 then
              some (t_number, t_blocks, t_ends, t_prices)
            else
              if t_number < (60 : Int32) then
                if bIn ((x5 - (1 : Int32)) * x2) 24 = true then
                  (fJI_bitCount ((rd t_unlike ((x5 - (1 : Int32)) * x2)) &&& x3)).bind fun o8 =>
                    if (x4 + o8) ≤ t_mostCorrections then
                      if bIn t_number 60 = true then
                        if bIn t_number 60 = true then
                          if bIn t_number 60 = true then
                            fRp_findOf_14 t_rowSize t_repeatPrice t_correctionPrice t_mostCorrections t_unlike x1 x2 n x3 (x4 + o8) (x5 + 1) (t_number + (1 : Int32)) (wr t_blocks t_number x2) (wr t_ends t_number (x1 + (x5 * x2))) (wr t_prices t_number (t_repeatPrice + ((x4 + o8) * t_correctionPrice)))
                          else none
                        else none
                      else none
                    else
                      some (t_number, t_blocks, t_ends, t_prices)
                else none
              else
                some (t_number, t_blocks, t_ends, t_prices)
def fRp_findOf (t_rowSize : Int32) (t_repeatPrice : Int32) (t_correctionPrice : Int32) (t_mostCorrections : Int32) (t_unlike : Nat → Int32) (t_number : Int32) (t_blocks : Nat → Int32) (t_ends : Nat → Int32) (t_prices : Nat → Int32) (x1 : Int32) (x2 : Int32) : Option (Int32 × (Nat → Int32) × (Nat → Int32) × (Nat → Int32)) :=
  fRp_findOf_14 t_rowSize t_repeatPrice t_correctionPrice t_mostCorrections t_unlike x1 x2 FU ((((1 : Int32) <<< (x2 &&& 31)) - (1 : Int32)) <<< (x1 &&& 31)) (0 : Int32) (2 : Int32) t_number t_blocks t_ends t_prices

-- Rp_find
def fRp_find_7 (t_rowSize : Int32) (t_repeatPrice : Int32) (t_correctionPrice : Int32) (t_mostCorrections : Int32) (t_unlike : Nat → Int32) (x1 : Int32) : Nat → Int32 → Int32 → (Nat → Int32) → (Nat → Int32) → (Nat → Int32) → Option (Int32 × (Nat → Int32) × (Nat → Int32) × (Nat → Int32))
  | 0, _, _, _, _, _ => none
  | n + 1, x2, t_number, t_blocks, t_ends, t_prices =>
    if t_rowSize < (x1 + ((2 : Int32) * x2)) then
      some (t_number, t_blocks, t_ends, t_prices)
    else
      (fRp_findOf t_rowSize t_repeatPrice t_correctionPrice t_mostCorrections t_unlike t_number t_blocks t_ends t_prices x1 x2).bind fun o2 =>
        fRp_find_7 t_rowSize t_repeatPrice t_correctionPrice t_mostCorrections t_unlike x1 n (x2 + 1) o2.1 o2.2.1 o2.2.2.1 o2.2.2.2
def fRp_find (t_rowSize : Int32) (t_repeatPrice : Int32) (t_correctionPrice : Int32) (t_mostCorrections : Int32) (t_unlike : Nat → Int32) (t_blocks : Nat → Int32) (t_ends : Nat → Int32) (t_prices : Nat → Int32) (x1 : Int32) : Option (Int32 × (Nat → Int32) × (Nat → Int32) × (Nat → Int32)) :=
  fRp_find_7 t_rowSize t_repeatPrice t_correctionPrice t_mostCorrections t_unlike x1 FU (1 : Int32) (0 : Int32) t_blocks t_ends t_prices

-- Rp_look
def fRp_look_109 (k98 : Int32 → Int32 → Int32 → Int32 → Int32 → (Nat → Int32) → (Nat → Int32) → Option (Int32 × Int32 × Int32 × Int32 × (Nat → Int32) × (Nat → Int32))) : Nat → Int32 → Int32 → Int32 → Int32 → Int32 → Int32 → Int32 → (Nat → Int32) → (Nat → Int32) → Option (Int32 × Int32 × Int32 × Int32 × (Nat → Int32) × (Nat → Int32))
  | 0, _, _, _, _, _, _, _, _, _ => none
  | n + 1, x2, x3, x4, t_rowSize, t_repeatPrice, t_correctionPrice, t_mostCorrections, t_standing, t_unlike =>
    if (4 : Int32) ≤ x4 then
      if bIn x2 24 = true then
        k98 (x2 + 1) t_rowSize t_repeatPrice t_correctionPrice t_mostCorrections t_standing (wr t_unlike x2 (x3 ^^^ (-1 : Int32)))
      else none
    else
      if bIn x4 4 = true then
        if bIn x4 4 = true then
          fRp_look_109 k98 n x2 (x3 ||| ((rd t_standing x4) &&& ((rd t_standing x4) >>> (x2 &&& 31)))) (x4 + 1) t_rowSize t_repeatPrice t_correctionPrice t_mostCorrections t_standing t_unlike
        else none
      else none
def fRp_look_98  : Nat → Int32 → Int32 → Int32 → Int32 → Int32 → (Nat → Int32) → (Nat → Int32) → Option (Int32 × Int32 × Int32 × Int32 × (Nat → Int32) × (Nat → Int32))
  | 0, _, _, _, _, _, _, _ => none
  | n + 1, x2, t_rowSize, t_repeatPrice, t_correctionPrice, t_mostCorrections, t_standing, t_unlike =>
    if (24 : Int32) ≤ x2 then
      some (t_rowSize, t_repeatPrice, t_correctionPrice, t_mostCorrections, t_standing, t_unlike)
    else
      fRp_look_109 (fRp_look_98 n) FU x2 (0 : Int32) (0 : Int32) t_rowSize t_repeatPrice t_correctionPrice t_mostCorrections t_standing t_unlike
def fRp_look_57 (u_size : Int32) (u_letters : Nat → Int32) : Nat → Int32 → Int32 → Int32 → Int32 → Int32 → (Nat → Int32) → (Nat → Int32) → Option (Int32 × Int32 × Int32 × Int32 × (Nat → Int32) × (Nat → Int32))
  | 0, _, _, _, _, _, _, _ => none
  | n + 1, x2, t_rowSize, t_repeatPrice, t_correctionPrice, t_mostCorrections, t_standing, t_unlike =>
    if t_rowSize ≤ x2 then
      fRp_look_98 FU (1 : Int32) t_rowSize t_repeatPrice t_correctionPrice t_mostCorrections t_standing t_unlike
    else
      (fSt_letter u_size u_letters x2).bind fun o2 =>
        (fRN_isKind o2).bind fun o3 =>
          if o3 = 0 then
            fRp_look_57 u_size u_letters n (x2 + 1) t_rowSize t_repeatPrice t_correctionPrice t_mostCorrections t_standing t_unlike
          else
            if bIn o2 4 = true then
              if bIn o2 4 = true then
                fRp_look_57 u_size u_letters n (x2 + 1) t_rowSize t_repeatPrice t_correctionPrice t_mostCorrections (wr t_standing o2 ((rd t_standing o2) ||| ((1 : Int32) <<< (x2 &&& 31)))) t_unlike
              else none
            else none
def fRp_look_37 (u_size : Int32) (u_letters : Nat → Int32) : Nat → Int32 → Int32 → Int32 → Int32 → Int32 → (Nat → Int32) → (Nat → Int32) → Option (Int32 × Int32 × Int32 × Int32 × (Nat → Int32) × (Nat → Int32))
  | 0, _, _, _, _, _, _, _ => none
  | n + 1, x2, t_rowSize, t_repeatPrice, t_correctionPrice, t_mostCorrections, t_standing, t_unlike =>
    if (4 : Int32) ≤ x2 then
      fRp_look_57 u_size u_letters FU (0 : Int32) t_rowSize t_repeatPrice t_correctionPrice t_mostCorrections t_standing t_unlike
    else
      if bIn x2 4 = true then
        fRp_look_37 u_size u_letters n (x2 + 1) t_rowSize t_repeatPrice t_correctionPrice t_mostCorrections (wr t_standing x2 (0 : Int32)) t_unlike
      else none
def fRp_look (u_size : Int32) (u_letters : Nat → Int32) (u_settings : Nat → Int32) (t_standing : Nat → Int32) (t_unlike : Nat → Int32) : Option (Int32 × Int32 × Int32 × Int32 × (Nat → Int32) × (Nat → Int32)) :=
  (fSt_setting u_settings (1 : Int32)).bind fun o14 =>
    (fSt_setting u_settings (2 : Int32)).bind fun o15 =>
      (fSt_setting u_settings (3 : Int32)).bind fun o16 =>
        fRp_look_37 u_size u_letters FU (0 : Int32) u_size o14 o15 o16 t_standing t_unlike

-- PtPr_init
def fPtPr_init  : Option (Unit) :=
  (fRp_init).bind fun o1 =>
    some ()

-- Pr_init
def fPr_init  : Option (Unit) :=
  (fPtPr_init).bind fun o1 =>
    some ()

-- Pr_fillPart
def fPr_fillPart_89 (x1 : Int32) (x2 : Int32) (x3 : Int32) (x4 : Int32) (t_table : Nat → Int32) : Option ((Nat → Int32)) :=
    (fRN_partIndex x1 x2 x3).bind fun o1 =>
      if o1 < 0 then
        some t_table
      else
        if (1625 : Int32) ≤ o1 then
          some t_table
        else
          if bIn o1 1625 = true then
            some (wr t_table o1 x4)
          else none
def fPr_fillPart_19 (t_items : Nat → Int32) (x1 : Int32) (x2 : Int32) (x3 : Int32) : Nat → Int32 → Int32 → Int32 → (Nat → Int32) → Option ((Nat → Int32))
  | 0, _, _, _, _ => none
  | n + 1, x4, x5, x6, t_table =>
    if x6 < 0 then
      fPr_fillPart_89 x1 x2 x3 x4 t_table
    else
      if x3 < x6 then
        fPr_fillPart_89 x1 x2 x3 x4 t_table
      else
        if (25 : Int32) ≤ x6 then
          fPr_fillPart_89 x1 x2 x3 x4 t_table
        else
          if x5 < 0 then
            fPr_fillPart_89 x1 x2 x3 x4 t_table
          else
            if (1625 : Int32) ≤ x5 then
              fPr_fillPart_89 x1 x2 x3 x4 t_table
            else
              if bIn x6 25 = true then
                if bIn x5 1625 = true then
                  if x4 ≤ ((rd t_items x6) + (rd t_table x5)) then
                    fPr_fillPart_19 t_items x1 x2 x3 n x4 (x5 + 1) (x6 + 1) t_table
                  else
                    fPr_fillPart_19 t_items x1 x2 x3 n ((rd t_items x6) + (rd t_table x5)) (x5 + 1) (x6 + 1) t_table
                else none
              else none
def fPr_fillPart (t_items : Nat → Int32) (t_table : Nat → Int32) (x1 : Int32) (x2 : Int32) (x3 : Int32) : Option ((Nat → Int32)) :=
  (fRN_partIndex x1 (x2 + (1 : Int32)) x3).bind fun o13 =>
    fPr_fillPart_19 t_items x1 x2 x3 FU (1000000 : Int32) o13 (x2 + (1 : Int32)) t_table

-- Pr_findItems
def fPr_findItems_58 (t_repeats_number : Int32) (t_repeats_blocks : Nat → Int32) (t_repeats_ends : Nat → Int32) (t_repeats_prices : Nat → Int32) (t_table : Nat → Int32) (x2 : Int32) (x3 : Int32) (x4 : Int32) : Nat → Int32 → (Nat → Int32) → Option ((Nat → Int32))
  | 0, _, _ => none
  | n + 1, x5, t_items =>
    if x2 ≤ 0 then
      some t_items
    else
      if t_repeats_number ≤ x5 then
        some t_items
      else
        if (60 : Int32) ≤ x5 then
          some t_items
        else
          if bIn x5 60 = true then
            if bIn x5 60 = true then
              (fRN_partIndex (x2 - (1 : Int32)) x3 (x3 + (rd t_repeats_blocks x5))).bind fun o6 =>
                if (rd t_repeats_ends x5) < 0 then
                  fPr_findItems_58 t_repeats_number t_repeats_blocks t_repeats_ends t_repeats_prices t_table x2 x3 x4 n (x5 + 1) t_items
                else
                  if x4 < (rd t_repeats_ends x5) then
                    fPr_findItems_58 t_repeats_number t_repeats_blocks t_repeats_ends t_repeats_prices t_table x2 x3 x4 n (x5 + 1) t_items
                  else
                    if (25 : Int32) ≤ (rd t_repeats_ends x5) then
                      fPr_findItems_58 t_repeats_number t_repeats_blocks t_repeats_ends t_repeats_prices t_table x2 x3 x4 n (x5 + 1) t_items
                    else
                      if o6 < 0 then
                        fPr_findItems_58 t_repeats_number t_repeats_blocks t_repeats_ends t_repeats_prices t_table x2 x3 x4 n (x5 + 1) t_items
                      else
                        if (1625 : Int32) ≤ o6 then
                          fPr_findItems_58 t_repeats_number t_repeats_blocks t_repeats_ends t_repeats_prices t_table x2 x3 x4 n (x5 + 1) t_items
                        else
                          if bIn x5 60 = true then
                            if bIn o6 1625 = true then
                              if bIn (rd t_repeats_ends x5) 25 = true then
                                if (rd t_items (rd t_repeats_ends x5)) ≤ ((rd t_repeats_prices x5) + (rd t_table o6)) then
                                  fPr_findItems_58 t_repeats_number t_repeats_blocks t_repeats_ends t_repeats_prices t_table x2 x3 x4 n (x5 + 1) t_items
                                else
                                  if bIn (rd t_repeats_ends x5) 25 = true then
                                    fPr_findItems_58 t_repeats_number t_repeats_blocks t_repeats_ends t_repeats_prices t_table x2 x3 x4 n (x5 + 1) (wr t_items (rd t_repeats_ends x5) ((rd t_repeats_prices x5) + (rd t_table o6)))
                                  else none
                              else none
                            else none
                          else none
            else none
          else none
def fPr_findItems_5 (t_repeats_number : Int32) (t_repeats_blocks : Nat → Int32) (t_repeats_ends : Nat → Int32) (t_repeats_prices : Nat → Int32) (t_table : Nat → Int32) (u_settings : Nat → Int32) (x2 : Int32) (x3 : Int32) (x4 : Int32) : Nat → Int32 → (Nat → Int32) → Option ((Nat → Int32))
  | 0, _, _ => none
  | n + 1, x5, t_items =>
    if x5 < 0 then
      fPr_findItems_58 t_repeats_number t_repeats_blocks t_repeats_ends t_repeats_prices t_table x2 x3 x4 FU (0 : Int32) t_items
    else
      if x4 < x5 then
        fPr_findItems_58 t_repeats_number t_repeats_blocks t_repeats_ends t_repeats_prices t_table x2 x3 x4 FU (0 : Int32) t_items
      else
        if (25 : Int32) ≤ x5 then
          fPr_findItems_58 t_repeats_number t_repeats_blocks t_repeats_ends t_repeats_prices t_table x2 x3 x4 FU (0 : Int32) t_items
        else
          if x5 = (x3 + (1 : Int32)) then
            (fSt_setting u_settings (0 : Int32)).bind fun o22 =>
              if bIn x5 25 = true then
                fPr_findItems_5 t_repeats_number t_repeats_blocks t_repeats_ends t_repeats_prices t_table u_settings x2 x3 x4 n (x5 + 1) (wr t_items x5 o22)
              else none
          else
            if bIn x5 25 = true then
              fPr_findItems_5 t_repeats_number t_repeats_blocks t_repeats_ends t_repeats_prices t_table u_settings x2 x3 x4 n (x5 + 1) (wr t_items x5 (1000000 : Int32))
            else none
def fPr_findItems (t_repeats_number : Int32) (t_repeats_blocks : Nat → Int32) (t_repeats_ends : Nat → Int32) (t_repeats_prices : Nat → Int32) (t_table : Nat → Int32) (u_settings : Nat → Int32) (t_items : Nat → Int32) (x2 : Int32) (x3 : Int32) (x4 : Int32) : Option ((Nat → Int32)) :=
  fPr_findItems_5 t_repeats_number t_repeats_blocks t_repeats_ends t_repeats_prices t_table u_settings x2 x3 x4 FU (x3 + (1 : Int32)) t_items

-- Pr_fill
def fPr_fill_111 (k22 : Int32 → Int32 → (Nat → Int32) → Int32 → Int32 → Int32 → Int32 → Int32 → (Nat → Int32) → (Nat → Int32) → (Nat → Int32) → (Nat → Int32) → (Nat → Int32) → (Nat → Int32) → Option ((Nat → Int32) × Int32 × Int32 × Int32 × Int32 × Int32 × (Nat → Int32) × (Nat → Int32) × (Nat → Int32) × (Nat → Int32) × (Nat → Int32) × (Nat → Int32))) (k39 : Int32 → Int32 → Int32 → (Nat → Int32) → Int32 → Int32 → Int32 → Int32 → Int32 → (Nat → Int32) → (Nat → Int32) → (Nat → Int32) → (Nat → Int32) → (Nat → Int32) → (Nat → Int32) → Option ((Nat → Int32) × Int32 × Int32 × Int32 × Int32 × Int32 × (Nat → Int32) × (Nat → Int32) × (Nat → Int32) × (Nat → Int32) × (Nat → Int32) × (Nat → Int32))) : Nat → Int32 → Int32 → Int32 → Int32 → Int32 → (Nat → Int32) → Int32 → Int32 → Int32 → Int32 → Int32 → (Nat → Int32) → (Nat → Int32) → (Nat → Int32) → (Nat → Int32) → (Nat → Int32) → (Nat → Int32) → Option ((Nat → Int32) × Int32 × Int32 × Int32 × Int32 × Int32 × (Nat → Int32) × (Nat → Int32) × (Nat → Int32) × (Nat → Int32) × (Nat → Int32) × (Nat → Int32))
  | 0, _, _, _, _, _, _, _, _, _, _, _, _, _, _, _, _, _ => none
  | n + 1, x4, x5, x6, x8, x10, t_items, t_repeats_rowSize, t_repeats_repeatPrice, t_repeats_correctionPrice, t_repeats_mostCorrections, t_repeats_number, t_repeats_blocks, t_repeats_ends, t_repeats_prices, t_repeats_standing, t_repeats_unlike, t_table =>
    if x8 < x10 then
      k39 x4 x5 (x6 + 1) t_items t_repeats_rowSize t_repeats_repeatPrice t_repeats_correctionPrice t_repeats_mostCorrections t_repeats_number t_repeats_blocks t_repeats_ends t_repeats_prices t_repeats_standing t_repeats_unlike t_table
    else
      (fPr_fillPart t_items t_table x6 x5 x10).bind fun o8 =>
        fPr_fill_111 k22 k39 n x4 x5 x6 x8 (x10 + 1) t_items t_repeats_rowSize t_repeats_repeatPrice t_repeats_correctionPrice t_repeats_mostCorrections t_repeats_number t_repeats_blocks t_repeats_ends t_repeats_prices t_repeats_standing t_repeats_unlike o8
def fPr_fill_94 (u_settings : Nat → Int32) (k22 : Int32 → Int32 → (Nat → Int32) → Int32 → Int32 → Int32 → Int32 → Int32 → (Nat → Int32) → (Nat → Int32) → (Nat → Int32) → (Nat → Int32) → (Nat → Int32) → (Nat → Int32) → Option ((Nat → Int32) × Int32 × Int32 × Int32 × Int32 × Int32 × (Nat → Int32) × (Nat → Int32) × (Nat → Int32) × (Nat → Int32) × (Nat → Int32) × (Nat → Int32))) (k39 : Int32 → Int32 → Int32 → (Nat → Int32) → Int32 → Int32 → Int32 → Int32 → Int32 → (Nat → Int32) → (Nat → Int32) → (Nat → Int32) → (Nat → Int32) → (Nat → Int32) → (Nat → Int32) → Option ((Nat → Int32) × Int32 × Int32 × Int32 × Int32 × Int32 × (Nat → Int32) × (Nat → Int32) × (Nat → Int32) × (Nat → Int32) × (Nat → Int32) × (Nat → Int32))) (x4 : Int32) (x5 : Int32) (x6 : Int32) (x8 : Int32) (s0 : Int32) (t_items : Nat → Int32) (t_repeats_rowSize : Int32) (t_repeats_repeatPrice : Int32) (t_repeats_correctionPrice : Int32) (t_repeats_mostCorrections : Int32) (t_repeats_number : Int32) (t_repeats_blocks : Nat → Int32) (t_repeats_ends : Nat → Int32) (t_repeats_prices : Nat → Int32) (t_repeats_standing : Nat → Int32) (t_repeats_unlike : Nat → Int32) (t_table : Nat → Int32) : Option ((Nat → Int32) × Int32 × Int32 × Int32 × Int32 × Int32 × (Nat → Int32) × (Nat → Int32) × (Nat → Int32) × (Nat → Int32) × (Nat → Int32) × (Nat → Int32)) :=
    (fPr_findItems t_repeats_number t_repeats_blocks t_repeats_ends t_repeats_prices t_table u_settings t_items x6 x5 x8).bind fun o6 =>
      fPr_fill_111 k22 k39 FU x4 x5 x6 x8 s0 o6 t_repeats_rowSize t_repeats_repeatPrice t_repeats_correctionPrice t_repeats_mostCorrections t_repeats_number t_repeats_blocks t_repeats_ends t_repeats_prices t_repeats_standing t_repeats_unlike t_table
def fPr_fill_90 (u_settings : Nat → Int32) (k22 : Int32 → Int32 → (Nat → Int32) → Int32 → Int32 → Int32 → Int32 → Int32 → (Nat → Int32) → (Nat → Int32) → (Nat → Int32) → (Nat → Int32) → (Nat → Int32) → (Nat → Int32) → Option ((Nat → Int32) × Int32 × Int32 × Int32 × Int32 × Int32 × (Nat → Int32) × (Nat → Int32) × (Nat → Int32) × (Nat → Int32) × (Nat → Int32) × (Nat → Int32))) (k39 : Int32 → Int32 → Int32 → (Nat → Int32) → Int32 → Int32 → Int32 → Int32 → Int32 → (Nat → Int32) → (Nat → Int32) → (Nat → Int32) → (Nat → Int32) → (Nat → Int32) → (Nat → Int32) → Option ((Nat → Int32) × Int32 × Int32 × Int32 × Int32 × Int32 × (Nat → Int32) × (Nat → Int32) × (Nat → Int32) × (Nat → Int32) × (Nat → Int32) × (Nat → Int32))) (x4 : Int32) (x5 : Int32) (x6 : Int32) (x8 : Int32) (t_items : Nat → Int32) (t_repeats_rowSize : Int32) (t_repeats_repeatPrice : Int32) (t_repeats_correctionPrice : Int32) (t_repeats_mostCorrections : Int32) (t_repeats_number : Int32) (t_repeats_blocks : Nat → Int32) (t_repeats_ends : Nat → Int32) (t_repeats_prices : Nat → Int32) (t_repeats_standing : Nat → Int32) (t_repeats_unlike : Nat → Int32) (t_table : Nat → Int32) : Option ((Nat → Int32) × Int32 × Int32 × Int32 × Int32 × Int32 × (Nat → Int32) × (Nat → Int32) × (Nat → Int32) × (Nat → Int32) × (Nat → Int32) × (Nat → Int32)) :=
    fPr_fill_94 u_settings k22 k39 x4 x5 x6 x8 (x5 + (1 : Int32)) t_items t_repeats_rowSize t_repeats_repeatPrice t_repeats_correctionPrice t_repeats_mostCorrections t_repeats_number t_repeats_blocks t_repeats_ends t_repeats_prices t_repeats_standing t_repeats_unlike t_table
def fPr_fill_39 (u_size : Int32) (u_settings : Nat → Int32) (x3 : Int32) (k22 : Int32 → Int32 → (Nat → Int32) → Int32 → Int32 → Int32 → Int32 → Int32 → (Nat → Int32) → (Nat → Int32) → (Nat → Int32) → (Nat → Int32) → (Nat → Int32) → (Nat → Int32) → Option ((Nat → Int32) × Int32 × Int32 × Int32 × Int32 × Int32 × (Nat → Int32) × (Nat → Int32) × (Nat → Int32) × (Nat → Int32) × (Nat → Int32) × (Nat → Int32))) : Nat → Int32 → Int32 → Int32 → (Nat → Int32) → Int32 → Int32 → Int32 → Int32 → Int32 → (Nat → Int32) → (Nat → Int32) → (Nat → Int32) → (Nat → Int32) → (Nat → Int32) → (Nat → Int32) → Option ((Nat → Int32) × Int32 × Int32 × Int32 × Int32 × Int32 × (Nat → Int32) × (Nat → Int32) × (Nat → Int32) × (Nat → Int32) × (Nat → Int32) × (Nat → Int32))
  | 0, _, _, _, _, _, _, _, _, _, _, _, _, _, _, _ => none
  | n + 1, x4, x5, x6, t_items, t_repeats_rowSize, t_repeats_repeatPrice, t_repeats_correctionPrice, t_repeats_mostCorrections, t_repeats_number, t_repeats_blocks, t_repeats_ends, t_repeats_prices, t_repeats_standing, t_repeats_unlike, t_table =>
    if x4 < x6 then
      k22 x4 (x5 + (-1)) t_items t_repeats_rowSize t_repeats_repeatPrice t_repeats_correctionPrice t_repeats_mostCorrections t_repeats_number t_repeats_blocks t_repeats_ends t_repeats_prices t_repeats_standing t_repeats_unlike t_table
    else
      if x3 = 0 then
        fPr_fill_90 u_settings k22 (fPr_fill_39 u_size u_settings x3 k22 n) x4 x5 x6 (if (x5 + (u_size >>> ((x4 - x6) &&& 31))) < u_size then (x5 + (u_size >>> ((x4 - x6) &&& 31))) else u_size) t_items t_repeats_rowSize t_repeats_repeatPrice t_repeats_correctionPrice t_repeats_mostCorrections t_repeats_number t_repeats_blocks t_repeats_ends t_repeats_prices t_repeats_standing t_repeats_unlike t_table
      else
        if x6 = x4 then
          fPr_fill_94 u_settings k22 (fPr_fill_39 u_size u_settings x3 k22 n) x4 x5 x6 (if (x5 + (u_size >>> ((x4 - x6) &&& 31))) < u_size then (x5 + (u_size >>> ((x4 - x6) &&& 31))) else u_size) u_size t_items t_repeats_rowSize t_repeats_repeatPrice t_repeats_correctionPrice t_repeats_mostCorrections t_repeats_number t_repeats_blocks t_repeats_ends t_repeats_prices t_repeats_standing t_repeats_unlike t_table
        else
          fPr_fill_90 u_settings k22 (fPr_fill_39 u_size u_settings x3 k22 n) x4 x5 x6 (if (x5 + (u_size >>> ((x4 - x6) &&& 31))) < u_size then (x5 + (u_size >>> ((x4 - x6) &&& 31))) else u_size) t_items t_repeats_rowSize t_repeats_repeatPrice t_repeats_correctionPrice t_repeats_mostCorrections t_repeats_number t_repeats_blocks t_repeats_ends t_repeats_prices t_repeats_standing t_repeats_unlike t_table
def fPr_fill_22 (u_size : Int32) (u_settings : Nat → Int32) (x3 : Int32) : Nat → Int32 → Int32 → (Nat → Int32) → Int32 → Int32 → Int32 → Int32 → Int32 → (Nat → Int32) → (Nat → Int32) → (Nat → Int32) → (Nat → Int32) → (Nat → Int32) → (Nat → Int32) → Option ((Nat → Int32) × Int32 × Int32 × Int32 × Int32 × Int32 × (Nat → Int32) × (Nat → Int32) × (Nat → Int32) × (Nat → Int32) × (Nat → Int32) × (Nat → Int32))
  | 0, _, _, _, _, _, _, _, _, _, _, _, _, _, _ => none
  | n + 1, x4, x5, t_items, t_repeats_rowSize, t_repeats_repeatPrice, t_repeats_correctionPrice, t_repeats_mostCorrections, t_repeats_number, t_repeats_blocks, t_repeats_ends, t_repeats_prices, t_repeats_standing, t_repeats_unlike, t_table =>
    if x5 < 0 then
      some (t_items, t_repeats_rowSize, t_repeats_repeatPrice, t_repeats_correctionPrice, t_repeats_mostCorrections, t_repeats_number, t_repeats_blocks, t_repeats_ends, t_repeats_prices, t_repeats_standing, t_repeats_unlike, t_table)
    else
      (fRp_find t_repeats_rowSize t_repeats_repeatPrice t_repeats_correctionPrice t_repeats_mostCorrections t_repeats_unlike t_repeats_blocks t_repeats_ends t_repeats_prices x5).bind fun o2 =>
        fPr_fill_39 u_size u_settings x3 (fPr_fill_22 u_size u_settings x3 n) FU x4 x5 (0 : Int32) t_items t_repeats_rowSize t_repeats_repeatPrice t_repeats_correctionPrice t_repeats_mostCorrections o2.1 o2.2.1 o2.2.2.1 o2.2.2.2 t_repeats_standing t_repeats_unlike t_table
def fPr_fill (u_size : Int32) (u_letters : Nat → Int32) (u_settings : Nat → Int32) (t_items : Nat → Int32) (t_repeats_number : Int32) (t_repeats_blocks : Nat → Int32) (t_repeats_ends : Nat → Int32) (t_repeats_prices : Nat → Int32) (t_repeats_standing : Nat → Int32) (t_repeats_unlike : Nat → Int32) (t_table : Nat → Int32) (x2 : Int32) (x3 : Int32) : Option ((Nat → Int32) × Int32 × Int32 × Int32 × Int32 × Int32 × (Nat → Int32) × (Nat → Int32) × (Nat → Int32) × (Nat → Int32) × (Nat → Int32) × (Nat → Int32)) :=
  (fRp_look u_size u_letters u_settings t_repeats_standing t_repeats_unlike).bind fun o9 =>
    (fSt_setting u_settings (4 : Int32)).bind fun o10 =>
      fPr_fill_22 u_size u_settings x3 FU (if (4 : Int32) < o10 then (4 : Int32) else o10) x2 t_items o9.1 o9.2.1 o9.2.2.1 o9.2.2.2.1 t_repeats_number t_repeats_blocks t_repeats_ends t_repeats_prices o9.2.2.2.2.1 o9.2.2.2.2.2 t_table

-- Pr_price
def fPr_price (t_table : Nat → Int32) (x1 : Int32) (x2 : Int32) (x3 : Int32) : Option (Int32) :=
  (fRN_partIndex x1 x2 x3).bind fun o1 =>
    if o1 < 0 then
      some (0 : Int32)
    else
      if (1625 : Int32) ≤ o1 then
        some (0 : Int32)
      else
        if bIn o1 1625 = true then
          some (rd t_table o1)
        else none

-- Pr_rowPrice
def fPr_rowPrice (t_table : Nat → Int32) (u_size : Int32) (u_settings : Nat → Int32) : Option (Int32) :=
  (fSt_setting u_settings (4 : Int32)).bind fun o1 =>
    (fPr_price t_table o1 (0 : Int32) u_size).bind fun o2 =>
      some o2

-- Pr_refresh
def fPr_refresh (u_size : Int32) (u_letters : Nat → Int32) (u_settings : Nat → Int32) (t_fresh : Int32) (t_items : Nat → Int32) (t_repeats_rowSize : Int32) (t_repeats_repeatPrice : Int32) (t_repeats_correctionPrice : Int32) (t_repeats_mostCorrections : Int32) (t_repeats_number : Int32) (t_repeats_blocks : Nat → Int32) (t_repeats_ends : Nat → Int32) (t_repeats_prices : Nat → Int32) (t_repeats_standing : Nat → Int32) (t_repeats_unlike : Nat → Int32) (t_table : Nat → Int32) : Option (Int32 × (Nat → Int32) × Int32 × Int32 × Int32 × Int32 × Int32 × (Nat → Int32) × (Nat → Int32) × (Nat → Int32) × (Nat → Int32) × (Nat → Int32) × (Nat → Int32)) :=
  if t_fresh = 0 then
    (fPr_fill u_size u_letters u_settings t_items t_repeats_number t_repeats_blocks t_repeats_ends t_repeats_prices t_repeats_standing t_repeats_unlike t_table (u_size - (1 : Int32)) (0 : Int32)).bind fun o2 =>
      some ((1 : Int32), o2.1, o2.2.1, o2.2.2.1, o2.2.2.2.1, o2.2.2.2.2.1, o2.2.2.2.2.2.1, o2.2.2.2.2.2.2.1, o2.2.2.2.2.2.2.2.1, o2.2.2.2.2.2.2.2.2.1, o2.2.2.2.2.2.2.2.2.2.1, o2.2.2.2.2.2.2.2.2.2.2.1, o2.2.2.2.2.2.2.2.2.2.2.2)
  else
    some (t_fresh, t_items, t_repeats_rowSize, t_repeats_repeatPrice, t_repeats_correctionPrice, t_repeats_mostCorrections, t_repeats_number, t_repeats_blocks, t_repeats_ends, t_repeats_prices, t_repeats_standing, t_repeats_unlike, t_table)

-- PtNu_init
def fPtNu_init  : Option (Unit) :=
  (fRp_init).bind fun o1 =>
    some ()

-- Nu_put
def fNu_put (t_table : Nat → Int64) (x1 : Int32) (x2 : Int64) : Option ((Nat → Int64)) :=
  if x1 < 0 then
    some t_table
  else
    if (1625 : Int32) ≤ x1 then
      some t_table
    else
      if bIn x1 1625 = true then
        some (wrL t_table x1 x2)
      else none

-- Nu_init
def fNu_init_30 (k23 : Int32 → (Nat → Int64) → Option ((Nat → Int64))) : Nat → Int32 → Int32 → (Nat → Int64) → Option ((Nat → Int64))
  | 0, _, _, _ => none
  | n + 1, x1, x2, na_n8 =>
    if (25 : Int32) ≤ x2 then
      k23 (x1 + 1) na_n8
    else
      (fRN_partIndex x1 x2 x2).bind fun o4 =>
        (fNu_put na_n8 o4 (1 : Int64)).bind fun o5 =>
          fNu_init_30 k23 n x1 (x2 + 1) o5
def fNu_init_23  : Nat → Int32 → (Nat → Int64) → Option ((Nat → Int64))
  | 0, _, _ => none
  | n + 1, x1, na_n8 =>
    if (5 : Int32) ≤ x1 then
      some na_n8
    else
      fNu_init_30 (fNu_init_23 n) FU x1 (0 : Int32) na_n8
def fNu_init  : Option ((Nat → Int64)) :=
  (fPtNu_init).bind fun o1 =>
    fNu_init_23 FU (0 : Int32) (fun _ => 0)

-- Nu_number
def fNu_number (t_table : Nat → Int64) (x1 : Int32) (x2 : Int32) (x3 : Int32) : Option (Int64) :=
  (fRN_partIndex x1 x2 x3).bind fun o1 =>
    if o1 < 0 then
      some (0 : Int64)
    else
      if (1625 : Int32) ≤ o1 then
        some (0 : Int64)
      else
        if bIn o1 1625 = true then
          some (rdL t_table o1)
        else none

-- Nu_fillPart
def fNu_fillPart_80 (x1 : Int32) (x2 : Int32) (x3 : Int32) (x4 : Int64) (t_table : Nat → Int64) : Option ((Nat → Int64)) :=
    (fRN_partIndex x1 x2 x3).bind fun o1 =>
      (fNu_put t_table o1 x4).bind fun o2 =>
        some o2
def fNu_fillPart_18 (t_items : Nat → Int64) (x1 : Int32) (x2 : Int32) (x3 : Int32) : Nat → Int64 → Int32 → Int32 → (Nat → Int64) → Option ((Nat → Int64))
  | 0, _, _, _, _ => none
  | n + 1, x4, x6, x7, t_table =>
    if x7 < 0 then
      fNu_fillPart_80 x1 x2 x3 x4 t_table
    else
      if x3 < x7 then
        fNu_fillPart_80 x1 x2 x3 x4 t_table
      else
        if (25 : Int32) ≤ x7 then
          fNu_fillPart_80 x1 x2 x3 x4 t_table
        else
          if x6 < 0 then
            fNu_fillPart_80 x1 x2 x3 x4 t_table
          else
            if (1625 : Int32) ≤ x6 then
              fNu_fillPart_80 x1 x2 x3 x4 t_table
            else
              if bIn x7 25 = true then
                if bIn x6 1625 = true then
                  fNu_fillPart_18 t_items x1 x2 x3 n (x4 + ((rdL t_items x7) * (rdL t_table x6))) (x6 + 1) (x7 + 1) t_table
                else none
              else none
def fNu_fillPart (t_items : Nat → Int64) (t_table : Nat → Int64) (x1 : Int32) (x2 : Int32) (x3 : Int32) : Option ((Nat → Int64)) :=
  (fRN_partIndex x1 (x2 + (1 : Int32)) x3).bind fun o10 =>
    fNu_fillPart_18 t_items x1 x2 x3 FU (0 : Int64) o10 (x2 + (1 : Int32)) t_table

-- Nu_findItems
def fNu_findItems_53 (t_repeats_number : Int32) (t_repeats_blocks : Nat → Int32) (t_repeats_ends : Nat → Int32) (t_table : Nat → Int64) (x2 : Int32) (x3 : Int32) (x4 : Int32) : Nat → Int32 → (Nat → Int64) → Option ((Nat → Int64))
  | 0, _, _ => none
  | n + 1, x5, t_items =>
    if x2 ≤ 0 then
      some t_items
    else
      if t_repeats_number ≤ x5 then
        some t_items
      else
        if (60 : Int32) ≤ x5 then
          some t_items
        else
          if bIn x5 60 = true then
            if bIn x5 60 = true then
              (fRN_partIndex (x2 - (1 : Int32)) x3 (x3 + (rd t_repeats_blocks x5))).bind fun o12 =>
                if (rd t_repeats_ends x5) < 0 then
                  fNu_findItems_53 t_repeats_number t_repeats_blocks t_repeats_ends t_table x2 x3 x4 n (x5 + 1) t_items
                else
                  if x4 < (rd t_repeats_ends x5) then
                    fNu_findItems_53 t_repeats_number t_repeats_blocks t_repeats_ends t_table x2 x3 x4 n (x5 + 1) t_items
                  else
                    if (25 : Int32) ≤ (rd t_repeats_ends x5) then
                      fNu_findItems_53 t_repeats_number t_repeats_blocks t_repeats_ends t_table x2 x3 x4 n (x5 + 1) t_items
                    else
                      if o12 < 0 then
                        fNu_findItems_53 t_repeats_number t_repeats_blocks t_repeats_ends t_table x2 x3 x4 n (x5 + 1) t_items
                      else
                        if (1625 : Int32) ≤ o12 then
                          fNu_findItems_53 t_repeats_number t_repeats_blocks t_repeats_ends t_table x2 x3 x4 n (x5 + 1) t_items
                        else
                          if bIn (rd t_repeats_ends x5) 25 = true then
                            if bIn o12 1625 = true then
                              if bIn (rd t_repeats_ends x5) 25 = true then
                                fNu_findItems_53 t_repeats_number t_repeats_blocks t_repeats_ends t_table x2 x3 x4 n (x5 + 1) (wrL t_items (rd t_repeats_ends x5) ((rdL t_items (rd t_repeats_ends x5)) + (rdL t_table o12)))
                              else none
                            else none
                          else none
            else none
          else none
def fNu_findItems_5 (t_repeats_number : Int32) (t_repeats_blocks : Nat → Int32) (t_repeats_ends : Nat → Int32) (t_table : Nat → Int64) (x2 : Int32) (x3 : Int32) (x4 : Int32) : Nat → Int32 → (Nat → Int64) → Option ((Nat → Int64))
  | 0, _, _ => none
  | n + 1, x5, t_items =>
    if x5 < 0 then
      fNu_findItems_53 t_repeats_number t_repeats_blocks t_repeats_ends t_table x2 x3 x4 FU (0 : Int32) t_items
    else
      if x4 < x5 then
        fNu_findItems_53 t_repeats_number t_repeats_blocks t_repeats_ends t_table x2 x3 x4 FU (0 : Int32) t_items
      else
        if (25 : Int32) ≤ x5 then
          fNu_findItems_53 t_repeats_number t_repeats_blocks t_repeats_ends t_table x2 x3 x4 FU (0 : Int32) t_items
        else
          if x5 = (x3 + (1 : Int32)) then
            if bIn x5 25 = true then
              fNu_findItems_5 t_repeats_number t_repeats_blocks t_repeats_ends t_table x2 x3 x4 n (x5 + 1) (wrL t_items x5 (1 : Int64))
            else none
          else
            if bIn x5 25 = true then
              fNu_findItems_5 t_repeats_number t_repeats_blocks t_repeats_ends t_table x2 x3 x4 n (x5 + 1) (wrL t_items x5 (0 : Int64))
            else none
def fNu_findItems (t_repeats_number : Int32) (t_repeats_blocks : Nat → Int32) (t_repeats_ends : Nat → Int32) (t_table : Nat → Int64) (t_items : Nat → Int64) (x2 : Int32) (x3 : Int32) (x4 : Int32) : Option ((Nat → Int64)) :=
  fNu_findItems_5 t_repeats_number t_repeats_blocks t_repeats_ends t_table x2 x3 x4 FU (x3 + (1 : Int32)) t_items

-- Nu_fill
def fNu_fill_111 (k22 : Int32 → Int32 → (Nat → Int64) → Int32 → Int32 → Int32 → Int32 → Int32 → (Nat → Int32) → (Nat → Int32) → (Nat → Int32) → (Nat → Int32) → (Nat → Int32) → (Nat → Int64) → Option ((Nat → Int64) × Int32 × Int32 × Int32 × Int32 × Int32 × (Nat → Int32) × (Nat → Int32) × (Nat → Int32) × (Nat → Int32) × (Nat → Int32) × (Nat → Int64))) (k39 : Int32 → Int32 → Int32 → (Nat → Int64) → Int32 → Int32 → Int32 → Int32 → Int32 → (Nat → Int32) → (Nat → Int32) → (Nat → Int32) → (Nat → Int32) → (Nat → Int32) → (Nat → Int64) → Option ((Nat → Int64) × Int32 × Int32 × Int32 × Int32 × Int32 × (Nat → Int32) × (Nat → Int32) × (Nat → Int32) × (Nat → Int32) × (Nat → Int32) × (Nat → Int64))) : Nat → Int32 → Int32 → Int32 → Int32 → Int32 → (Nat → Int64) → Int32 → Int32 → Int32 → Int32 → Int32 → (Nat → Int32) → (Nat → Int32) → (Nat → Int32) → (Nat → Int32) → (Nat → Int32) → (Nat → Int64) → Option ((Nat → Int64) × Int32 × Int32 × Int32 × Int32 × Int32 × (Nat → Int32) × (Nat → Int32) × (Nat → Int32) × (Nat → Int32) × (Nat → Int32) × (Nat → Int64))
  | 0, _, _, _, _, _, _, _, _, _, _, _, _, _, _, _, _, _ => none
  | n + 1, x4, x5, x6, x8, x10, t_items, t_repeats_rowSize, t_repeats_repeatPrice, t_repeats_correctionPrice, t_repeats_mostCorrections, t_repeats_number, t_repeats_blocks, t_repeats_ends, t_repeats_prices, t_repeats_standing, t_repeats_unlike, t_table =>
    if x8 < x10 then
      k39 x4 x5 (x6 + 1) t_items t_repeats_rowSize t_repeats_repeatPrice t_repeats_correctionPrice t_repeats_mostCorrections t_repeats_number t_repeats_blocks t_repeats_ends t_repeats_prices t_repeats_standing t_repeats_unlike t_table
    else
      (fNu_fillPart t_items t_table x6 x5 x10).bind fun o8 =>
        fNu_fill_111 k22 k39 n x4 x5 x6 x8 (x10 + 1) t_items t_repeats_rowSize t_repeats_repeatPrice t_repeats_correctionPrice t_repeats_mostCorrections t_repeats_number t_repeats_blocks t_repeats_ends t_repeats_prices t_repeats_standing t_repeats_unlike o8
def fNu_fill_94 (k22 : Int32 → Int32 → (Nat → Int64) → Int32 → Int32 → Int32 → Int32 → Int32 → (Nat → Int32) → (Nat → Int32) → (Nat → Int32) → (Nat → Int32) → (Nat → Int32) → (Nat → Int64) → Option ((Nat → Int64) × Int32 × Int32 × Int32 × Int32 × Int32 × (Nat → Int32) × (Nat → Int32) × (Nat → Int32) × (Nat → Int32) × (Nat → Int32) × (Nat → Int64))) (k39 : Int32 → Int32 → Int32 → (Nat → Int64) → Int32 → Int32 → Int32 → Int32 → Int32 → (Nat → Int32) → (Nat → Int32) → (Nat → Int32) → (Nat → Int32) → (Nat → Int32) → (Nat → Int64) → Option ((Nat → Int64) × Int32 × Int32 × Int32 × Int32 × Int32 × (Nat → Int32) × (Nat → Int32) × (Nat → Int32) × (Nat → Int32) × (Nat → Int32) × (Nat → Int64))) (x4 : Int32) (x5 : Int32) (x6 : Int32) (x8 : Int32) (s0 : Int32) (t_items : Nat → Int64) (t_repeats_rowSize : Int32) (t_repeats_repeatPrice : Int32) (t_repeats_correctionPrice : Int32) (t_repeats_mostCorrections : Int32) (t_repeats_number : Int32) (t_repeats_blocks : Nat → Int32) (t_repeats_ends : Nat → Int32) (t_repeats_prices : Nat → Int32) (t_repeats_standing : Nat → Int32) (t_repeats_unlike : Nat → Int32) (t_table : Nat → Int64) : Option ((Nat → Int64) × Int32 × Int32 × Int32 × Int32 × Int32 × (Nat → Int32) × (Nat → Int32) × (Nat → Int32) × (Nat → Int32) × (Nat → Int32) × (Nat → Int64)) :=
    (fNu_findItems t_repeats_number t_repeats_blocks t_repeats_ends t_table t_items x6 x5 x8).bind fun o6 =>
      fNu_fill_111 k22 k39 FU x4 x5 x6 x8 s0 o6 t_repeats_rowSize t_repeats_repeatPrice t_repeats_correctionPrice t_repeats_mostCorrections t_repeats_number t_repeats_blocks t_repeats_ends t_repeats_prices t_repeats_standing t_repeats_unlike t_table
def fNu_fill_90 (k22 : Int32 → Int32 → (Nat → Int64) → Int32 → Int32 → Int32 → Int32 → Int32 → (Nat → Int32) → (Nat → Int32) → (Nat → Int32) → (Nat → Int32) → (Nat → Int32) → (Nat → Int64) → Option ((Nat → Int64) × Int32 × Int32 × Int32 × Int32 × Int32 × (Nat → Int32) × (Nat → Int32) × (Nat → Int32) × (Nat → Int32) × (Nat → Int32) × (Nat → Int64))) (k39 : Int32 → Int32 → Int32 → (Nat → Int64) → Int32 → Int32 → Int32 → Int32 → Int32 → (Nat → Int32) → (Nat → Int32) → (Nat → Int32) → (Nat → Int32) → (Nat → Int32) → (Nat → Int64) → Option ((Nat → Int64) × Int32 × Int32 × Int32 × Int32 × Int32 × (Nat → Int32) × (Nat → Int32) × (Nat → Int32) × (Nat → Int32) × (Nat → Int32) × (Nat → Int64))) (x4 : Int32) (x5 : Int32) (x6 : Int32) (x8 : Int32) (t_items : Nat → Int64) (t_repeats_rowSize : Int32) (t_repeats_repeatPrice : Int32) (t_repeats_correctionPrice : Int32) (t_repeats_mostCorrections : Int32) (t_repeats_number : Int32) (t_repeats_blocks : Nat → Int32) (t_repeats_ends : Nat → Int32) (t_repeats_prices : Nat → Int32) (t_repeats_standing : Nat → Int32) (t_repeats_unlike : Nat → Int32) (t_table : Nat → Int64) : Option ((Nat → Int64) × Int32 × Int32 × Int32 × Int32 × Int32 × (Nat → Int32) × (Nat → Int32) × (Nat → Int32) × (Nat → Int32) × (Nat → Int32) × (Nat → Int64)) :=
    fNu_fill_94 k22 k39 x4 x5 x6 x8 (x5 + (1 : Int32)) t_items t_repeats_rowSize t_repeats_repeatPrice t_repeats_correctionPrice t_repeats_mostCorrections t_repeats_number t_repeats_blocks t_repeats_ends t_repeats_prices t_repeats_standing t_repeats_unlike t_table
def fNu_fill_39 (u_size : Int32) (x3 : Int32) (k22 : Int32 → Int32 → (Nat → Int64) → Int32 → Int32 → Int32 → Int32 → Int32 → (Nat → Int32) → (Nat → Int32) → (Nat → Int32) → (Nat → Int32) → (Nat → Int32) → (Nat → Int64) → Option ((Nat → Int64) × Int32 × Int32 × Int32 × Int32 × Int32 × (Nat → Int32) × (Nat → Int32) × (Nat → Int32) × (Nat → Int32) × (Nat → Int32) × (Nat → Int64))) : Nat → Int32 → Int32 → Int32 → (Nat → Int64) → Int32 → Int32 → Int32 → Int32 → Int32 → (Nat → Int32) → (Nat → Int32) → (Nat → Int32) → (Nat → Int32) → (Nat → Int32) → (Nat → Int64) → Option ((Nat → Int64) × Int32 × Int32 × Int32 × Int32 × Int32 × (Nat → Int32) × (Nat → Int32) × (Nat → Int32) × (Nat → Int32) × (Nat → Int32) × (Nat → Int64))
  | 0, _, _, _, _, _, _, _, _, _, _, _, _, _, _, _ => none
  | n + 1, x4, x5, x6, t_items, t_repeats_rowSize, t_repeats_repeatPrice, t_repeats_correctionPrice, t_repeats_mostCorrections, t_repeats_number, t_repeats_blocks, t_repeats_ends, t_repeats_prices, t_repeats_standing, t_repeats_unlike, t_table =>
    if x4 < x6 then
      k22 x4 (x5 + (-1)) t_items t_repeats_rowSize t_repeats_repeatPrice t_repeats_correctionPrice t_repeats_mostCorrections t_repeats_number t_repeats_blocks t_repeats_ends t_repeats_prices t_repeats_standing t_repeats_unlike t_table
    else
      if x3 = 0 then
        fNu_fill_90 k22 (fNu_fill_39 u_size x3 k22 n) x4 x5 x6 (if (x5 + (u_size >>> ((x4 - x6) &&& 31))) < u_size then (x5 + (u_size >>> ((x4 - x6) &&& 31))) else u_size) t_items t_repeats_rowSize t_repeats_repeatPrice t_repeats_correctionPrice t_repeats_mostCorrections t_repeats_number t_repeats_blocks t_repeats_ends t_repeats_prices t_repeats_standing t_repeats_unlike t_table
      else
        if x6 = x4 then
          fNu_fill_94 k22 (fNu_fill_39 u_size x3 k22 n) x4 x5 x6 (if (x5 + (u_size >>> ((x4 - x6) &&& 31))) < u_size then (x5 + (u_size >>> ((x4 - x6) &&& 31))) else u_size) u_size t_items t_repeats_rowSize t_repeats_repeatPrice t_repeats_correctionPrice t_repeats_mostCorrections t_repeats_number t_repeats_blocks t_repeats_ends t_repeats_prices t_repeats_standing t_repeats_unlike t_table
        else
          fNu_fill_90 k22 (fNu_fill_39 u_size x3 k22 n) x4 x5 x6 (if (x5 + (u_size >>> ((x4 - x6) &&& 31))) < u_size then (x5 + (u_size >>> ((x4 - x6) &&& 31))) else u_size) t_items t_repeats_rowSize t_repeats_repeatPrice t_repeats_correctionPrice t_repeats_mostCorrections t_repeats_number t_repeats_blocks t_repeats_ends t_repeats_prices t_repeats_standing t_repeats_unlike t_table
def fNu_fill_22 (u_size : Int32) (x3 : Int32) : Nat → Int32 → Int32 → (Nat → Int64) → Int32 → Int32 → Int32 → Int32 → Int32 → (Nat → Int32) → (Nat → Int32) → (Nat → Int32) → (Nat → Int32) → (Nat → Int32) → (Nat → Int64) → Option ((Nat → Int64) × Int32 × Int32 × Int32 × Int32 × Int32 × (Nat → Int32) × (Nat → Int32) × (Nat → Int32) × (Nat → Int32) × (Nat → Int32) × (Nat → Int64))
  | 0, _, _, _, _, _, _, _, _, _, _, _, _, _, _ => none
  | n + 1, x4, x5, t_items, t_repeats_rowSize, t_repeats_repeatPrice, t_repeats_correctionPrice, t_repeats_mostCorrections, t_repeats_number, t_repeats_blocks, t_repeats_ends, t_repeats_prices, t_repeats_standing, t_repeats_unlike, t_table =>
    if x5 < 0 then
      some (t_items, t_repeats_rowSize, t_repeats_repeatPrice, t_repeats_correctionPrice, t_repeats_mostCorrections, t_repeats_number, t_repeats_blocks, t_repeats_ends, t_repeats_prices, t_repeats_standing, t_repeats_unlike, t_table)
    else
      (fRp_find t_repeats_rowSize t_repeats_repeatPrice t_repeats_correctionPrice t_repeats_mostCorrections t_repeats_unlike t_repeats_blocks t_repeats_ends t_repeats_prices x5).bind fun o2 =>
        fNu_fill_39 u_size x3 (fNu_fill_22 u_size x3 n) FU x4 x5 (0 : Int32) t_items t_repeats_rowSize t_repeats_repeatPrice t_repeats_correctionPrice t_repeats_mostCorrections o2.1 o2.2.1 o2.2.2.1 o2.2.2.2 t_repeats_standing t_repeats_unlike t_table
def fNu_fill (u_size : Int32) (u_letters : Nat → Int32) (u_settings : Nat → Int32) (t_items : Nat → Int64) (t_repeats_number : Int32) (t_repeats_blocks : Nat → Int32) (t_repeats_ends : Nat → Int32) (t_repeats_prices : Nat → Int32) (t_repeats_standing : Nat → Int32) (t_repeats_unlike : Nat → Int32) (t_table : Nat → Int64) (x2 : Int32) (x3 : Int32) : Option ((Nat → Int64) × Int32 × Int32 × Int32 × Int32 × Int32 × (Nat → Int32) × (Nat → Int32) × (Nat → Int32) × (Nat → Int32) × (Nat → Int32) × (Nat → Int64)) :=
  (fRp_look u_size u_letters u_settings t_repeats_standing t_repeats_unlike).bind fun o9 =>
    (fSt_setting u_settings (4 : Int32)).bind fun o10 =>
      fNu_fill_22 u_size x3 FU (if (4 : Int32) < o10 then (4 : Int32) else o10) x2 t_items o9.1 o9.2.1 o9.2.2.1 o9.2.2.2.1 t_repeats_number t_repeats_blocks t_repeats_ends t_repeats_prices o9.2.2.2.2.1 o9.2.2.2.2.2 t_table

-- Nu_refresh
def fNu_refresh (u_size : Int32) (u_letters : Nat → Int32) (u_settings : Nat → Int32) (t_fresh : Int32) (t_items : Nat → Int64) (t_repeats_rowSize : Int32) (t_repeats_repeatPrice : Int32) (t_repeats_correctionPrice : Int32) (t_repeats_mostCorrections : Int32) (t_repeats_number : Int32) (t_repeats_blocks : Nat → Int32) (t_repeats_ends : Nat → Int32) (t_repeats_prices : Nat → Int32) (t_repeats_standing : Nat → Int32) (t_repeats_unlike : Nat → Int32) (t_table : Nat → Int64) : Option (Int32 × (Nat → Int64) × Int32 × Int32 × Int32 × Int32 × Int32 × (Nat → Int32) × (Nat → Int32) × (Nat → Int32) × (Nat → Int32) × (Nat → Int32) × (Nat → Int64)) :=
  if t_fresh = 0 then
    (fNu_fill u_size u_letters u_settings t_items t_repeats_number t_repeats_blocks t_repeats_ends t_repeats_prices t_repeats_standing t_repeats_unlike t_table (u_size - (1 : Int32)) (0 : Int32)).bind fun o2 =>
      some ((1 : Int32), o2.1, o2.2.1, o2.2.2.1, o2.2.2.2.1, o2.2.2.2.2.1, o2.2.2.2.2.2.1, o2.2.2.2.2.2.2.1, o2.2.2.2.2.2.2.2.1, o2.2.2.2.2.2.2.2.2.1, o2.2.2.2.2.2.2.2.2.2.1, o2.2.2.2.2.2.2.2.2.2.2.1, o2.2.2.2.2.2.2.2.2.2.2.2)
  else
    some (t_fresh, t_items, t_repeats_rowSize, t_repeats_repeatPrice, t_repeats_correctionPrice, t_repeats_mostCorrections, t_repeats_number, t_repeats_blocks, t_repeats_ends, t_repeats_prices, t_repeats_standing, t_repeats_unlike, t_table)

-- Tl_init
def fTl_init  : Option (Unit) :=
  (fRp_init).bind fun o1 =>
    some ()

-- Tl_measure
def fTl_measure (t_length : Int32) (t_items : Int32) (t_deepest : Int32) (t_repeatsTold : Int32) (t_correctionsTold : Int32) (t_firstLetters : Int32) (t_firstTimes : Int32) (x1 : Int32) : Option (Int32) :=
  if x1 = (1 : Int32) then
    some t_items
  else
    if x1 = (2 : Int32) then
      some t_deepest
    else
      if x1 = (3 : Int32) then
        some t_repeatsTold
      else
        if x1 = (4 : Int32) then
          some t_correctionsTold
        else
          if x1 = (5 : Int32) then
            some t_length
          else
            if x1 = (6 : Int32) then
              some t_firstLetters
            else
              some t_firstTimes

-- Tl_choose
def fTl_choose_41 (v_table : Nat → Int32) (x3 : Int32) (x4 : Int32) (x5 : Int32) : Nat → Int32 → Int32 → Int32 → Int32 → Int32 → (Nat → Int32) → (Nat → Int32) → (Nat → Int32) → Option (Int32 × Int32 × Int32 × (Nat → Int32) × (Nat → Int32) × (Nat → Int32))
  | 0, _, _, _, _, _, _, _, _ => none
  | n + 1, x6, x7, t_chosenEnd, t_chosenBlock, t_repeats_number, t_repeats_blocks, t_repeats_ends, t_repeats_prices =>
    if t_repeats_number ≤ x7 then
      some (t_chosenEnd, t_chosenBlock, t_repeats_number, t_repeats_blocks, t_repeats_ends, t_repeats_prices)
    else
      if (60 : Int32) ≤ x7 then
        some (t_chosenEnd, t_chosenBlock, t_repeats_number, t_repeats_blocks, t_repeats_ends, t_repeats_prices)
      else
        if bIn x7 60 = true then
          if bIn x7 60 = true then
            if bIn x7 60 = true then
              (fPr_price v_table (x3 - (1 : Int32)) x4 (x4 + (rd t_repeats_blocks x7))).bind fun o6 =>
                if (rd t_repeats_ends x7) ≤ t_chosenEnd then
                  fTl_choose_41 v_table x3 x4 x5 n x6 (x7 + 1) t_chosenEnd t_chosenBlock t_repeats_number t_repeats_blocks t_repeats_ends t_repeats_prices
                else
                  if x5 < (rd t_repeats_ends x7) then
                    fTl_choose_41 v_table x3 x4 x5 n x6 (x7 + 1) t_chosenEnd t_chosenBlock t_repeats_number t_repeats_blocks t_repeats_ends t_repeats_prices
                  else
                    (fPr_price v_table x3 (rd t_repeats_ends x7) x5).bind fun o9 =>
                      if (((rd t_repeats_prices x7) + o6) + o9) = x6 then
                        fTl_choose_41 v_table x3 x4 x5 n x6 (x7 + 1) (rd t_repeats_ends x7) (rd t_repeats_blocks x7) t_repeats_number t_repeats_blocks t_repeats_ends t_repeats_prices
                      else
                        fTl_choose_41 v_table x3 x4 x5 n x6 (x7 + 1) t_chosenEnd t_chosenBlock t_repeats_number t_repeats_blocks t_repeats_ends t_repeats_prices
            else none
          else none
        else none
def fTl_choose (t_repeats_rowSize : Int32) (t_repeats_repeatPrice : Int32) (t_repeats_correctionPrice : Int32) (t_repeats_mostCorrections : Int32) (t_repeats_unlike : Nat → Int32) (v_table : Nat → Int32) (t_repeats_number : Int32) (t_repeats_blocks : Nat → Int32) (t_repeats_ends : Nat → Int32) (t_repeats_prices : Nat → Int32) (x3 : Int32) (x4 : Int32) (x5 : Int32) : Option (Int32 × Int32 × Int32 × (Nat → Int32) × (Nat → Int32) × (Nat → Int32)) :=
  if 0 < x3 then
    (fPr_price v_table x3 x4 x5).bind fun o12 =>
      (fRp_find t_repeats_rowSize t_repeats_repeatPrice t_repeats_correctionPrice t_repeats_mostCorrections t_repeats_unlike t_repeats_blocks t_repeats_ends t_repeats_prices x4).bind fun o13 =>
        fTl_choose_41 v_table x3 x4 x5 FU o12 (0 : Int32) (x4 + (1 : Int32)) (0 : Int32) o13.1 o13.2.1 o13.2.2.1 o13.2.2.2
  else
    some ((x4 + (1 : Int32)), (0 : Int32), t_repeats_number, t_repeats_blocks, t_repeats_ends, t_repeats_prices)

-- Tl_put
def fTl_put (t_length : Int32) (t_signs : Nat → Int32) (x1 : Int32) : Option (Int32 × (Nat → Int32)) :=
  if t_length < 0 then
    some (t_length, t_signs)
  else
    if (160 : Int32) ≤ t_length then
      some (t_length, t_signs)
    else
      if bIn t_length 160 = true then
        some ((t_length + (1 : Int32)), (wr t_signs t_length x1))
      else none

-- Tl_putNumber
def fTl_putNumber_17 (x1 : Int32) (t_length : Int32) (t_signs : Nat → Int32) : Option (Int32 × (Nat → Int32)) :=
    (fTl_put t_length t_signs ((48 : Int32) + (x1 - x1 / (10 : Int32) * (10 : Int32)))).bind fun o1 =>
      some (o1.1, o1.2)
def fTl_putNumber (t_length : Int32) (t_signs : Nat → Int32) (x1 : Int32) : Option (Int32 × (Nat → Int32)) :=
  if x1 < (10 : Int32) then
    fTl_putNumber_17 x1 t_length t_signs
  else
    (fTl_put t_length t_signs ((48 : Int32) + (x1 / (10 : Int32)))).bind fun o3 =>
      fTl_putNumber_17 x1 o3.1 o3.2

-- Tl_tellCorrections
def fTl_tellCorrections_3 (u_size : Int32) (u_letters : Nat → Int32) (x2 : Int32) (x3 : Int32) (x4 : Int32) : Nat → Int32 → Int32 → Int32 → (Nat → Int32) → Option (Int32 × Int32 × (Nat → Int32))
  | 0, _, _, _, _ => none
  | n + 1, x5, t_length, t_correctionsTold, t_signs =>
    if x4 ≤ x5 then
      some (t_length, t_correctionsTold, t_signs)
    else
      (fSt_letter u_size u_letters (x3 + x5)).bind fun o2 =>
        (fSt_letter u_size u_letters (x2 + x5)).bind fun o3 =>
          if o2 = o3 then
            fTl_tellCorrections_3 u_size u_letters x2 x3 x4 n (x5 + 1) t_length t_correctionsTold t_signs
          else
            (fTl_put t_length t_signs (91 : Int32)).bind fun o5 =>
              (fTl_putNumber o5.1 o5.2 ((x3 + x5) - x2)).bind fun o6 =>
                (fTl_put o6.1 o6.2 (44 : Int32)).bind fun o7 =>
                  (fTl_put o7.1 o7.2 ((97 : Int32) + o2)).bind fun o8 =>
                    (fTl_put o8.1 o8.2 (93 : Int32)).bind fun o9 =>
                      fTl_tellCorrections_3 u_size u_letters x2 x3 x4 n (x5 + 1) o9.1 (t_correctionsTold + (1 : Int32)) o9.2
def fTl_tellCorrections (u_size : Int32) (u_letters : Nat → Int32) (t_length : Int32) (t_correctionsTold : Int32) (t_signs : Nat → Int32) (x2 : Int32) (x3 : Int32) (x4 : Int32) : Option (Int32 × Int32 × (Nat → Int32)) :=
  fTl_tellCorrections_3 u_size u_letters x2 x3 x4 FU (0 : Int32) t_length t_correctionsTold t_signs

-- Tl_tellRepeat
def fTl_tellRepeat_68 (u_size : Int32) (u_letters : Nat → Int32) (x4 : Int32) (x5 : Int32) (x6 : Int32) : Nat → Int32 → Int32 → Int32 → Int32 → Int32 → Int32 → Int32 → Int32 → Int32 → (Nat → Int32) → (Nat → Int32) → (Nat → Int32) → (Nat → Int32) → Option (Int32 × Int32 × Int32 × Int32 × Int32 × Int32 × Int32 × Int32 × (Nat → Int32) × (Nat → Int32) × (Nat → Int32) × (Nat → Int32))
  | 0, _, _, _, _, _, _, _, _, _, _, _, _, _ => none
  | n + 1, x7, x8, t_length, t_items, t_repeatsTold, t_correctionsTold, t_chosenEnd, t_chosenBlock, t_repeats_number, t_repeats_blocks, t_repeats_ends, t_repeats_prices, t_signs =>
    if x5 ≤ x8 then
      some (x7, t_length, t_items, t_repeatsTold, t_correctionsTold, t_chosenEnd, t_chosenBlock, t_repeats_number, t_repeats_blocks, t_repeats_ends, t_repeats_prices, t_signs)
    else
      (fTl_tellCorrections u_size u_letters t_length t_correctionsTold t_signs x4 x8 x6).bind fun o2 =>
        fTl_tellRepeat_68 u_size u_letters x4 x5 x6 n x7 (x8 + (if x6 < (1 : Int32) then (1 : Int32) else x6)) o2.1 t_items t_repeatsTold o2.2.1 t_chosenEnd t_chosenBlock t_repeats_number t_repeats_blocks t_repeats_ends t_repeats_prices o2.2.2
def fTl_tellRepeat_28 (gTl_tellItems : Int32 → Int32 → Int32 → Int32 → Int32 → Int32 → Int32 → Int32 → Int32 → Int32 → Int32 → Int32 → Int32 → Int32 → Int32 → Int32 → Int32 → (Nat → Int32) → (Nat → Int32) → (Nat → Int32) → (Nat → Int32) → (Nat → Int32) → Int32 → (Nat → Int32) → Int32 → (Nat → Int32) → Int32 → Int32 → Int32 → Option (Int32 × Int32 × Int32 × Int32 × Int32 × Int32 × Int32 × Int32 × (Nat → Int32) × (Nat → Int32) × (Nat → Int32) × (Nat → Int32))) (t_partFrom : Int32) (t_partTo : Int32) (t_deepest : Int32) (t_firstLetters : Int32) (t_firstTimes : Int32) (t_fresh : Int32) (t_repeats_rowSize : Int32) (t_repeats_repeatPrice : Int32) (t_repeats_correctionPrice : Int32) (t_repeats_mostCorrections : Int32) (t_repeats_unlike : Nat → Int32) (u_size : Int32) (u_letters : Nat → Int32) (v_fresh : Int32) (v_table : Nat → Int32) (x3 : Int32) (x4 : Int32) (x5 : Int32) (x6 : Int32) (s1 : Int32) (t_length : Int32) (t_items : Int32) (t_repeatsTold : Int32) (t_correctionsTold : Int32) (t_chosenEnd : Int32) (t_chosenBlock : Int32) (t_repeats_number : Int32) (t_repeats_blocks : Nat → Int32) (t_repeats_ends : Nat → Int32) (t_repeats_prices : Nat → Int32) (t_signs : Nat → Int32) : Option (Int32 × Int32 × Int32 × Int32 × Int32 × Int32 × Int32 × Int32 × (Nat → Int32) × (Nat → Int32) × (Nat → Int32) × (Nat → Int32)) :=
    (fTl_putNumber t_length t_signs s1).bind fun o3 =>
      (fTl_put o3.1 o3.2 (40 : Int32)).bind fun o4 =>
        (gTl_tellItems o4.1 t_partFrom t_partTo t_items t_deepest t_repeatsTold t_correctionsTold t_firstLetters t_firstTimes t_chosenEnd t_chosenBlock t_fresh t_repeats_rowSize t_repeats_repeatPrice t_repeats_correctionPrice t_repeats_mostCorrections t_repeats_number t_repeats_blocks t_repeats_ends t_repeats_prices t_repeats_unlike o4.2 u_size u_letters v_fresh v_table (x3 - (1 : Int32)) x4 (x4 + x6)).bind fun o5 =>
          (fTl_put o5.2.1 o5.2.2.2.2.2.2.2.2.2.2.2 (41 : Int32)).bind fun o6 =>
            fTl_tellRepeat_68 u_size u_letters x4 x5 x6 FU o5.1 (x4 + x6) o6.1 o5.2.2.1 o5.2.2.2.1 o5.2.2.2.2.1 o5.2.2.2.2.2.1 o5.2.2.2.2.2.2.1 o5.2.2.2.2.2.2.2.1 o5.2.2.2.2.2.2.2.2.1 o5.2.2.2.2.2.2.2.2.2.1 o5.2.2.2.2.2.2.2.2.2.2.1 o6.2
def fTl_tellRepeat (gTl_tellItems : Int32 → Int32 → Int32 → Int32 → Int32 → Int32 → Int32 → Int32 → Int32 → Int32 → Int32 → Int32 → Int32 → Int32 → Int32 → Int32 → Int32 → (Nat → Int32) → (Nat → Int32) → (Nat → Int32) → (Nat → Int32) → (Nat → Int32) → Int32 → (Nat → Int32) → Int32 → (Nat → Int32) → Int32 → Int32 → Int32 → Option (Int32 × Int32 × Int32 × Int32 × Int32 × Int32 × Int32 × Int32 × (Nat → Int32) × (Nat → Int32) × (Nat → Int32) × (Nat → Int32))) (t_length : Int32) (t_partFrom : Int32) (t_partTo : Int32) (t_items : Int32) (t_deepest : Int32) (t_repeatsTold : Int32) (t_correctionsTold : Int32) (t_firstLetters : Int32) (t_firstTimes : Int32) (t_chosenEnd : Int32) (t_chosenBlock : Int32) (t_fresh : Int32) (t_repeats_rowSize : Int32) (t_repeats_repeatPrice : Int32) (t_repeats_correctionPrice : Int32) (t_repeats_mostCorrections : Int32) (t_repeats_number : Int32) (t_repeats_blocks : Nat → Int32) (t_repeats_ends : Nat → Int32) (t_repeats_prices : Nat → Int32) (t_repeats_unlike : Nat → Int32) (t_signs : Nat → Int32) (u_size : Int32) (u_letters : Nat → Int32) (v_fresh : Int32) (v_table : Nat → Int32) (x3 : Int32) (x4 : Int32) (x5 : Int32) (x6 : Int32) : Option (Int32 × Int32 × Int32 × Int32 × Int32 × Int32 × Int32 × Int32 × (Nat → Int32) × (Nat → Int32) × (Nat → Int32) × (Nat → Int32)) :=
  if x6 ≤ 0 then
    fTl_tellRepeat_28 gTl_tellItems t_partFrom t_partTo t_deepest t_firstLetters t_firstTimes t_fresh t_repeats_rowSize t_repeats_repeatPrice t_repeats_correctionPrice t_repeats_mostCorrections t_repeats_unlike u_size u_letters v_fresh v_table x3 x4 x5 x6 (1 : Int32) t_length t_items (t_repeatsTold + (1 : Int32)) t_correctionsTold t_chosenEnd t_chosenBlock t_repeats_number t_repeats_blocks t_repeats_ends t_repeats_prices t_signs
  else
    if x6 = 0 then none else
      fTl_tellRepeat_28 gTl_tellItems t_partFrom t_partTo t_deepest t_firstLetters t_firstTimes t_fresh t_repeats_rowSize t_repeats_repeatPrice t_repeats_correctionPrice t_repeats_mostCorrections t_repeats_unlike u_size u_letters v_fresh v_table x3 x4 x5 x6 ((x5 - x4) / x6) t_length t_items (t_repeatsTold + (1 : Int32)) t_correctionsTold t_chosenEnd t_chosenBlock t_repeats_number t_repeats_blocks t_repeats_ends t_repeats_prices t_signs

-- Tl_tellItems
def fTl_tellItems_79 (u_size : Int32) (u_letters : Nat → Int32) (k10 : Int32 → Int32 → Int32 → Int32 → Int32 → Int32 → Int32 → Int32 → Int32 → Int32 → (Nat → Int32) → (Nat → Int32) → (Nat → Int32) → (Nat → Int32) → Option (Int32 × Int32 × Int32 × Int32 × Int32 × Int32 × Int32 × Int32 × (Nat → Int32) × (Nat → Int32) × (Nat → Int32) × (Nat → Int32))) (x6 : Int32) (x7 : Int32) (x8 : Int32) (x9 : Int32) (t_length : Int32) (t_items : Int32) (t_repeatsTold : Int32) (t_correctionsTold : Int32) (t_chosenEnd : Int32) (t_chosenBlock : Int32) (t_repeats_number : Int32) (t_repeats_blocks : Nat → Int32) (t_repeats_ends : Nat → Int32) (t_repeats_prices : Nat → Int32) (t_signs : Nat → Int32) : Option (Int32 × Int32 × Int32 × Int32 × Int32 × Int32 × Int32 × Int32 × (Nat → Int32) × (Nat → Int32) × (Nat → Int32) × (Nat → Int32)) :=
    (fSt_letter u_size u_letters x8).bind fun o7 =>
      (fTl_put t_length t_signs ((97 : Int32) + o7)).bind fun o8 =>
        k10 (x6 + 1) x7 x9 o8.1 t_items t_repeatsTold t_correctionsTold t_chosenEnd t_chosenBlock t_repeats_number t_repeats_blocks t_repeats_ends t_repeats_prices o8.2
def fTl_tellItems_10 (gTl_tellRepeat : Int32 → Int32 → Int32 → Int32 → Int32 → Int32 → Int32 → Int32 → Int32 → Int32 → Int32 → Int32 → Int32 → Int32 → Int32 → Int32 → Int32 → (Nat → Int32) → (Nat → Int32) → (Nat → Int32) → (Nat → Int32) → (Nat → Int32) → Int32 → (Nat → Int32) → Int32 → (Nat → Int32) → Int32 → Int32 → Int32 → Int32 → Option (Int32 × Int32 × Int32 × Int32 × Int32 × Int32 × Int32 × Int32 × (Nat → Int32) × (Nat → Int32) × (Nat → Int32) × (Nat → Int32))) (t_partFrom : Int32) (t_partTo : Int32) (t_deepest : Int32) (t_firstLetters : Int32) (t_firstTimes : Int32) (t_fresh : Int32) (t_repeats_rowSize : Int32) (t_repeats_repeatPrice : Int32) (t_repeats_correctionPrice : Int32) (t_repeats_mostCorrections : Int32) (t_repeats_unlike : Nat → Int32) (u_size : Int32) (u_letters : Nat → Int32) (v_fresh : Int32) (v_table : Nat → Int32) (x3 : Int32) (x5 : Int32) : Nat → Int32 → Int32 → Int32 → Int32 → Int32 → Int32 → Int32 → Int32 → Int32 → Int32 → (Nat → Int32) → (Nat → Int32) → (Nat → Int32) → (Nat → Int32) → Option (Int32 × Int32 × Int32 × Int32 × Int32 × Int32 × Int32 × Int32 × (Nat → Int32) × (Nat → Int32) × (Nat → Int32) × (Nat → Int32))
  | 0, _, _, _, _, _, _, _, _, _, _, _, _, _, _ => none
  | n + 1, x6, x7, x8, t_length, t_items, t_repeatsTold, t_correctionsTold, t_chosenEnd, t_chosenBlock, t_repeats_number, t_repeats_blocks, t_repeats_ends, t_repeats_prices, t_signs =>
    if x5 ≤ x8 then
      some (x7, t_length, x6, t_repeatsTold, t_correctionsTold, t_chosenEnd, t_chosenBlock, t_repeats_number, t_repeats_blocks, t_repeats_ends, t_repeats_prices, t_signs)
    else
      if (24 : Int32) ≤ x6 then
        some (x7, t_length, x6, t_repeatsTold, t_correctionsTold, t_chosenEnd, t_chosenBlock, t_repeats_number, t_repeats_blocks, t_repeats_ends, t_repeats_prices, t_signs)
      else
        (fTl_choose t_repeats_rowSize t_repeats_repeatPrice t_repeats_correctionPrice t_repeats_mostCorrections t_repeats_unlike v_table t_repeats_number t_repeats_blocks t_repeats_ends t_repeats_prices x3 x8 x5).bind fun o3 =>
          if o3.2.1 ≤ 0 then
            fTl_tellItems_79 u_size u_letters (fTl_tellItems_10 gTl_tellRepeat t_partFrom t_partTo t_deepest t_firstLetters t_firstTimes t_fresh t_repeats_rowSize t_repeats_repeatPrice t_repeats_correctionPrice t_repeats_mostCorrections t_repeats_unlike u_size u_letters v_fresh v_table x3 x5 n) x6 x7 x8 o3.1 t_length t_items t_repeatsTold t_correctionsTold o3.1 o3.2.1 o3.2.2.1 o3.2.2.2.1 o3.2.2.2.2.1 o3.2.2.2.2.2 t_signs
          else
            if x3 ≤ 0 then
              fTl_tellItems_79 u_size u_letters (fTl_tellItems_10 gTl_tellRepeat t_partFrom t_partTo t_deepest t_firstLetters t_firstTimes t_fresh t_repeats_rowSize t_repeats_repeatPrice t_repeats_correctionPrice t_repeats_mostCorrections t_repeats_unlike u_size u_letters v_fresh v_table x3 x5 n) x6 x7 x8 o3.1 t_length t_items t_repeatsTold t_correctionsTold o3.1 o3.2.1 o3.2.2.1 o3.2.2.2.1 o3.2.2.2.2.1 o3.2.2.2.2.2 t_signs
            else
              (gTl_tellRepeat t_length t_partFrom t_partTo t_items t_deepest t_repeatsTold t_correctionsTold t_firstLetters t_firstTimes o3.1 o3.2.1 t_fresh t_repeats_rowSize t_repeats_repeatPrice t_repeats_correctionPrice t_repeats_mostCorrections o3.2.2.1 o3.2.2.2.1 o3.2.2.2.2.1 o3.2.2.2.2.2 t_repeats_unlike t_signs u_size u_letters v_fresh v_table x3 x8 o3.1 o3.2.1).bind fun o6 =>
                fTl_tellItems_10 gTl_tellRepeat t_partFrom t_partTo t_deepest t_firstLetters t_firstTimes t_fresh t_repeats_rowSize t_repeats_repeatPrice t_repeats_correctionPrice t_repeats_mostCorrections t_repeats_unlike u_size u_letters v_fresh v_table x3 x5 n (x6 + 1) (if x7 < ((1 : Int32) + o6.1) then ((1 : Int32) + o6.1) else x7) o3.1 o6.2.1 o6.2.2.1 o6.2.2.2.1 o6.2.2.2.2.1 o6.2.2.2.2.2.1 o6.2.2.2.2.2.2.1 o6.2.2.2.2.2.2.2.1 o6.2.2.2.2.2.2.2.2.1 o6.2.2.2.2.2.2.2.2.2.1 o6.2.2.2.2.2.2.2.2.2.2.1 o6.2.2.2.2.2.2.2.2.2.2.2
def fTl_tellItemsB (gTl_tellRepeat : Int32 → Int32 → Int32 → Int32 → Int32 → Int32 → Int32 → Int32 → Int32 → Int32 → Int32 → Int32 → Int32 → Int32 → Int32 → Int32 → Int32 → (Nat → Int32) → (Nat → Int32) → (Nat → Int32) → (Nat → Int32) → (Nat → Int32) → Int32 → (Nat → Int32) → Int32 → (Nat → Int32) → Int32 → Int32 → Int32 → Int32 → Option (Int32 × Int32 × Int32 × Int32 × Int32 × Int32 × Int32 × Int32 × (Nat → Int32) × (Nat → Int32) × (Nat → Int32) × (Nat → Int32))) (t_length : Int32) (t_partFrom : Int32) (t_partTo : Int32) (t_items : Int32) (t_deepest : Int32) (t_repeatsTold : Int32) (t_correctionsTold : Int32) (t_firstLetters : Int32) (t_firstTimes : Int32) (t_chosenEnd : Int32) (t_chosenBlock : Int32) (t_fresh : Int32) (t_repeats_rowSize : Int32) (t_repeats_repeatPrice : Int32) (t_repeats_correctionPrice : Int32) (t_repeats_mostCorrections : Int32) (t_repeats_number : Int32) (t_repeats_blocks : Nat → Int32) (t_repeats_ends : Nat → Int32) (t_repeats_prices : Nat → Int32) (t_repeats_unlike : Nat → Int32) (t_signs : Nat → Int32) (u_size : Int32) (u_letters : Nat → Int32) (v_fresh : Int32) (v_table : Nat → Int32) (x3 : Int32) (x4 : Int32) (x5 : Int32) : Option (Int32 × Int32 × Int32 × Int32 × Int32 × Int32 × Int32 × Int32 × (Nat → Int32) × (Nat → Int32) × (Nat → Int32) × (Nat → Int32)) :=
  fTl_tellItems_10 gTl_tellRepeat t_partFrom t_partTo t_deepest t_firstLetters t_firstTimes t_fresh t_repeats_rowSize t_repeats_repeatPrice t_repeats_correctionPrice t_repeats_mostCorrections t_repeats_unlike u_size u_letters v_fresh v_table x3 x5 FU (0 : Int32) (0 : Int32) x4 t_length t_items t_repeatsTold t_correctionsTold t_chosenEnd t_chosenBlock t_repeats_number t_repeats_blocks t_repeats_ends t_repeats_prices t_signs
def fTl_tellItems : Nat → Int32 → Int32 → Int32 → Int32 → Int32 → Int32 → Int32 → Int32 → Int32 → Int32 → Int32 → Int32 → Int32 → Int32 → Int32 → Int32 → Int32 → (Nat → Int32) → (Nat → Int32) → (Nat → Int32) → (Nat → Int32) → (Nat → Int32) → Int32 → (Nat → Int32) → Int32 → (Nat → Int32) → Int32 → Int32 → Int32 → Option (Int32 × Int32 × Int32 × Int32 × Int32 × Int32 × Int32 × Int32 × (Nat → Int32) × (Nat → Int32) × (Nat → Int32) × (Nat → Int32))
  | 0 => fun _ _ _ _ _ _ _ _ _ _ _ _ _ _ _ _ _ _ _ _ _ _ _ _ _ _ _ _ _ => none
  | n + 1 => fTl_tellItemsB (fTl_tellRepeat (fTl_tellItems n))

-- Tl_refresh
def fTl_refresh_113 (u_size : Int32) (u_letters : Nat → Int32) (v_fresh : Int32) (v_table : Nat → Int32) (x3 : Int32) (x4 : Int32) (x5 : Int32) (s1 : Int32) (t_length : Int32) (t_partFrom : Int32) (t_partTo : Int32) (t_items : Int32) (t_deepest : Int32) (t_repeatsTold : Int32) (t_correctionsTold : Int32) (t_firstLetters : Int32) (t_firstTimes : Int32) (t_chosenEnd : Int32) (t_chosenBlock : Int32) (t_fresh : Int32) (t_repeats_rowSize : Int32) (t_repeats_repeatPrice : Int32) (t_repeats_correctionPrice : Int32) (t_repeats_mostCorrections : Int32) (t_repeats_number : Int32) (t_repeats_blocks : Nat → Int32) (t_repeats_ends : Nat → Int32) (t_repeats_prices : Nat → Int32) (t_repeats_standing : Nat → Int32) (t_repeats_unlike : Nat → Int32) (t_signs : Nat → Int32) : Option (Int32 × Int32 × Int32 × Int32 × Int32 × Int32 × Int32 × Int32 × Int32 × Int32 × Int32 × Int32 × Int32 × Int32 × Int32 × Int32 × Int32 × (Nat → Int32) × (Nat → Int32) × (Nat → Int32) × (Nat → Int32) × (Nat → Int32) × (Nat → Int32)) :=
    (fTl_tellItems 8 t_length t_partFrom t_partTo t_items t_deepest t_repeatsTold t_correctionsTold t_firstLetters s1 t_chosenEnd t_chosenBlock t_fresh t_repeats_rowSize t_repeats_repeatPrice t_repeats_correctionPrice t_repeats_mostCorrections t_repeats_number t_repeats_blocks t_repeats_ends t_repeats_prices t_repeats_unlike t_signs u_size u_letters v_fresh v_table x5 x3 x4).bind fun o6 =>
      some (o6.2.1, t_partFrom, t_partTo, o6.2.2.1, o6.1, o6.2.2.2.1, o6.2.2.2.2.1, t_firstLetters, s1, o6.2.2.2.2.2.1, o6.2.2.2.2.2.2.1, t_fresh, t_repeats_rowSize, t_repeats_repeatPrice, t_repeats_correctionPrice, t_repeats_mostCorrections, o6.2.2.2.2.2.2.2.1, o6.2.2.2.2.2.2.2.2.1, o6.2.2.2.2.2.2.2.2.2.1, o6.2.2.2.2.2.2.2.2.2.2.1, t_repeats_standing, t_repeats_unlike, o6.2.2.2.2.2.2.2.2.2.2.2)
def fTl_refresh_25 (u_size : Int32) (u_letters : Nat → Int32) (u_settings : Nat → Int32) (v_fresh : Int32) (v_table : Nat → Int32) (x3 : Int32) (x4 : Int32) (t_length : Int32) (t_partFrom : Int32) (t_partTo : Int32) (t_items : Int32) (t_deepest : Int32) (t_repeatsTold : Int32) (t_correctionsTold : Int32) (t_firstLetters : Int32) (t_firstTimes : Int32) (t_chosenEnd : Int32) (t_chosenBlock : Int32) (t_fresh : Int32) (t_repeats_rowSize : Int32) (t_repeats_repeatPrice : Int32) (t_repeats_correctionPrice : Int32) (t_repeats_mostCorrections : Int32) (t_repeats_number : Int32) (t_repeats_blocks : Nat → Int32) (t_repeats_ends : Nat → Int32) (t_repeats_prices : Nat → Int32) (t_repeats_standing : Nat → Int32) (t_repeats_unlike : Nat → Int32) (t_signs : Nat → Int32) : Option (Int32 × Int32 × Int32 × Int32 × Int32 × Int32 × Int32 × Int32 × Int32 × Int32 × Int32 × Int32 × Int32 × Int32 × Int32 × Int32 × Int32 × (Nat → Int32) × (Nat → Int32) × (Nat → Int32) × (Nat → Int32) × (Nat → Int32) × (Nat → Int32)) :=
    (fRp_look u_size u_letters u_settings t_repeats_standing t_repeats_unlike).bind fun o1 =>
      (fSt_setting u_settings (4 : Int32)).bind fun o2 =>
        (fTl_choose o1.1 o1.2.1 o1.2.2.1 o1.2.2.2.1 o1.2.2.2.2.2 v_table t_repeats_number t_repeats_blocks t_repeats_ends t_repeats_prices o2 x3 x4).bind fun o3 =>
          if o3.2.1 ≤ 0 then
            fTl_refresh_113 u_size u_letters v_fresh v_table x3 x4 o2 (1 : Int32) (0 : Int32) x3 x4 t_items t_deepest (0 : Int32) (0 : Int32) (o3.1 - x3) t_firstTimes o3.1 o3.2.1 (1 : Int32) o1.1 o1.2.1 o1.2.2.1 o1.2.2.2.1 o3.2.2.1 o3.2.2.2.1 o3.2.2.2.2.1 o3.2.2.2.2.2 o1.2.2.2.2.1 o1.2.2.2.2.2 t_signs
          else
            if o3.2.1 = 0 then none else
              fTl_refresh_113 u_size u_letters v_fresh v_table x3 x4 o2 ((o3.1 - x3) / o3.2.1) (0 : Int32) x3 x4 t_items t_deepest (0 : Int32) (0 : Int32) (o3.1 - x3) t_firstTimes o3.1 o3.2.1 (1 : Int32) o1.1 o1.2.1 o1.2.2.1 o1.2.2.2.1 o3.2.2.1 o3.2.2.2.1 o3.2.2.2.2.1 o3.2.2.2.2.2 o1.2.2.2.2.1 o1.2.2.2.2.2 t_signs
def fTl_refresh (u_size : Int32) (u_letters : Nat → Int32) (u_settings : Nat → Int32) (v_fresh : Int32) (v_table : Nat → Int32) (t_length : Int32) (t_partFrom : Int32) (t_partTo : Int32) (t_items : Int32) (t_deepest : Int32) (t_repeatsTold : Int32) (t_correctionsTold : Int32) (t_firstLetters : Int32) (t_firstTimes : Int32) (t_chosenEnd : Int32) (t_chosenBlock : Int32) (t_fresh : Int32) (t_repeats_rowSize : Int32) (t_repeats_repeatPrice : Int32) (t_repeats_correctionPrice : Int32) (t_repeats_mostCorrections : Int32) (t_repeats_number : Int32) (t_repeats_blocks : Nat → Int32) (t_repeats_ends : Nat → Int32) (t_repeats_prices : Nat → Int32) (t_repeats_standing : Nat → Int32) (t_repeats_unlike : Nat → Int32) (t_signs : Nat → Int32) (x3 : Int32) (x4 : Int32) : Option (Int32 × Int32 × Int32 × Int32 × Int32 × Int32 × Int32 × Int32 × Int32 × Int32 × Int32 × Int32 × Int32 × Int32 × Int32 × Int32 × Int32 × (Nat → Int32) × (Nat → Int32) × (Nat → Int32) × (Nat → Int32) × (Nat → Int32) × (Nat → Int32)) :=
  if t_fresh = 0 then
    fTl_refresh_25 u_size u_letters u_settings v_fresh v_table x3 x4 t_length t_partFrom t_partTo t_items t_deepest t_repeatsTold t_correctionsTold t_firstLetters t_firstTimes t_chosenEnd t_chosenBlock t_fresh t_repeats_rowSize t_repeats_repeatPrice t_repeats_correctionPrice t_repeats_mostCorrections t_repeats_number t_repeats_blocks t_repeats_ends t_repeats_prices t_repeats_standing t_repeats_unlike t_signs
  else
    if t_partFrom = x3 then
      if t_partTo = x4 then
        some (t_length, t_partFrom, t_partTo, t_items, t_deepest, t_repeatsTold, t_correctionsTold, t_firstLetters, t_firstTimes, t_chosenEnd, t_chosenBlock, t_fresh, t_repeats_rowSize, t_repeats_repeatPrice, t_repeats_correctionPrice, t_repeats_mostCorrections, t_repeats_number, t_repeats_blocks, t_repeats_ends, t_repeats_prices, t_repeats_standing, t_repeats_unlike, t_signs)
      else
        fTl_refresh_25 u_size u_letters u_settings v_fresh v_table x3 x4 t_length t_partFrom t_partTo t_items t_deepest t_repeatsTold t_correctionsTold t_firstLetters t_firstTimes t_chosenEnd t_chosenBlock t_fresh t_repeats_rowSize t_repeats_repeatPrice t_repeats_correctionPrice t_repeats_mostCorrections t_repeats_number t_repeats_blocks t_repeats_ends t_repeats_prices t_repeats_standing t_repeats_unlike t_signs
    else
      fTl_refresh_25 u_size u_letters u_settings v_fresh v_table x3 x4 t_length t_partFrom t_partTo t_items t_deepest t_repeatsTold t_correctionsTold t_firstLetters t_firstTimes t_chosenEnd t_chosenBlock t_fresh t_repeats_rowSize t_repeats_repeatPrice t_repeats_correctionPrice t_repeats_mostCorrections t_repeats_number t_repeats_blocks t_repeats_ends t_repeats_prices t_repeats_standing t_repeats_unlike t_signs

-- Tl_sign
def fTl_sign (t_signs : Nat → Int32) (x1 : Int32) : Option (Int32) :=
  if x1 < 0 then
    some (-1 : Int32)
  else
    if (160 : Int32) ≤ x1 then
      some (-1 : Int32)
    else
      if bIn x1 160 = true then
        some (rd t_signs x1)
      else none

-- Tr_init
def fTr_init  : Option ((Nat → Int32)) :=
  (fSt_init).bind fun o1 =>
    (fPr_init).bind fun o2 =>
      some o1

-- Tr_take
def fTr_take (t_found : Int32) (t_bestPlace : Int32) (t_bestLetter : Int32) (t_bestPrice : Int32) (x1 : Int32) (x2 : Int32) (x3 : Int32) : Option (Int32 × Int32 × Int32 × Int32) :=
  if t_bestPrice ≤ x3 then
    some (t_found, t_bestPlace, t_bestLetter, t_bestPrice)
  else
    some ((1 : Int32), x1, x2, x3)

-- Tr_refresh
def fTr_refresh_87 (k64 : Int32 → Int32 → Int32 → Int32 → Int32 → Int32 → (Nat → Int32) → Int32 → Int32 → Int32 → Int32 → Int32 → (Nat → Int32) → (Nat → Int32) → (Nat → Int32) → (Nat → Int32) → (Nat → Int32) → (Nat → Int32) → Int32 → (Nat → Int32) → (Nat → Int32) → Option (Int32 × Int32 × Int32 × Int32 × Int32 × (Nat → Int32) × Int32 × Int32 × Int32 × Int32 × Int32 × (Nat → Int32) × (Nat → Int32) × (Nat → Int32) × (Nat → Int32) × (Nat → Int32) × (Nat → Int32) × Int32 × (Nat → Int32) × (Nat → Int32))) : Nat → Int32 → Int32 → Int32 → Int32 → Int32 → Int32 → Int32 → Int32 → (Nat → Int32) → Int32 → Int32 → Int32 → Int32 → Int32 → (Nat → Int32) → (Nat → Int32) → (Nat → Int32) → (Nat → Int32) → (Nat → Int32) → (Nat → Int32) → Int32 → (Nat → Int32) → (Nat → Int32) → Option (Int32 × Int32 × Int32 × Int32 × Int32 × (Nat → Int32) × Int32 × Int32 × Int32 × Int32 × Int32 × (Nat → Int32) × (Nat → Int32) × (Nat → Int32) × (Nat → Int32) × (Nat → Int32) × (Nat → Int32) × Int32 × (Nat → Int32) × (Nat → Int32))
  | 0, _, _, _, _, _, _, _, _, _, _, _, _, _, _, _, _, _, _, _, _, _, _, _ => none
  | n + 1, x2, x3, x4, t_fresh, t_found, t_bestPlace, t_bestLetter, t_bestPrice, t_prices_items, t_prices_repeats_rowSize, t_prices_repeats_repeatPrice, t_prices_repeats_correctionPrice, t_prices_repeats_mostCorrections, t_prices_repeats_number, t_prices_repeats_blocks, t_prices_repeats_ends, t_prices_repeats_prices, t_prices_repeats_standing, t_prices_repeats_unlike, t_prices_table, t_tried_size, t_tried_letters, t_tried_settings =>
    if (4 : Int32) ≤ x4 then
      (fSt_putLetter t_tried_size t_tried_letters x2 x3).bind fun o4 =>
        k64 (x2 + 1) t_fresh t_found t_bestPlace t_bestLetter t_bestPrice t_prices_items t_prices_repeats_rowSize t_prices_repeats_repeatPrice t_prices_repeats_correctionPrice t_prices_repeats_mostCorrections t_prices_repeats_number t_prices_repeats_blocks t_prices_repeats_ends t_prices_repeats_prices t_prices_repeats_standing t_prices_repeats_unlike t_prices_table t_tried_size o4 t_tried_settings
    else
      if x4 = x3 then
        fTr_refresh_87 k64 n x2 x3 (x4 + 1) t_fresh t_found t_bestPlace t_bestLetter t_bestPrice t_prices_items t_prices_repeats_rowSize t_prices_repeats_repeatPrice t_prices_repeats_correctionPrice t_prices_repeats_mostCorrections t_prices_repeats_number t_prices_repeats_blocks t_prices_repeats_ends t_prices_repeats_prices t_prices_repeats_standing t_prices_repeats_unlike t_prices_table t_tried_size t_tried_letters t_tried_settings
      else
        (fSt_putLetter t_tried_size t_tried_letters x2 x4).bind fun o6 =>
          (fPr_fill t_tried_size o6 t_tried_settings t_prices_items t_prices_repeats_number t_prices_repeats_blocks t_prices_repeats_ends t_prices_repeats_prices t_prices_repeats_standing t_prices_repeats_unlike t_prices_table x2 (1 : Int32)).bind fun o7 =>
            (fPr_rowPrice o7.2.2.2.2.2.2.2.2.2.2.2 t_tried_size t_tried_settings).bind fun o8 =>
              (fTr_take t_found t_bestPlace t_bestLetter t_bestPrice x2 x4 o8).bind fun o9 =>
                fTr_refresh_87 k64 n x2 x3 (x4 + 1) t_fresh o9.1 o9.2.1 o9.2.2.1 o9.2.2.2 o7.1 o7.2.1 o7.2.2.1 o7.2.2.2.1 o7.2.2.2.2.1 o7.2.2.2.2.2.1 o7.2.2.2.2.2.2.1 o7.2.2.2.2.2.2.2.1 o7.2.2.2.2.2.2.2.2.1 o7.2.2.2.2.2.2.2.2.2.1 o7.2.2.2.2.2.2.2.2.2.2.1 o7.2.2.2.2.2.2.2.2.2.2.2 t_tried_size o6 t_tried_settings
def fTr_refresh_64  : Nat → Int32 → Int32 → Int32 → Int32 → Int32 → Int32 → (Nat → Int32) → Int32 → Int32 → Int32 → Int32 → Int32 → (Nat → Int32) → (Nat → Int32) → (Nat → Int32) → (Nat → Int32) → (Nat → Int32) → (Nat → Int32) → Int32 → (Nat → Int32) → (Nat → Int32) → Option (Int32 × Int32 × Int32 × Int32 × Int32 × (Nat → Int32) × Int32 × Int32 × Int32 × Int32 × Int32 × (Nat → Int32) × (Nat → Int32) × (Nat → Int32) × (Nat → Int32) × (Nat → Int32) × (Nat → Int32) × Int32 × (Nat → Int32) × (Nat → Int32))
  | 0, _, _, _, _, _, _, _, _, _, _, _, _, _, _, _, _, _, _, _, _, _ => none
  | n + 1, x2, t_fresh, t_found, t_bestPlace, t_bestLetter, t_bestPrice, t_prices_items, t_prices_repeats_rowSize, t_prices_repeats_repeatPrice, t_prices_repeats_correctionPrice, t_prices_repeats_mostCorrections, t_prices_repeats_number, t_prices_repeats_blocks, t_prices_repeats_ends, t_prices_repeats_prices, t_prices_repeats_standing, t_prices_repeats_unlike, t_prices_table, t_tried_size, t_tried_letters, t_tried_settings =>
    if t_tried_size ≤ x2 then
      some (t_fresh, t_found, t_bestPlace, t_bestLetter, t_bestPrice, t_prices_items, t_prices_repeats_rowSize, t_prices_repeats_repeatPrice, t_prices_repeats_correctionPrice, t_prices_repeats_mostCorrections, t_prices_repeats_number, t_prices_repeats_blocks, t_prices_repeats_ends, t_prices_repeats_prices, t_prices_repeats_standing, t_prices_repeats_unlike, t_prices_table, t_tried_size, t_tried_letters, t_tried_settings)
    else
      (fSt_letter t_tried_size t_tried_letters x2).bind fun o2 =>
        fTr_refresh_87 (fTr_refresh_64 n) FU x2 o2 (0 : Int32) t_fresh t_found t_bestPlace t_bestLetter t_bestPrice t_prices_items t_prices_repeats_rowSize t_prices_repeats_repeatPrice t_prices_repeats_correctionPrice t_prices_repeats_mostCorrections t_prices_repeats_number t_prices_repeats_blocks t_prices_repeats_ends t_prices_repeats_prices t_prices_repeats_standing t_prices_repeats_unlike t_prices_table t_tried_size t_tried_letters t_tried_settings
def fTr_refresh (u_size : Int32) (u_letters : Nat → Int32) (u_settings : Nat → Int32) (t_fresh : Int32) (t_found : Int32) (t_bestPlace : Int32) (t_bestLetter : Int32) (t_bestPrice : Int32) (t_prices_items : Nat → Int32) (t_prices_repeats_rowSize : Int32) (t_prices_repeats_repeatPrice : Int32) (t_prices_repeats_correctionPrice : Int32) (t_prices_repeats_mostCorrections : Int32) (t_prices_repeats_number : Int32) (t_prices_repeats_blocks : Nat → Int32) (t_prices_repeats_ends : Nat → Int32) (t_prices_repeats_prices : Nat → Int32) (t_prices_repeats_standing : Nat → Int32) (t_prices_repeats_unlike : Nat → Int32) (t_prices_table : Nat → Int32) (t_tried_size : Int32) (t_tried_letters : Nat → Int32) (t_tried_settings : Nat → Int32) : Option (Int32 × Int32 × Int32 × Int32 × Int32 × (Nat → Int32) × Int32 × Int32 × Int32 × Int32 × Int32 × (Nat → Int32) × (Nat → Int32) × (Nat → Int32) × (Nat → Int32) × (Nat → Int32) × (Nat → Int32) × Int32 × (Nat → Int32) × (Nat → Int32)) :=
  if t_fresh = 0 then
    (fSt_copyFrom u_size u_letters u_settings t_tried_size t_tried_letters t_tried_settings).bind fun o11 =>
      (fPr_fill o11.1 o11.2.1 o11.2.2 t_prices_items t_prices_repeats_number t_prices_repeats_blocks t_prices_repeats_ends t_prices_repeats_prices t_prices_repeats_standing t_prices_repeats_unlike t_prices_table (o11.1 - (1 : Int32)) (1 : Int32)).bind fun o12 =>
        (fPr_rowPrice o12.2.2.2.2.2.2.2.2.2.2.2 o11.1 o11.2.2).bind fun o13 =>
          fTr_refresh_64 FU (0 : Int32) (1 : Int32) (0 : Int32) t_bestPlace t_bestLetter o13 o12.1 o12.2.1 o12.2.2.1 o12.2.2.2.1 o12.2.2.2.2.1 o12.2.2.2.2.2.1 o12.2.2.2.2.2.2.1 o12.2.2.2.2.2.2.2.1 o12.2.2.2.2.2.2.2.2.1 o12.2.2.2.2.2.2.2.2.2.1 o12.2.2.2.2.2.2.2.2.2.2.1 o12.2.2.2.2.2.2.2.2.2.2.2 o11.1 o11.2.1 o11.2.2
  else
    some (t_fresh, t_found, t_bestPlace, t_bestLetter, t_bestPrice, t_prices_items, t_prices_repeats_rowSize, t_prices_repeats_repeatPrice, t_prices_repeats_correctionPrice, t_prices_repeats_mostCorrections, t_prices_repeats_number, t_prices_repeats_blocks, t_prices_repeats_ends, t_prices_repeats_prices, t_prices_repeats_standing, t_prices_repeats_unlike, t_prices_table, t_tried_size, t_tried_letters, t_tried_settings)

-- Tr_priceWith
def fTr_priceWith (u_size : Int32) (u_letters : Nat → Int32) (u_settings : Nat → Int32) (t_prices_items : Nat → Int32) (t_prices_repeats_number : Int32) (t_prices_repeats_blocks : Nat → Int32) (t_prices_repeats_ends : Nat → Int32) (t_prices_repeats_prices : Nat → Int32) (t_prices_repeats_standing : Nat → Int32) (t_prices_repeats_unlike : Nat → Int32) (t_prices_table : Nat → Int32) (t_tried_size : Int32) (t_tried_letters : Nat → Int32) (t_tried_settings : Nat → Int32) (x2 : Int32) (x3 : Int32) : Option (Int32 × (Nat → Int32) × Int32 × Int32 × Int32 × Int32 × Int32 × (Nat → Int32) × (Nat → Int32) × (Nat → Int32) × (Nat → Int32) × (Nat → Int32) × (Nat → Int32) × Int32 × (Nat → Int32) × (Nat → Int32)) :=
  (fSt_copyFrom u_size u_letters u_settings t_tried_size t_tried_letters t_tried_settings).bind fun o1 =>
    (fSt_putLetter o1.1 o1.2.1 x2 x3).bind fun o2 =>
      (fPr_fill o1.1 o2 o1.2.2 t_prices_items t_prices_repeats_number t_prices_repeats_blocks t_prices_repeats_ends t_prices_repeats_prices t_prices_repeats_standing t_prices_repeats_unlike t_prices_table (o1.1 - (1 : Int32)) (1 : Int32)).bind fun o3 =>
        (fPr_rowPrice o3.2.2.2.2.2.2.2.2.2.2.2 o1.1 o1.2.2).bind fun o4 =>
          some (o4, o3.1, o3.2.1, o3.2.2.1, o3.2.2.2.1, o3.2.2.2.2.1, o3.2.2.2.2.2.1, o3.2.2.2.2.2.2.1, o3.2.2.2.2.2.2.2.1, o3.2.2.2.2.2.2.2.2.1, o3.2.2.2.2.2.2.2.2.2.1, o3.2.2.2.2.2.2.2.2.2.2.1, o3.2.2.2.2.2.2.2.2.2.2.2, o1.1, o2, o1.2.2)

-- Rd_init
def fRd_init  : Option (Unit) :=
  some ()

-- Rd_hasFault
def fRd_hasFault (t_faultReason : Int32) : Option (Int32) :=
  if t_faultReason = 0 then
    some (0 : Int32)
  else
    some (1 : Int32)

-- Rd_letter
def fRd_letter (t_letters : Nat → Int32) (x1 : Int32) : Option (Int32) :=
  if x1 < 0 then
    some (-1 : Int32)
  else
    if (744 : Int32) ≤ x1 then
      some (-1 : Int32)
    else
      if bIn x1 744 = true then
        some (rd t_letters x1)
      else none

-- Rd_blame
def fRd_blame (t_faultPlace : Int32) (t_faultReason : Int32) (x1 : Int32) (x2 : Int32) : Option (Int32 × Int32) :=
  if t_faultReason = 0 then
    some (x1, x2)
  else
    some (t_faultPlace, t_faultReason)

-- Rd_isLetter
def fRd_isLetter (x0 : Int32) : Option (Int32) :=
  if x0 < (97 : Int32) then
    some (0 : Int32)
  else
    if (101 : Int32) ≤ x0 then
      some (0 : Int32)
    else
      some (1 : Int32)

-- Rd_putLetter
def fRd_putLetter (t_letters : Nat → Int32) (x1 : Int32) (x2 : Int32) : Option ((Nat → Int32)) :=
  if x1 < 0 then
    some t_letters
  else
    if (744 : Int32) ≤ x1 then
      some t_letters
    else
      if bIn x1 744 = true then
        some (wr t_letters x1 x2)
      else none

-- Rd_sign
def fRd_sign (t_length : Int32) (t_at : Int32) (t_signs : Nat → Int32) : Option (Int32) :=
  if t_at < 0 then
    some (-1 : Int32)
  else
    if t_length ≤ t_at then
      some (-1 : Int32)
    else
      if (60 : Int32) ≤ t_at then
        some (-1 : Int32)
      else
        if bIn t_at 60 = true then
          some (rd t_signs t_at)
        else none

-- Rd_readLetter
def fRd_readLetter (t_length : Int32) (t_signs : Nat → Int32) (t_at : Int32) (t_size : Int32) (t_faultPlace : Int32) (t_faultReason : Int32) (t_lettersTold : Int32) (t_letters : Nat → Int32) (x1 : Int32) : Option (Int32 × Int32 × Int32 × Int32 × Int32 × (Nat → Int32)) :=
  if (t_size - x1) < (24 : Int32) then
    (fRd_sign t_length t_at t_signs).bind fun o2 =>
      (fRd_putLetter t_letters t_size (o2 - (97 : Int32))).bind fun o3 =>
        some ((t_at + (1 : Int32)), (t_size + (1 : Int32)), t_faultPlace, t_faultReason, (t_lettersTold + (1 : Int32)), o3)
  else
    (fRd_blame t_faultPlace t_faultReason t_at (4 : Int32)).bind fun o4 =>
      some (t_at, t_size, o4.1, o4.2, t_lettersTold, t_letters)

-- Rd_isDigit
def fRd_isDigit (x0 : Int32) : Option (Int32) :=
  if x0 < (48 : Int32) then
    some (0 : Int32)
  else
    if (57 : Int32) < x0 then
      some (0 : Int32)
    else
      some (1 : Int32)

-- Rd_readNumber
def fRd_readNumber (t_length : Int32) (t_signs : Nat → Int32) (t_at : Int32) : Option (Int32 × Int32) :=
  (fRd_sign t_length t_at t_signs).bind fun o1 =>
    if (o1 - (48 : Int32)) = 0 then
      some ((o1 - (48 : Int32)), (t_at + (1 : Int32)))
    else
      (fRd_sign t_length (t_at + (1 : Int32)) t_signs).bind fun o3 =>
        (fRd_isDigit o3).bind fun o4 =>
          if o4 = 0 then
            some ((o1 - (48 : Int32)), (t_at + (1 : Int32)))
          else
            (fRd_sign t_length (t_at + (1 : Int32)) t_signs).bind fun o6 =>
              some (((((10 : Int32) * (o1 - (48 : Int32))) + o6) - (48 : Int32)), ((t_at + (1 : Int32)) + (1 : Int32)))

-- Rd_reads
def fRd_reads (t_length : Int32) (t_signs : Nat → Int32) (t_at : Int32) (t_faultPlace : Int32) (t_faultReason : Int32) (x1 : Int32) : Option (Int32 × Int32 × Int32 × Int32) :=
  (fRd_sign t_length t_at t_signs).bind fun o1 =>
    if o1 = x1 then
      some ((1 : Int32), (t_at + (1 : Int32)), t_faultPlace, t_faultReason)
    else
      (fRd_blame t_faultPlace t_faultReason t_at (1 : Int32)).bind fun o3 =>
        some ((0 : Int32), t_at, o3.1, o3.2)

-- Rd_readCorrection
def fRd_readCorrection_132 (x2 : Int32) (x3 : Int32) (t_at : Int32) (t_faultPlace : Int32) (t_faultReason : Int32) (t_letters : Nat → Int32) : Option (Int32 × Int32 × Int32 × Int32 × (Nat → Int32)) :=
    (fRd_blame t_faultPlace t_faultReason x3 (3 : Int32)).bind fun o1 =>
      some (x2, t_at, o1.1, o1.2, t_letters)
def fRd_readCorrection (t_length : Int32) (t_size : Int32) (t_signs : Nat → Int32) (t_at : Int32) (t_faultPlace : Int32) (t_faultReason : Int32) (t_letters : Nat → Int32) (x1 : Int32) (x2 : Int32) : Option (Int32 × Int32 × Int32 × Int32 × (Nat → Int32)) :=
  (fRd_sign t_length (t_at + (1 : Int32)) t_signs).bind fun o2 =>
    (fRd_isDigit o2).bind fun o3 =>
      if o3 = 0 then
        (fRd_blame t_faultPlace t_faultReason (t_at + (1 : Int32)) (1 : Int32)).bind fun o19 =>
          some (x2, (t_at + (1 : Int32)), o19.1, o19.2, t_letters)
      else
        (fRd_readNumber t_length t_signs (t_at + (1 : Int32))).bind fun o5 =>
          (fRd_reads t_length t_signs o5.2 t_faultPlace t_faultReason (44 : Int32)).bind fun o6 =>
            if o6.1 = 0 then
              some (x2, o6.2.1, o6.2.2.1, o6.2.2.2, t_letters)
            else
              (fRd_sign t_length o6.2.1 t_signs).bind fun o8 =>
                (fRd_isLetter o8).bind fun o9 =>
                  if o9 = 0 then
                    (fRd_blame o6.2.2.1 o6.2.2.2 o6.2.1 (1 : Int32)).bind fun o18 =>
                      some (x2, o6.2.1, o18.1, o18.2, t_letters)
                  else
                    (fRd_reads t_length t_signs (o6.2.1 + (1 : Int32)) o6.2.2.1 o6.2.2.2 (93 : Int32)).bind fun o11 =>
                      if o11.1 = 0 then
                        some (x2, o11.2.1, o11.2.2.1, o11.2.2.2, t_letters)
                      else
                        if o5.1 ≤ x2 then
                          fRd_readCorrection_132 x2 t_at o11.2.1 o11.2.2.1 o11.2.2.2 t_letters
                        else
                          if (t_size - x1) ≤ o5.1 then
                            fRd_readCorrection_132 x2 t_at o11.2.1 o11.2.2.1 o11.2.2.2 t_letters
                          else
                            (fRd_letter t_letters (x1 + o5.1)).bind fun o15 =>
                              if o15 = (o8 - (97 : Int32)) then
                                fRd_readCorrection_132 x2 t_at o11.2.1 o11.2.2.1 o11.2.2.2 t_letters
                              else
                                (fRd_putLetter t_letters (x1 + o5.1) (o8 - (97 : Int32))).bind fun o17 =>
                                  some (o5.1, o11.2.1, o11.2.2.1, o11.2.2.2, o17)

-- Rd_readCorrections
def fRd_readCorrections_45  (x3 : Int32) (t_at : Int32) (t_faultPlace : Int32) (t_faultReason : Int32) (t_correctionsTold : Int32) (t_mostCorrections : Int32) (t_letters : Nat → Int32) : Option (Int32 × Int32 × Int32 × Int32 × Int32 × (Nat → Int32)) :=
    some (t_at, t_faultPlace, t_faultReason, (t_correctionsTold + x3), (if t_mostCorrections < x3 then x3 else t_mostCorrections), t_letters)
def fRd_readCorrections_7 (t_length : Int32) (t_size : Int32) (t_signs : Nat → Int32) (x1 : Int32) : Nat → Int32 → Int32 → Int32 → Int32 → Int32 → Int32 → Int32 → (Nat → Int32) → Option (Int32 × Int32 × Int32 × Int32 × Int32 × (Nat → Int32))
  | 0, _, _, _, _, _, _, _, _ => none
  | n + 1, x3, x4, t_at, t_faultPlace, t_faultReason, t_correctionsTold, t_mostCorrections, t_letters =>
    (fRd_sign t_length t_at t_signs).bind fun o1 =>
      if o1 = (91 : Int32) then
        if (60 : Int32) ≤ x3 then
          fRd_readCorrections_45 x3 t_at t_faultPlace t_faultReason t_correctionsTold t_mostCorrections t_letters
        else
          (fRd_readCorrection t_length t_size t_signs t_at t_faultPlace t_faultReason t_letters x1 x4).bind fun o4 =>
            (fRd_hasFault o4.2.2.2.1).bind fun o5 =>
              if o5 = 0 then
                fRd_readCorrections_7 t_length t_size t_signs x1 n (x3 + 1) o4.1 o4.2.1 o4.2.2.1 o4.2.2.2.1 t_correctionsTold t_mostCorrections o4.2.2.2.2
              else
                some (o4.2.1, o4.2.2.1, o4.2.2.2.1, t_correctionsTold, t_mostCorrections, o4.2.2.2.2)
      else
        fRd_readCorrections_45 x3 t_at t_faultPlace t_faultReason t_correctionsTold t_mostCorrections t_letters
def fRd_readCorrections (t_length : Int32) (t_size : Int32) (t_signs : Nat → Int32) (t_at : Int32) (t_faultPlace : Int32) (t_faultReason : Int32) (t_correctionsTold : Int32) (t_mostCorrections : Int32) (t_letters : Nat → Int32) (x1 : Int32) (x2 : Int32) : Option (Int32 × Int32 × Int32 × Int32 × Int32 × (Nat → Int32)) :=
  fRd_readCorrections_7 t_length t_size t_signs x1 FU (0 : Int32) (x2 - (1 : Int32)) t_at t_faultPlace t_faultReason t_correctionsTold t_mostCorrections t_letters

-- Rd_unfold
def fRd_unfold_10 (x1 : Int32) (x2 : Int32) : Nat → Int32 → Int32 → Int32 → (Nat → Int32) → Option (Int32 × (Nat → Int32))
  | 0, _, _, _, _ => none
  | n + 1, x3, x4, t_size, t_letters =>
    if x2 ≤ x4 then
      some ((x1 + x2), t_letters)
    else
      (fRd_letter t_letters ((x1 + x4) - x3)).bind fun o2 =>
        (fRd_putLetter t_letters (x1 + x4) o2).bind fun o3 =>
          fRd_unfold_10 x1 x2 n x3 (x4 + 1) t_size o3
def fRd_unfold (t_size : Int32) (t_letters : Nat → Int32) (x1 : Int32) (x2 : Int32) : Option (Int32 × (Nat → Int32)) :=
  fRd_unfold_10 x1 x2 FU (t_size - x1) (t_size - x1) t_size t_letters

-- Rd_readRepeat
def fRd_readRepeat_24  (t_at : Int32) (t_size : Int32) (t_faultPlace : Int32) (t_faultReason : Int32) (t_lettersTold : Int32) (t_repeatsTold : Int32) (t_correctionsTold : Int32) (t_mostCorrections : Int32) (t_letters : Nat → Int32) : Option (Int32 × Int32 × Int32 × Int32 × Int32 × Int32 × Int32 × Int32 × Int32 × (Nat → Int32)) :=
    (fRd_blame t_faultPlace t_faultReason t_at (1 : Int32)).bind fun o1 =>
      some ((0 : Int32), t_at, t_size, o1.1, o1.2, t_lettersTold, t_repeatsTold, t_correctionsTold, t_mostCorrections, t_letters)
def fRd_readRepeat_65  (x3 : Int32) (t_at : Int32) (t_size : Int32) (t_faultPlace : Int32) (t_faultReason : Int32) (t_lettersTold : Int32) (t_repeatsTold : Int32) (t_correctionsTold : Int32) (t_mostCorrections : Int32) (t_letters : Nat → Int32) : Option (Int32 × Int32 × Int32 × Int32 × Int32 × Int32 × Int32 × Int32 × Int32 × (Nat → Int32)) :=
    (fRd_blame t_faultPlace t_faultReason x3 (2 : Int32)).bind fun o2 =>
      some ((0 : Int32), t_at, t_size, o2.1, o2.2, t_lettersTold, t_repeatsTold, t_correctionsTold, t_mostCorrections, t_letters)
def fRd_readRepeat (gRd_readItems : Int32 → Int32 → Int32 → Int32 → Int32 → Int32 → Int32 → Int32 → Int32 → Int32 → Int32 → (Nat → Int32) → (Nat → Int32) → Int32 → Option (Int32 × Int32 × Int32 × Int32 × Int32 × Int32 × Int32 × Int32 × Int32 × (Nat → Int32))) (t_length : Int32) (t_at : Int32) (t_size : Int32) (t_faultPlace : Int32) (t_faultReason : Int32) (t_lettersTold : Int32) (t_repeatsTold : Int32) (t_correctionsTold : Int32) (t_mostCorrections : Int32) (t_deepest : Int32) (t_fresh : Int32) (t_letters : Nat → Int32) (t_signs : Nat → Int32) (x1 : Int32) (x2 : Int32) : Option (Int32 × Int32 × Int32 × Int32 × Int32 × Int32 × Int32 × Int32 × Int32 × (Nat → Int32)) :=
  (fRd_sign t_length t_at t_signs).bind fun o3 =>
    (fRd_isDigit o3).bind fun o4 =>
      if o4 = 0 then
        fRd_readRepeat_24 t_at t_size t_faultPlace t_faultReason t_lettersTold t_repeatsTold t_correctionsTold t_mostCorrections t_letters
      else
        (fRd_sign t_length t_at t_signs).bind fun o6 =>
          if o6 = (48 : Int32) then
            fRd_readRepeat_24 t_at t_size t_faultPlace t_faultReason t_lettersTold t_repeatsTold t_correctionsTold t_mostCorrections t_letters
          else
            (fRd_readNumber t_length t_signs t_at).bind fun o8 =>
              (fRd_reads t_length t_signs o8.2 t_faultPlace t_faultReason (40 : Int32)).bind fun o9 =>
                if o9.1 = 0 then
                  some ((0 : Int32), o9.2.1, t_size, o9.2.2.1, o9.2.2.2, t_lettersTold, t_repeatsTold, t_correctionsTold, t_mostCorrections, t_letters)
                else
                  if o8.1 < (2 : Int32) then
                    fRd_readRepeat_65 t_at o9.2.1 t_size o9.2.2.1 o9.2.2.2 t_lettersTold t_repeatsTold t_correctionsTold t_mostCorrections t_letters
                  else
                    if o8.1 ≤ (24 : Int32) then
                      (gRd_readItems t_length o9.2.1 t_size o9.2.2.1 o9.2.2.2 t_lettersTold t_repeatsTold t_correctionsTold t_mostCorrections t_deepest t_fresh t_letters t_signs (x1 + (1 : Int32))).bind fun o13 =>
                        (fRd_hasFault o13.2.2.2.2.1).bind fun o14 =>
                          if o14 = 0 then
                            (fRd_reads t_length t_signs o13.2.1 o13.2.2.2.1 o13.2.2.2.2.1 (41 : Int32)).bind fun o16 =>
                              if o16.1 = 0 then
                                some ((0 : Int32), o16.2.1, o13.2.2.1, o16.2.2.1, o16.2.2.2, o13.2.2.2.2.2.1, o13.2.2.2.2.2.2.1, o13.2.2.2.2.2.2.2.1, o13.2.2.2.2.2.2.2.2.1, o13.2.2.2.2.2.2.2.2.2)
                              else
                                if ((t_size - x2) + ((o13.2.2.1 - t_size) * o8.1)) ≤ (24 : Int32) then
                                  (fRd_unfold o13.2.2.1 o13.2.2.2.2.2.2.2.2.2 t_size ((o13.2.2.1 - t_size) * o8.1)).bind fun o19 =>
                                    (fRd_readCorrections t_length o19.1 t_signs o16.2.1 o16.2.2.1 o16.2.2.2 o13.2.2.2.2.2.2.2.1 o13.2.2.2.2.2.2.2.2.1 o19.2 t_size (o13.2.2.1 - t_size)).bind fun o20 =>
                                      some (((1 : Int32) + o13.1), o20.1, o19.1, o20.2.1, o20.2.2.1, o13.2.2.2.2.2.1, (o13.2.2.2.2.2.2.1 + (1 : Int32)), o20.2.2.2.1, o20.2.2.2.2.1, o20.2.2.2.2.2)
                                else
                                  (fRd_blame o16.2.2.1 o16.2.2.2 t_at (4 : Int32)).bind fun o21 =>
                                    some ((0 : Int32), o16.2.1, o13.2.2.1, o21.1, o21.2, o13.2.2.2.2.2.1, o13.2.2.2.2.2.2.1, o13.2.2.2.2.2.2.2.1, o13.2.2.2.2.2.2.2.2.1, o13.2.2.2.2.2.2.2.2.2)
                          else
                            some ((0 : Int32), o13.2.1, o13.2.2.1, o13.2.2.2.1, o13.2.2.2.2.1, o13.2.2.2.2.2.1, o13.2.2.2.2.2.2.1, o13.2.2.2.2.2.2.2.1, o13.2.2.2.2.2.2.2.2.1, o13.2.2.2.2.2.2.2.2.2)
                    else
                      fRd_readRepeat_65 t_at o9.2.1 t_size o9.2.2.1 o9.2.2.2 t_lettersTold t_repeatsTold t_correctionsTold t_mostCorrections t_letters

-- Rd_readItems
def fRd_readItems_89 (k10 : Int32 → Int32 → Int32 → Int32 → Int32 → Int32 → Int32 → Int32 → Int32 → Int32 → Int32 → (Nat → Int32) → Option (Int32 × Int32 × Int32 × Int32 × Int32 × Int32 × Int32 × Int32 × Int32 × (Nat → Int32))) (x2 : Int32) (x3 : Int32) (x4 : Int32) (s0 : Int32) (t_at : Int32) (t_size : Int32) (t_faultPlace : Int32) (t_faultReason : Int32) (t_lettersTold : Int32) (t_repeatsTold : Int32) (t_correctionsTold : Int32) (t_mostCorrections : Int32) (t_letters : Nat → Int32) : Option (Int32 × Int32 × Int32 × Int32 × Int32 × Int32 × Int32 × Int32 × Int32 × (Nat → Int32)) :=
    if s0 = 0 then
      (fRd_hasFault t_faultReason).bind fun o2 =>
        if o2 = 0 then
          k10 x2 x3 (x4 + 1) t_at t_size t_faultPlace t_faultReason t_lettersTold t_repeatsTold t_correctionsTold t_mostCorrections t_letters
        else
          some (x3, t_at, t_size, t_faultPlace, t_faultReason, t_lettersTold, t_repeatsTold, t_correctionsTold, t_mostCorrections, t_letters)
    else
      some (x3, t_at, t_size, t_faultPlace, t_faultReason, t_lettersTold, t_repeatsTold, t_correctionsTold, t_mostCorrections, t_letters)
def fRd_readItems_52 (t_length : Int32) (t_signs : Nat → Int32) (x1 : Int32) (k10 : Int32 → Int32 → Int32 → Int32 → Int32 → Int32 → Int32 → Int32 → Int32 → Int32 → Int32 → (Nat → Int32) → Option (Int32 × Int32 × Int32 × Int32 × Int32 × Int32 × Int32 × Int32 × Int32 × (Nat → Int32))) (x2 : Int32) (x3 : Int32) (x4 : Int32) (t_at : Int32) (t_size : Int32) (t_faultPlace : Int32) (t_faultReason : Int32) (t_lettersTold : Int32) (t_repeatsTold : Int32) (t_correctionsTold : Int32) (t_mostCorrections : Int32) (t_letters : Nat → Int32) : Option (Int32 × Int32 × Int32 × Int32 × Int32 × Int32 × Int32 × Int32 × Int32 × (Nat → Int32)) :=
    if x1 = 0 then
      if t_at < t_length then
        fRd_readItems_89 k10 x2 x3 x4 (0 : Int32) t_at t_size t_faultPlace t_faultReason t_lettersTold t_repeatsTold t_correctionsTold t_mostCorrections t_letters
      else
        fRd_readItems_89 k10 x2 x3 x4 (1 : Int32) t_at t_size t_faultPlace t_faultReason t_lettersTold t_repeatsTold t_correctionsTold t_mostCorrections t_letters
    else
      (fRd_sign t_length t_at t_signs).bind fun o12 =>
        if o12 = (41 : Int32) then
          fRd_readItems_89 k10 x2 x3 x4 (1 : Int32) t_at t_size t_faultPlace t_faultReason t_lettersTold t_repeatsTold t_correctionsTold t_mostCorrections t_letters
        else
          fRd_readItems_89 k10 x2 x3 x4 (0 : Int32) t_at t_size t_faultPlace t_faultReason t_lettersTold t_repeatsTold t_correctionsTold t_mostCorrections t_letters
def fRd_readItems_111  (x3 : Int32) (t_at : Int32) (t_size : Int32) (t_faultPlace : Int32) (t_faultReason : Int32) (t_lettersTold : Int32) (t_repeatsTold : Int32) (t_correctionsTold : Int32) (t_mostCorrections : Int32) (t_letters : Nat → Int32) : Option (Int32 × Int32 × Int32 × Int32 × Int32 × Int32 × Int32 × Int32 × Int32 × (Nat → Int32)) :=
    (fRd_blame t_faultPlace t_faultReason t_at (1 : Int32)).bind fun o15 =>
      some (x3, t_at, t_size, o15.1, o15.2, t_lettersTold, t_repeatsTold, t_correctionsTold, t_mostCorrections, t_letters)
def fRd_readItems_10 (gRd_readRepeat : Int32 → Int32 → Int32 → Int32 → Int32 → Int32 → Int32 → Int32 → Int32 → Int32 → Int32 → (Nat → Int32) → (Nat → Int32) → Int32 → Int32 → Option (Int32 × Int32 × Int32 × Int32 × Int32 × Int32 × Int32 × Int32 × Int32 × (Nat → Int32))) (t_length : Int32) (t_deepest : Int32) (t_fresh : Int32) (t_signs : Nat → Int32) (x1 : Int32) : Nat → Int32 → Int32 → Int32 → Int32 → Int32 → Int32 → Int32 → Int32 → Int32 → Int32 → Int32 → (Nat → Int32) → Option (Int32 × Int32 × Int32 × Int32 × Int32 × Int32 × Int32 × Int32 × Int32 × (Nat → Int32))
  | 0, _, _, _, _, _, _, _, _, _, _, _, _ => none
  | n + 1, x2, x3, x4, t_at, t_size, t_faultPlace, t_faultReason, t_lettersTold, t_repeatsTold, t_correctionsTold, t_mostCorrections, t_letters =>
    if (60 : Int32) ≤ x4 then
      fRd_readItems_111 x3 t_at t_size t_faultPlace t_faultReason t_lettersTold t_repeatsTold t_correctionsTold t_mostCorrections t_letters
    else
      if (30 : Int32) < x1 then
        fRd_readItems_111 x3 t_at t_size t_faultPlace t_faultReason t_lettersTold t_repeatsTold t_correctionsTold t_mostCorrections t_letters
      else
        (fRd_sign t_length t_at t_signs).bind fun o6 =>
          (fRd_isLetter o6).bind fun o7 =>
            if o7 = 0 then
              (gRd_readRepeat t_length t_at t_size t_faultPlace t_faultReason t_lettersTold t_repeatsTold t_correctionsTold t_mostCorrections t_deepest t_fresh t_letters t_signs x1 x2).bind fun o9 =>
                fRd_readItems_52 t_length t_signs x1 (fRd_readItems_10 gRd_readRepeat t_length t_deepest t_fresh t_signs x1 n) x2 (if x3 < o9.1 then o9.1 else x3) x4 o9.2.1 o9.2.2.1 o9.2.2.2.1 o9.2.2.2.2.1 o9.2.2.2.2.2.1 o9.2.2.2.2.2.2.1 o9.2.2.2.2.2.2.2.1 o9.2.2.2.2.2.2.2.2.1 o9.2.2.2.2.2.2.2.2.2
            else
              (fRd_readLetter t_length t_signs t_at t_size t_faultPlace t_faultReason t_lettersTold t_letters x2).bind fun o10 =>
                fRd_readItems_52 t_length t_signs x1 (fRd_readItems_10 gRd_readRepeat t_length t_deepest t_fresh t_signs x1 n) x2 x3 x4 o10.1 o10.2.1 o10.2.2.1 o10.2.2.2.1 o10.2.2.2.2.1 t_repeatsTold t_correctionsTold t_mostCorrections o10.2.2.2.2.2
def fRd_readItemsB (gRd_readRepeat : Int32 → Int32 → Int32 → Int32 → Int32 → Int32 → Int32 → Int32 → Int32 → Int32 → Int32 → (Nat → Int32) → (Nat → Int32) → Int32 → Int32 → Option (Int32 × Int32 × Int32 × Int32 × Int32 × Int32 × Int32 × Int32 × Int32 × (Nat → Int32))) (t_length : Int32) (t_at : Int32) (t_size : Int32) (t_faultPlace : Int32) (t_faultReason : Int32) (t_lettersTold : Int32) (t_repeatsTold : Int32) (t_correctionsTold : Int32) (t_mostCorrections : Int32) (t_deepest : Int32) (t_fresh : Int32) (t_letters : Nat → Int32) (t_signs : Nat → Int32) (x1 : Int32) : Option (Int32 × Int32 × Int32 × Int32 × Int32 × Int32 × Int32 × Int32 × Int32 × (Nat → Int32)) :=
  fRd_readItems_10 gRd_readRepeat t_length t_deepest t_fresh t_signs x1 FU t_size (0 : Int32) (0 : Int32) t_at t_size t_faultPlace t_faultReason t_lettersTold t_repeatsTold t_correctionsTold t_mostCorrections t_letters
def fRd_readItems : Nat → Int32 → Int32 → Int32 → Int32 → Int32 → Int32 → Int32 → Int32 → Int32 → Int32 → Int32 → (Nat → Int32) → (Nat → Int32) → Int32 → Option (Int32 × Int32 × Int32 × Int32 × Int32 × Int32 × Int32 × Int32 × Int32 × (Nat → Int32))
  | 0 => fun _ _ _ _ _ _ _ _ _ _ _ _ _ _ => none
  | n + 1 => fRd_readItemsB (fRd_readRepeat (fRd_readItems n))

-- Rd_refresh
def fRd_refresh (t_length : Int32) (t_signs : Nat → Int32) (t_at : Int32) (t_size : Int32) (t_faultPlace : Int32) (t_faultReason : Int32) (t_lettersTold : Int32) (t_repeatsTold : Int32) (t_correctionsTold : Int32) (t_mostCorrections : Int32) (t_deepest : Int32) (t_fresh : Int32) (t_letters : Nat → Int32) : Option (Int32 × Int32 × Int32 × Int32 × Int32 × Int32 × Int32 × Int32 × Int32 × Int32 × (Nat → Int32)) :=
  if t_fresh = 0 then
    (fRd_readItems 40 t_length (0 : Int32) (0 : Int32) (0 : Int32) (0 : Int32) (0 : Int32) (0 : Int32) (0 : Int32) (0 : Int32) t_deepest (1 : Int32) t_letters t_signs (0 : Int32)).bind fun o2 =>
      some (o2.2.1, o2.2.2.1, o2.2.2.2.1, o2.2.2.2.2.1, o2.2.2.2.2.2.1, o2.2.2.2.2.2.2.1, o2.2.2.2.2.2.2.2.1, o2.2.2.2.2.2.2.2.2.1, o2.1, (1 : Int32), o2.2.2.2.2.2.2.2.2.2)
  else
    some (t_at, t_size, t_faultPlace, t_faultReason, t_lettersTold, t_repeatsTold, t_correctionsTold, t_mostCorrections, t_deepest, t_fresh, t_letters)

-- Rd_empty
def fRd_empty  : Option (Int32 × Int32) :=
  some ((0 : Int32), (0 : Int32))

-- Rd_describes
def fRd_describes_15 (t_size : Int32) (t_letters : Nat → Int32) (u_size : Int32) (u_letters : Nat → Int32) : Nat → Int32 → Option (Int32)
  | 0, _ => none
  | n + 1, x2 =>
    if t_size ≤ x2 then
      some (1 : Int32)
    else
      (fRd_letter t_letters x2).bind fun o2 =>
        (fSt_letter u_size u_letters x2).bind fun o3 =>
          if o2 = o3 then
            fRd_describes_15 t_size t_letters u_size u_letters n (x2 + 1)
          else
            some (0 : Int32)
def fRd_describes (t_size : Int32) (t_letters : Nat → Int32) (u_size : Int32) (u_letters : Nat → Int32) : Option (Int32) :=
  if t_size = u_size then
    fRd_describes_15 t_size t_letters u_size u_letters FU (0 : Int32)
  else
    some (0 : Int32)

-- Rd_measure
def fRd_measure (t_size : Int32) (t_lettersTold : Int32) (t_repeatsTold : Int32) (t_correctionsTold : Int32) (t_mostCorrections : Int32) (t_deepest : Int32) (t_letters : Nat → Int32) (u_size : Int32) (u_letters : Nat → Int32) (u_settings : Nat → Int32) (x1 : Int32) : Option (Int32) :=
  if x1 = (0 : Int32) then
    (fSt_setting u_settings (0 : Int32)).bind fun o2 =>
      (fSt_setting u_settings (1 : Int32)).bind fun o3 =>
        (fSt_setting u_settings (2 : Int32)).bind fun o4 =>
          some (((t_lettersTold * o2) + (t_repeatsTold * o3)) + (t_correctionsTold * o4))
  else
    if x1 = (1 : Int32) then
      some t_size
    else
      if x1 = (2 : Int32) then
        some t_deepest
      else
        if x1 = (3 : Int32) then
          some t_correctionsTold
        else
          if x1 = (4 : Int32) then
            some t_mostCorrections
          else
            (fRd_describes t_size t_letters u_size u_letters).bind fun o9 =>
              if o9 = 0 then
                some (0 : Int32)
              else
                some (1 : Int32)

-- Rd_add
def fRd_add (t_length : Int32) (t_signs : Nat → Int32) (x1 : Int32) : Option (Int32 × Int32 × (Nat → Int32)) :=
  if t_length < 0 then
    some (t_length, (0 : Int32), t_signs)
  else
    if (60 : Int32) ≤ t_length then
      some (t_length, (0 : Int32), t_signs)
    else
      if bIn t_length 60 = true then
        some ((t_length + (1 : Int32)), (0 : Int32), (wr t_signs t_length x1))
      else none

-- MD_init
def fMD_init  : Option (Unit) :=
  some ()

-- MD_acted
def fMD_acted_55 (t_begun : Nat → Int32) (x1 : Int32) : Nat → Int32 → Int32 → (Nat → Int32) → Option (Int32 × Int32 × (Nat → Int32))
  | 0, _, _, _ => none
  | n + 1, x2, t_states, t_was =>
    if (30 : Int32) ≤ x2 then
      some (x1, (t_states + (1 : Int32)), t_was)
    else
      if bIn x2 30 = true then
        if bIn (((30 : Int32) * t_states) + x2) 120 = true then
          fMD_acted_55 t_begun x1 n (x2 + 1) t_states (wr t_was (((30 : Int32) * t_states) + x2) (rd t_begun x2))
        else none
      else none
def fMD_acted_16 (t_begun : Nat → Int32) (x1 : Int32) : Nat → Int32 → Int32 → (Nat → Int32) → Option (Int32 × Int32 × (Nat → Int32))
  | 0, _, _, _ => none
  | n + 1, x2, t_states, t_was =>
    if (90 : Int32) ≤ x2 then
      fMD_acted_55 t_begun x1 FU (0 : Int32) (t_states - (1 : Int32)) t_was
    else
      if bIn (x2 + (30 : Int32)) 120 = true then
        if bIn x2 120 = true then
          fMD_acted_16 t_begun x1 n (x2 + 1) t_states (wr t_was x2 (rd t_was (x2 + (30 : Int32))))
        else none
      else none
def fMD_acted (t_begun : Nat → Int32) (t_states : Int32) (t_was : Nat → Int32) (x1 : Int32) : Option (Int32 × Int32 × (Nat → Int32)) :=
  if x1 ≤ (-1000001 : Int32) then
    some (x1, t_states, t_was)
  else
    if t_states = (4 : Int32) then
      fMD_acted_16 t_begun x1 FU (0 : Int32) t_states t_was
    else
      fMD_acted_55 t_begun x1 FU (0 : Int32) t_states t_was

-- MD_keeps
def fMD_keeps_2 (t_s : Nat → Int32) : Nat → Int32 → (Nat → Int32) → Option ((Nat → Int32))
  | 0, _, _ => none
  | n + 1, x1, t_begun =>
    if (30 : Int32) ≤ x1 then
      some t_begun
    else
      if bIn x1 30 = true then
        if bIn x1 30 = true then
          fMD_keeps_2 t_s n (x1 + 1) (wr t_begun x1 (rd t_s x1))
        else none
      else none
def fMD_keeps (t_s : Nat → Int32) (t_begun : Nat → Int32) : Option ((Nat → Int32)) :=
  fMD_keeps_2 t_s FU (0 : Int32) t_begun

-- MD_faulty
def fMD_faulty (x1 : Int32) (x2 : Int32) : Option (Int32 × Int32 × Int32) :=
  some ((0 : Int32), x1, x2)

-- MD_in
def fMD_in (x0 : Int32) (x1 : Int32) (x2 : Int32) : Option (Int32) :=
  if x0 < x1 then
    some (0 : Int32)
  else
    if x2 < x0 then
      some (0 : Int32)
    else
      some (1 : Int32)

-- MD_sign
def fMD_sign (t_typed : Int32) (t_at : Int32) (t_text : Nat → Int32) : Option (Int32) :=
  if t_typed ≤ t_at then
    some (-1 : Int32)
  else
    if bIn t_at 60 = true then
      some (rd t_text t_at)
    else none

-- MD_takes
def fMD_takes (t_typed : Int32) (t_text : Nat → Int32) (t_at : Int32) (t_place : Int32) (t_reason : Int32) (x1 : Int32) : Option (Int32 × Int32 × Int32 × Int32) :=
  (fMD_sign t_typed t_at t_text).bind fun o1 =>
    if o1 = x1 then
      some ((1 : Int32), (t_at + (1 : Int32)), t_place, t_reason)
    else
      (fMD_faulty t_at (1 : Int32)).bind fun o3 =>
        if o3.1 = 0 ∨ o3.1 = 1 then
          some (o3.1, t_at, o3.2.1, o3.2.2)
        else none

-- MD_correction
def fMD_correction_203  (x5 : Int32) (t_at : Int32) (t_corrections : Int32) (t_place : Int32) (t_reason : Int32) (t_own : Nat → Int32) : Option (Int32 × Int32 × Int32 × Int32 × Int32 × (Nat → Int32)) :=
    (fMD_faulty x5 (3 : Int32)).bind fun o17 =>
      if o17.1 = 0 ∨ o17.1 = 1 then
        some (o17.1, t_at, t_corrections, o17.2.1, o17.2.2, t_own)
      else none
def fMD_correction_105 (t_typed : Int32) (t_text : Nat → Int32) (x1 : Int32) (x2 : Int32) (x3 : Int32) (x4 : Int32) (x5 : Int32) (x7 : Int32) (t_at : Int32) (t_corrections : Int32) (t_place : Int32) (t_reason : Int32) (t_own : Nat → Int32) : Option (Int32 × Int32 × Int32 × Int32 × Int32 × (Nat → Int32)) :=
    (fMD_takes t_typed t_text t_at t_place t_reason (44 : Int32)).bind fun o1 =>
      if o1.1 = 0 then
        some ((0 : Int32), o1.2.1, t_corrections, o1.2.2.1, o1.2.2.2, t_own)
      else
        (fMD_sign t_typed o1.2.1 t_text).bind fun o3 =>
          (fMD_in (o3 - (97 : Int32)) (0 : Int32) (3 : Int32)).bind fun o4 =>
            if o4 = 0 then
              (fMD_faulty o1.2.1 (1 : Int32)).bind fun o15 =>
                if o15.1 = 0 ∨ o15.1 = 1 then
                  some (o15.1, o1.2.1, t_corrections, o15.2.1, o15.2.2, t_own)
                else none
            else
              (fMD_takes t_typed t_text (o1.2.1 + (1 : Int32)) o1.2.2.1 o1.2.2.2 (93 : Int32)).bind fun o6 =>
                if o6.1 = 0 then
                  some ((0 : Int32), o6.2.1, t_corrections, o6.2.2.1, o6.2.2.2, t_own)
                else
                  (fMD_in x7 x2 ((x2 * x3) - (1 : Int32))).bind fun o8 =>
                    if o8 = 0 then
                      fMD_correction_203 x5 o6.2.1 t_corrections o6.2.2.1 o6.2.2.2 t_own
                    else
                      if x7 ≤ x4 then
                        fMD_correction_203 x5 o6.2.1 t_corrections o6.2.2.1 o6.2.2.2 t_own
                      else
                        if x2 = 0 then none else
                          if bIn (x1 + (x7 - x7 / x2 * x2)) 1500 = true then
                            if (rd t_own (x1 + (x7 - x7 / x2 * x2))) = (o3 - (97 : Int32)) then
                              fMD_correction_203 x5 o6.2.1 t_corrections o6.2.2.1 o6.2.2.2 t_own
                            else
                              if bIn (x1 + x7) 1500 = true then
                                some ((1 : Int32), o6.2.1, (t_corrections + (1 : Int32)), o6.2.2.1, o6.2.2.2, (wr t_own (x1 + x7) (o3 - (97 : Int32))))
                              else none
                          else none
def fMD_correction (t_typed : Int32) (t_text : Nat → Int32) (t_at : Int32) (t_corrections : Int32) (t_place : Int32) (t_reason : Int32) (t_own : Nat → Int32) (x1 : Int32) (x2 : Int32) (x3 : Int32) (x4 : Int32) : Option (Int32 × Int32 × Int32 × Int32 × Int32 × (Nat → Int32)) :=
  (fMD_sign t_typed (t_at + (1 : Int32)) t_text).bind fun o19 =>
    (fMD_in o19 (48 : Int32) (57 : Int32)).bind fun o20 =>
      if o20 = 0 then
        (fMD_faulty (t_at + (1 : Int32)) (1 : Int32)).bind fun o27 =>
          if o27.1 = 0 ∨ o27.1 = 1 then
            some (o27.1, (t_at + (1 : Int32)), t_corrections, o27.2.1, o27.2.2, t_own)
          else none
      else
        (fMD_sign t_typed ((t_at + (1 : Int32)) + (1 : Int32)) t_text).bind fun o22 =>
          (fMD_in o22 (48 : Int32) (57 : Int32)).bind fun o23 =>
            if o23 = 0 then
              fMD_correction_105 t_typed t_text x1 x2 x3 x4 t_at (o19 - (48 : Int32)) ((t_at + (1 : Int32)) + (1 : Int32)) t_corrections t_place t_reason t_own
            else
              if (o19 - (48 : Int32)) ≤ 0 then
                fMD_correction_105 t_typed t_text x1 x2 x3 x4 t_at (o19 - (48 : Int32)) ((t_at + (1 : Int32)) + (1 : Int32)) t_corrections t_place t_reason t_own
              else
                (fMD_sign t_typed ((t_at + (1 : Int32)) + (1 : Int32)) t_text).bind fun o26 =>
                  fMD_correction_105 t_typed t_text x1 x2 x3 x4 t_at ((((10 : Int32) * (o19 - (48 : Int32))) + o26) - (48 : Int32)) (((t_at + (1 : Int32)) + (1 : Int32)) + (1 : Int32)) t_corrections t_place t_reason t_own

-- MD_endsBlock
def fMD_endsBlock_152 (t_typed : Int32) (t_text : Nat → Int32) : Nat → Int32 → Int32 → Int32 → Int32 → Int32 → Int32 → Int32 → Int32 → Int32 → Int32 → Int32 → Int32 → (Nat → Int32) → Option (Int32 × Int32 × Int32 × Int32 × Int32 × Int32 × Int32 × Int32 × (Nat → Int32))
  | 0, _, _, _, _, _, _, _, _, _, _, _, _, _ => none
  | n + 1, x1, x2, x3, x5, x6, t_at, t_ownLength, t_depth, t_corrections, t_mostCorrections, t_place, t_reason, t_own =>
    (fMD_sign t_typed t_at t_text).bind fun o1 =>
      if o1 = (91 : Int32) then
        (fMD_correction t_typed t_text t_at t_corrections t_place t_reason t_own x1 x2 x3 x6).bind fun o4 =>
          if o4.1 = 0 then
            some ((0 : Int32), o4.2.1, t_ownLength, t_depth, o4.2.2.1, t_mostCorrections, o4.2.2.2.1, o4.2.2.2.2.1, o4.2.2.2.2.2)
          else
            if bIn (t_at + (2 : Int32)) 60 = true then
              if (rd t_text (t_at + (2 : Int32))) = (44 : Int32) then
                if bIn (t_at + (1 : Int32)) 60 = true then
                  fMD_endsBlock_152 t_typed t_text n x1 x2 x3 (x5 + 1) ((rd t_text (t_at + (1 : Int32))) - (48 : Int32)) o4.2.1 t_ownLength t_depth o4.2.2.1 t_mostCorrections o4.2.2.2.1 o4.2.2.2.2.1 o4.2.2.2.2.2
                else none
              else
                if bIn (t_at + (1 : Int32)) 60 = true then
                  if bIn (t_at + (2 : Int32)) 60 = true then
                    fMD_endsBlock_152 t_typed t_text n x1 x2 x3 (x5 + 1) ((((10 : Int32) * ((rd t_text (t_at + (1 : Int32))) - (48 : Int32))) + (rd t_text (t_at + (2 : Int32)))) - (48 : Int32)) o4.2.1 t_ownLength t_depth o4.2.2.1 t_mostCorrections o4.2.2.2.1 o4.2.2.2.2.1 o4.2.2.2.2.2
                  else none
                else none
            else none
      else
        if x5 ≤ t_mostCorrections then
          some ((1 : Int32), t_at, t_ownLength, t_depth, t_corrections, t_mostCorrections, t_place, t_reason, t_own)
        else
          some ((1 : Int32), t_at, t_ownLength, t_depth, t_corrections, x5, t_place, t_reason, t_own)
def fMD_endsBlock_103 (t_typed : Int32) (t_text : Nat → Int32) : Nat → Int32 → Int32 → Int32 → Int32 → Int32 → Int32 → Int32 → Int32 → Int32 → Int32 → Int32 → (Nat → Int32) → Option (Int32 × Int32 × Int32 × Int32 × Int32 × Int32 × Int32 × Int32 × (Nat → Int32))
  | 0, _, _, _, _, _, _, _, _, _, _, _, _ => none
  | n + 1, x1, x2, x3, x5, t_at, t_ownLength, t_depth, t_corrections, t_mostCorrections, t_place, t_reason, t_own =>
    if (x2 * x3) ≤ x5 then
      fMD_endsBlock_152 t_typed t_text FU x1 x2 x3 (0 : Int32) (-1 : Int32) t_at (x1 + (x2 * x3)) t_depth t_corrections t_mostCorrections t_place t_reason t_own
    else
      if bIn ((x1 + x5) - x2) 1500 = true then
        if bIn (x1 + x5) 1500 = true then
          fMD_endsBlock_103 t_typed t_text n x1 x2 x3 (x5 + 1) t_at t_ownLength t_depth t_corrections t_mostCorrections t_place t_reason (wr t_own (x1 + x5) (rd t_own ((x1 + x5) - x2)))
        else none
      else none
def fMD_endsBlock (t_typed : Int32) (t_itemAt : Nat → Int32) (t_levelAt : Nat → Int32) (t_text : Nat → Int32) (t_times : Nat → Int32) (t_at : Int32) (t_ownLength : Int32) (t_depth : Int32) (t_corrections : Int32) (t_mostCorrections : Int32) (t_place : Int32) (t_reason : Int32) (t_own : Nat → Int32) : Option (Int32 × Int32 × Int32 × Int32 × Int32 × Int32 × Int32 × Int32 × (Nat → Int32)) :=
  if bIn t_depth 62 = true then
    if bIn t_depth 62 = true then
      if bIn t_depth 62 = true then
        if (t_ownLength - (rd t_levelAt t_depth)) = 0 then
          (fMD_faulty t_at (1 : Int32)).bind fun o22 =>
            if o22.1 = 0 ∨ o22.1 = 1 then
              some (o22.1, t_at, t_ownLength, t_depth, t_corrections, t_mostCorrections, o22.2.1, o22.2.2, t_own)
            else none
        else
          if bIn (t_depth - (1 : Int32)) 62 = true then
            if (((rd t_levelAt t_depth) - (rd t_levelAt (t_depth - (1 : Int32)))) + ((t_ownLength - (rd t_levelAt t_depth)) * (rd t_times t_depth))) ≤ (24 : Int32) then
              fMD_endsBlock_103 t_typed t_text FU (rd t_levelAt t_depth) (t_ownLength - (rd t_levelAt t_depth)) (rd t_times t_depth) (t_ownLength - (rd t_levelAt t_depth)) (t_at + (1 : Int32)) t_ownLength (t_depth - (1 : Int32)) t_corrections t_mostCorrections t_place t_reason t_own
            else
              (fMD_faulty (rd t_itemAt t_depth) (4 : Int32)).bind fun o20 =>
                if o20.1 = 0 ∨ o20.1 = 1 then
                  some (o20.1, (t_at + (1 : Int32)), t_ownLength, (t_depth - (1 : Int32)), t_corrections, t_mostCorrections, o20.2.1, o20.2.2, t_own)
                else none
          else none
      else none
    else none
  else none

-- MD_opensBlock
def fMD_opensBlock_118 (t_ownLength : Int32) (x1 : Int32) (x2 : Int32) (s1 : Int32) (t_at : Int32) (t_depth : Int32) (t_deepest : Int32) (t_repeats : Int32) (t_place : Int32) (t_reason : Int32) (t_itemAt : Nat → Int32) (t_levelAt : Nat → Int32) (t_times : Nat → Int32) : Option (Int32 × Int32 × Int32 × Int32 × Int32 × Int32 × Int32 × (Nat → Int32) × (Nat → Int32) × (Nat → Int32)) :=
    if bIn t_depth 62 = true then
      if bIn t_depth 62 = true then
        if bIn t_depth 62 = true then
          some ((1 : Int32), t_at, t_depth, s1, (t_repeats + (1 : Int32)), t_place, t_reason, (wr t_itemAt t_depth x1), (wr t_levelAt t_depth t_ownLength), (wr t_times t_depth x2))
        else none
      else none
    else none
def fMD_opensBlock_57 (t_typed : Int32) (t_ownLength : Int32) (t_text : Nat → Int32) (x1 : Int32) (x2 : Int32) (t_at : Int32) (t_depth : Int32) (t_deepest : Int32) (t_repeats : Int32) (t_place : Int32) (t_reason : Int32) (t_itemAt : Nat → Int32) (t_levelAt : Nat → Int32) (t_times : Nat → Int32) : Option (Int32 × Int32 × Int32 × Int32 × Int32 × Int32 × Int32 × (Nat → Int32) × (Nat → Int32) × (Nat → Int32)) :=
    (fMD_takes t_typed t_text t_at t_place t_reason (40 : Int32)).bind fun o1 =>
      if o1.1 = 0 then
        some ((0 : Int32), o1.2.1, t_depth, t_deepest, t_repeats, o1.2.2.1, o1.2.2.2, t_itemAt, t_levelAt, t_times)
      else
        (fMD_in x2 (2 : Int32) (24 : Int32)).bind fun o3 =>
          if o3 = 0 then
            (fMD_faulty x1 (2 : Int32)).bind fun o6 =>
              if o6.1 = 0 ∨ o6.1 = 1 then
                some (o6.1, o1.2.1, t_depth, t_deepest, t_repeats, o6.2.1, o6.2.2, t_itemAt, t_levelAt, t_times)
              else none
          else
            if (t_depth + (1 : Int32)) ≤ t_deepest then
              fMD_opensBlock_118 t_ownLength x1 x2 t_deepest o1.2.1 (t_depth + (1 : Int32)) t_deepest t_repeats o1.2.2.1 o1.2.2.2 t_itemAt t_levelAt t_times
            else
              fMD_opensBlock_118 t_ownLength x1 x2 (t_depth + (1 : Int32)) o1.2.1 (t_depth + (1 : Int32)) t_deepest t_repeats o1.2.2.1 o1.2.2.2 t_itemAt t_levelAt t_times
def fMD_opensBlock_7 (t_typed : Int32) (t_ownLength : Int32) (t_text : Nat → Int32) : Nat → Int32 → Int32 → Int32 → Int32 → Int32 → Int32 → Int32 → Int32 → (Nat → Int32) → (Nat → Int32) → (Nat → Int32) → Option (Int32 × Int32 × Int32 × Int32 × Int32 × Int32 × Int32 × (Nat → Int32) × (Nat → Int32) × (Nat → Int32))
  | 0, _, _, _, _, _, _, _, _, _, _, _ => none
  | n + 1, x1, x2, t_at, t_depth, t_deepest, t_repeats, t_place, t_reason, t_itemAt, t_levelAt, t_times =>
    (fMD_sign t_typed t_at t_text).bind fun o11 =>
      (fMD_in o11 (48 : Int32) (57 : Int32)).bind fun o12 =>
        if o12 = 0 then
          fMD_opensBlock_57 t_typed t_ownLength t_text x1 x2 t_at t_depth t_deepest t_repeats t_place t_reason t_itemAt t_levelAt t_times
        else
          if (x1 + (2 : Int32)) ≤ t_at then
            fMD_opensBlock_57 t_typed t_ownLength t_text x1 x2 t_at t_depth t_deepest t_repeats t_place t_reason t_itemAt t_levelAt t_times
          else
            (fMD_sign t_typed t_at t_text).bind fun o15 =>
              fMD_opensBlock_7 t_typed t_ownLength t_text n x1 ((((10 : Int32) * x2) + o15) - (48 : Int32)) (t_at + (1 : Int32)) t_depth t_deepest t_repeats t_place t_reason t_itemAt t_levelAt t_times
def fMD_opensBlock (t_typed : Int32) (t_ownLength : Int32) (t_text : Nat → Int32) (t_at : Int32) (t_depth : Int32) (t_deepest : Int32) (t_repeats : Int32) (t_place : Int32) (t_reason : Int32) (t_itemAt : Nat → Int32) (t_levelAt : Nat → Int32) (t_times : Nat → Int32) : Option (Int32 × Int32 × Int32 × Int32 × Int32 × Int32 × Int32 × (Nat → Int32) × (Nat → Int32) × (Nat → Int32)) :=
  fMD_opensBlock_7 t_typed t_ownLength t_text FU t_at (0 : Int32) t_at t_depth t_deepest t_repeats t_place t_reason t_itemAt t_levelAt t_times

-- MD_readsLetter
def fMD_readsLetter (t_typed : Int32) (t_depth : Int32) (t_levelAt : Nat → Int32) (t_text : Nat → Int32) (t_at : Int32) (t_ownLength : Int32) (t_letters : Int32) (t_place : Int32) (t_reason : Int32) (t_own : Nat → Int32) : Option (Int32 × Int32 × Int32 × Int32 × Int32 × Int32 × (Nat → Int32)) :=
  if bIn t_depth 62 = true then
    if (t_ownLength - (rd t_levelAt t_depth)) = (24 : Int32) then
      (fMD_faulty t_at (4 : Int32)).bind fun o5 =>
        if o5.1 = 0 ∨ o5.1 = 1 then
          some (o5.1, t_at, t_ownLength, t_letters, o5.2.1, o5.2.2, t_own)
        else none
    else
      (fMD_sign t_typed t_at t_text).bind fun o3 =>
        if bIn t_ownLength 1500 = true then
          some ((1 : Int32), (t_at + (1 : Int32)), (t_ownLength + (1 : Int32)), (t_letters + (1 : Int32)), t_place, t_reason, (wr t_own t_ownLength (o3 - (97 : Int32))))
        else none
  else none

-- MD_reads
def fMD_reads_125 (k49 : Int32 → Int32 → Int32 → Int32 → Int32 → Int32 → Int32 → Int32 → Int32 → Int32 → Int32 → (Nat → Int32) → (Nat → Int32) → (Nat → Int32) → (Nat → Int32) → Option (Int32 × Int32 × Int32 × Int32 × Int32 × Int32 × Int32 × Int32 × Int32 × Int32 × Int32 × (Nat → Int32) × (Nat → Int32) × (Nat → Int32) × (Nat → Int32))) (t_at : Int32) (t_ownLength : Int32) (t_depth : Int32) (t_deepest : Int32) (t_letters : Int32) (t_repeats : Int32) (t_corrections : Int32) (t_mostCorrections : Int32) (t_place : Int32) (t_reason : Int32) (t_itemAt : Nat → Int32) (t_levelAt : Nat → Int32) (t_own : Nat → Int32) (t_times : Nat → Int32) : Option (Int32 × Int32 × Int32 × Int32 × Int32 × Int32 × Int32 × Int32 × Int32 × Int32 × Int32 × (Nat → Int32) × (Nat → Int32) × (Nat → Int32) × (Nat → Int32)) :=
    (fMD_faulty t_at (1 : Int32)).bind fun o18 =>
      k49 o18.1 t_at t_ownLength t_depth t_deepest t_letters t_repeats t_corrections t_mostCorrections o18.2.1 o18.2.2 t_itemAt t_levelAt t_own t_times
def fMD_reads_156 (t_typed : Int32) (t_at : Int32) (t_ownLength : Int32) (t_depth : Int32) (t_deepest : Int32) (t_letters : Int32) (t_repeats : Int32) (t_corrections : Int32) (t_mostCorrections : Int32) (t_place : Int32) (t_reason : Int32) (t_itemAt : Nat → Int32) (t_levelAt : Nat → Int32) (t_own : Nat → Int32) (t_times : Nat → Int32) : Option (Int32 × Int32 × Int32 × Int32 × Int32 × Int32 × Int32 × Int32 × Int32 × Int32 × Int32 × (Nat → Int32) × (Nat → Int32) × (Nat → Int32) × (Nat → Int32)) :=
    (fMD_faulty t_typed (1 : Int32)).bind fun o16 =>
      if o16.1 = 0 then
        some ((0 : Int32), t_at, t_ownLength, t_depth, t_deepest, t_letters, t_repeats, t_corrections, t_mostCorrections, o16.2.1, o16.2.2, t_itemAt, t_levelAt, t_own, t_times)
      else
        some ((1 : Int32), t_at, t_ownLength, t_depth, t_deepest, t_letters, t_repeats, t_corrections, t_mostCorrections, o16.2.1, o16.2.2, t_itemAt, t_levelAt, t_own, t_times)
def fMD_reads_138 (t_typed : Int32) (x1 : Int32) (t_at : Int32) (t_ownLength : Int32) (t_depth : Int32) (t_deepest : Int32) (t_letters : Int32) (t_repeats : Int32) (t_corrections : Int32) (t_mostCorrections : Int32) (t_place : Int32) (t_reason : Int32) (t_itemAt : Nat → Int32) (t_levelAt : Nat → Int32) (t_own : Nat → Int32) (t_times : Nat → Int32) : Option (Int32 × Int32 × Int32 × Int32 × Int32 × Int32 × Int32 × Int32 × Int32 × Int32 × Int32 × (Nat → Int32) × (Nat → Int32) × (Nat → Int32) × (Nat → Int32)) :=
    if x1 = 0 then
      some ((0 : Int32), t_at, t_ownLength, t_depth, t_deepest, t_letters, t_repeats, t_corrections, t_mostCorrections, t_place, t_reason, t_itemAt, t_levelAt, t_own, t_times)
    else
      if 0 < t_depth then
        fMD_reads_156 t_typed t_at t_ownLength t_depth t_deepest t_letters t_repeats t_corrections t_mostCorrections t_place t_reason t_itemAt t_levelAt t_own t_times
      else
        if t_typed = 0 then
          fMD_reads_156 t_typed t_at t_ownLength t_depth t_deepest t_letters t_repeats t_corrections t_mostCorrections t_place t_reason t_itemAt t_levelAt t_own t_times
        else
          some ((1 : Int32), t_at, t_ownLength, t_depth, t_deepest, t_letters, t_repeats, t_corrections, t_mostCorrections, t_place, t_reason, t_itemAt, t_levelAt, t_own, t_times)
def fMD_reads_49 (t_typed : Int32) (t_text : Nat → Int32) : Nat → Int32 → Int32 → Int32 → Int32 → Int32 → Int32 → Int32 → Int32 → Int32 → Int32 → Int32 → (Nat → Int32) → (Nat → Int32) → (Nat → Int32) → (Nat → Int32) → Option (Int32 × Int32 × Int32 × Int32 × Int32 × Int32 × Int32 × Int32 × Int32 × Int32 × Int32 × (Nat → Int32) × (Nat → Int32) × (Nat → Int32) × (Nat → Int32))
  | 0, _, _, _, _, _, _, _, _, _, _, _, _, _, _, _ => none
  | n + 1, x1, t_at, t_ownLength, t_depth, t_deepest, t_letters, t_repeats, t_corrections, t_mostCorrections, t_place, t_reason, t_itemAt, t_levelAt, t_own, t_times =>
    if x1 = 0 then
      fMD_reads_138 t_typed x1 t_at t_ownLength t_depth t_deepest t_letters t_repeats t_corrections t_mostCorrections t_place t_reason t_itemAt t_levelAt t_own t_times
    else
      if t_typed ≤ t_at then
        fMD_reads_138 t_typed x1 t_at t_ownLength t_depth t_deepest t_letters t_repeats t_corrections t_mostCorrections t_place t_reason t_itemAt t_levelAt t_own t_times
      else
        (fMD_sign t_typed t_at t_text).bind fun o3 =>
          (fMD_in o3 (97 : Int32) (100 : Int32)).bind fun o4 =>
            if o4 = 0 then
              (fMD_in o3 (49 : Int32) (57 : Int32)).bind fun o6 =>
                if o6 = 0 then
                  if o3 = (41 : Int32) then
                    if t_depth ≤ 0 then
                      fMD_reads_125 (fMD_reads_49 t_typed t_text n) t_at t_ownLength t_depth t_deepest t_letters t_repeats t_corrections t_mostCorrections t_place t_reason t_itemAt t_levelAt t_own t_times
                    else
                      (fMD_endsBlock t_typed t_itemAt t_levelAt t_text t_times t_at t_ownLength t_depth t_corrections t_mostCorrections t_place t_reason t_own).bind fun o10 =>
                        fMD_reads_49 t_typed t_text n o10.1 o10.2.1 o10.2.2.1 o10.2.2.2.1 t_deepest t_letters t_repeats o10.2.2.2.2.1 o10.2.2.2.2.2.1 o10.2.2.2.2.2.2.1 o10.2.2.2.2.2.2.2.1 t_itemAt t_levelAt o10.2.2.2.2.2.2.2.2 t_times
                  else
                    fMD_reads_125 (fMD_reads_49 t_typed t_text n) t_at t_ownLength t_depth t_deepest t_letters t_repeats t_corrections t_mostCorrections t_place t_reason t_itemAt t_levelAt t_own t_times
                else
                  (fMD_opensBlock t_typed t_ownLength t_text t_at t_depth t_deepest t_repeats t_place t_reason t_itemAt t_levelAt t_times).bind fun o11 =>
                    fMD_reads_49 t_typed t_text n o11.1 o11.2.1 t_ownLength o11.2.2.1 o11.2.2.2.1 t_letters o11.2.2.2.2.1 t_corrections t_mostCorrections o11.2.2.2.2.2.1 o11.2.2.2.2.2.2.1 o11.2.2.2.2.2.2.2.1 o11.2.2.2.2.2.2.2.2.1 t_own o11.2.2.2.2.2.2.2.2.2
            else
              (fMD_readsLetter t_typed t_depth t_levelAt t_text t_at t_ownLength t_letters t_place t_reason t_own).bind fun o12 =>
                fMD_reads_49 t_typed t_text n o12.1 o12.2.1 o12.2.2.1 t_depth t_deepest o12.2.2.2.1 t_repeats t_corrections t_mostCorrections o12.2.2.2.2.1 o12.2.2.2.2.2.1 t_itemAt t_levelAt o12.2.2.2.2.2.2 t_times
def fMD_reads (t_typed : Int32) (t_text : Nat → Int32) (t_place : Int32) (t_reason : Int32) (t_itemAt : Nat → Int32) (t_levelAt : Nat → Int32) (t_own : Nat → Int32) (t_times : Nat → Int32) : Option (Int32 × Int32 × Int32 × Int32 × Int32 × Int32 × Int32 × Int32 × Int32 × Int32 × Int32 × (Nat → Int32) × (Nat → Int32) × (Nat → Int32) × (Nat → Int32)) :=
  fMD_reads_49 t_typed t_text FU (1 : Int32) (0 : Int32) (0 : Int32) (0 : Int32) (0 : Int32) (0 : Int32) (0 : Int32) (0 : Int32) (0 : Int32) t_place t_reason t_itemAt (wr t_levelAt (0 : Int32) (0 : Int32)) t_own t_times

-- MD_adopt
def fMD_adopt_16  : Nat → Int32 → Int32 → Int32 → Int32 → Int32 → Int32 → Int32 → Int32 → Int32 → Int32 → Int32 → Int32 → (Nat → Int32) → (Nat → Int32) → (Nat → Int32) → (Nat → Int32) → (Nat → Int32) → (Nat → Int32) → (Nat → Int32) → Option (Int32 × Int32 × Int32 × Int32 × Int32 × Int32 × Int32 × Int32 × Int32 × Int32 × Int32 × Int32 × (Nat → Int32) × (Nat → Int32) × (Nat → Int32) × (Nat → Int32) × (Nat → Int32) × (Nat → Int32) × (Nat → Int32))
  | 0, _, _, _, _, _, _, _, _, _, _, _, _, _, _, _, _, _, _, _ => none
  | n + 1, x1, t_states, t_at, t_ownLength, t_depth, t_deepest, t_letters, t_repeats, t_corrections, t_mostCorrections, t_place, t_reason, t_begun, t_itemAt, t_levelAt, t_own, t_s, t_times, t_was =>
    if t_ownLength ≤ x1 then
      (fMD_acted t_begun t_states t_was t_ownLength).bind fun o2 =>
        some (o2.1, o2.2.1, t_at, t_ownLength, t_depth, t_deepest, t_letters, t_repeats, t_corrections, t_mostCorrections, t_place, t_reason, t_begun, t_itemAt, t_levelAt, t_own, (wr t_s (0 : Int32) t_ownLength), t_times, o2.2.2)
    else
      if bIn x1 1500 = true then
        if bIn ((6 : Int32) + x1) 30 = true then
          fMD_adopt_16 n (x1 + 1) t_states t_at t_ownLength t_depth t_deepest t_letters t_repeats t_corrections t_mostCorrections t_place t_reason t_begun t_itemAt t_levelAt t_own (wr t_s ((6 : Int32) + x1) (rd t_own x1)) t_times t_was
        else none
      else none
def fMD_adopt (t_typed : Int32) (t_text : Nat → Int32) (t_states : Int32) (t_place : Int32) (t_reason : Int32) (t_begun : Nat → Int32) (t_itemAt : Nat → Int32) (t_levelAt : Nat → Int32) (t_own : Nat → Int32) (t_s : Nat → Int32) (t_times : Nat → Int32) (t_was : Nat → Int32) : Option (Int32 × Int32 × Int32 × Int32 × Int32 × Int32 × Int32 × Int32 × Int32 × Int32 × Int32 × Int32 × (Nat → Int32) × (Nat → Int32) × (Nat → Int32) × (Nat → Int32) × (Nat → Int32) × (Nat → Int32) × (Nat → Int32)) :=
  (fMD_reads t_typed t_text t_place t_reason t_itemAt t_levelAt t_own t_times).bind fun o5 =>
    if o5.1 = 0 then
      some ((-1000002 : Int32), t_states, o5.2.1, o5.2.2.1, o5.2.2.2.1, o5.2.2.2.2.1, o5.2.2.2.2.2.1, o5.2.2.2.2.2.2.1, o5.2.2.2.2.2.2.2.1, o5.2.2.2.2.2.2.2.2.1, o5.2.2.2.2.2.2.2.2.2.1, o5.2.2.2.2.2.2.2.2.2.2.1, t_begun, o5.2.2.2.2.2.2.2.2.2.2.2.1, o5.2.2.2.2.2.2.2.2.2.2.2.2.1, o5.2.2.2.2.2.2.2.2.2.2.2.2.2.1, t_s, o5.2.2.2.2.2.2.2.2.2.2.2.2.2.2, t_was)
    else
      (fMD_keeps t_s t_begun).bind fun o7 =>
        fMD_adopt_16 FU (0 : Int32) t_states o5.2.1 o5.2.2.1 o5.2.2.2.1 o5.2.2.2.2.1 o5.2.2.2.2.2.1 o5.2.2.2.2.2.2.1 o5.2.2.2.2.2.2.2.1 o5.2.2.2.2.2.2.2.2.1 o5.2.2.2.2.2.2.2.2.2.1 o5.2.2.2.2.2.2.2.2.2.2.1 o7 o5.2.2.2.2.2.2.2.2.2.2.2.1 o5.2.2.2.2.2.2.2.2.2.2.2.2.1 o5.2.2.2.2.2.2.2.2.2.2.2.2.2.1 t_s o5.2.2.2.2.2.2.2.2.2.2.2.2.2.2 t_was

-- MD_append
def fMD_append (t_states : Int32) (t_begun : Nat → Int32) (t_s : Nat → Int32) (t_was : Nat → Int32) (x1 : Int32) : Option (Int32 × Int32 × (Nat → Int32) × (Nat → Int32) × (Nat → Int32)) :=
  (fMD_in x1 (0 : Int32) (3 : Int32)).bind fun o1 =>
    if o1 = 0 then
      some ((-1000001 : Int32), t_states, t_begun, t_s, t_was)
    else
      if (rd t_s (0 : Int32)) = (24 : Int32) then
        some ((-1000003 : Int32), t_states, t_begun, t_s, t_was)
      else
        (fMD_keeps t_s t_begun).bind fun o4 =>
          if bIn ((6 : Int32) + (rd t_s (0 : Int32))) 30 = true then
            (fMD_acted o4 t_states t_was (rd (wr (wr t_s ((6 : Int32) + (rd t_s (0 : Int32))) x1) (0 : Int32) ((rd (wr t_s ((6 : Int32) + (rd t_s (0 : Int32))) x1) (0 : Int32)) + (1 : Int32))) (0 : Int32))).bind fun o6 =>
              some (o6.1, o6.2.1, o4, (wr (wr t_s ((6 : Int32) + (rd t_s (0 : Int32))) x1) (0 : Int32) ((rd (wr t_s ((6 : Int32) + (rd t_s (0 : Int32))) x1) (0 : Int32)) + (1 : Int32))), o6.2.2)
          else none

-- MD_corrects
def fMD_corrects_81 (k2 : Int32 → (Nat → Int32) → Option ((Nat → Int32))) (k14 : Int32 → Int32 → (Nat → Int32) → Option ((Nat → Int32))) (k33 : Int32 → Int32 → Int32 → Int32 → (Nat → Int32) → Option ((Nat → Int32))) (x1 : Int32) (x2 : Int32) (x4 : Int32) (s0 : Int32) (s1 : Int32) (t_wrong : Nat → Int32) : Option ((Nat → Int32)) :=
    if x2 = 0 then none else
      if ((x4 + (1 : Int32)) - (x4 + (1 : Int32)) / x2 * x2) = 0 then
        if x2 = 0 then none else
          if bIn ((((625 : Int32) * x1) + ((25 : Int32) * x2)) + ((x4 + (1 : Int32)) / x2)) 15625 = true then
            k33 x1 x2 (s0 + s1) (x4 + 1) (wr t_wrong ((((625 : Int32) * x1) + ((25 : Int32) * x2)) + ((x4 + (1 : Int32)) / x2)) (s0 + s1))
          else none
      else
        k33 x1 x2 (s0 + s1) (x4 + 1) t_wrong
def fMD_corrects_33 (t_s : Nat → Int32) (k2 : Int32 → (Nat → Int32) → Option ((Nat → Int32))) (k14 : Int32 → Int32 → (Nat → Int32) → Option ((Nat → Int32))) : Nat → Int32 → Int32 → Int32 → Int32 → (Nat → Int32) → Option ((Nat → Int32))
  | 0, _, _, _, _, _ => none
  | n + 1, x1, x2, x3, x4, t_wrong =>
    if (rd t_s (0 : Int32)) ≤ (x1 + x4) then
      k14 x1 (x2 + 1) t_wrong
    else
      if bIn (((6 : Int32) + x1) + x4) 30 = true then
        if x2 = 0 then none else
          if bIn (((6 : Int32) + x1) + (x4 - x4 / x2 * x2)) 30 = true then
            if (rd t_s (((6 : Int32) + x1) + x4)) = (rd t_s (((6 : Int32) + x1) + (x4 - x4 / x2 * x2))) then
              fMD_corrects_81 k2 k14 (fMD_corrects_33 t_s k2 k14 n) x1 x2 x4 x3 (0 : Int32) t_wrong
            else
              fMD_corrects_81 k2 k14 (fMD_corrects_33 t_s k2 k14 n) x1 x2 x4 x3 (1 : Int32) t_wrong
          else none
      else none
def fMD_corrects_14 (t_s : Nat → Int32) (k2 : Int32 → (Nat → Int32) → Option ((Nat → Int32))) : Nat → Int32 → Int32 → (Nat → Int32) → Option ((Nat → Int32))
  | 0, _, _, _ => none
  | n + 1, x1, x2, t_wrong =>
    if (rd t_s (0 : Int32)) < (x1 + ((2 : Int32) * x2)) then
      k2 (x1 + 1) t_wrong
    else
      fMD_corrects_33 t_s k2 (fMD_corrects_14 t_s k2 n) FU x1 x2 (0 : Int32) x2 t_wrong
def fMD_corrects_2 (t_s : Nat → Int32) : Nat → Int32 → (Nat → Int32) → Option ((Nat → Int32))
  | 0, _, _ => none
  | n + 1, x1, t_wrong =>
    if (rd t_s (0 : Int32)) ≤ x1 then
      some t_wrong
    else
      fMD_corrects_14 t_s (fMD_corrects_2 t_s n) FU x1 (1 : Int32) t_wrong
def fMD_corrects (t_s : Nat → Int32) (t_wrong : Nat → Int32) : Option ((Nat → Int32)) :=
  fMD_corrects_2 t_s FU (0 : Int32) t_wrong

-- MD_part
def fMD_part (x0 : Int32) (x1 : Int32) (x2 : Int32) : Option (Int32) :=
  some ((((625 : Int32) * x0) + ((25 : Int32) * x1)) + x2)

-- MD_finds
def fMD_finds_257 (k17 : Int32 → Int32 → Int32 → (Nat → Int32) → (Nat → Int32) → (Nat → Int32) → Option ((Nat → Int32) × (Nat → Int32) × (Nat → Int32))) (k95 : Int32 → Int32 → Int32 → Int32 → (Nat → Int32) → (Nat → Int32) → (Nat → Int32) → Option ((Nat → Int32) × (Nat → Int32) × (Nat → Int32))) (x4 : Int32) (x5 : Int32) (x6 : Int32) (x7 : Int32) (x9 : Int32) (s1 : Int32) (s2 : Int32) (t_block : Nat → Int32) (t_cost : Nat → Int32) (t_first : Nat → Int32) : Option ((Nat → Int32) × (Nat → Int32) × (Nat → Int32)) :=
    if bIn s1 3125 = true then
      if x4 ≤ x9 then
        k95 x4 x5 x6 (x7 + 1) (wr t_block s1 s2) t_cost t_first
      else
        k95 x9 x5 x6 (x7 + 1) (wr t_block s1 s2) t_cost t_first
    else none
def fMD_finds_231 (k17 : Int32 → Int32 → Int32 → (Nat → Int32) → (Nat → Int32) → (Nat → Int32) → Option ((Nat → Int32) × (Nat → Int32) × (Nat → Int32))) (k95 : Int32 → Int32 → Int32 → Int32 → (Nat → Int32) → (Nat → Int32) → (Nat → Int32) → Option ((Nat → Int32) × (Nat → Int32) × (Nat → Int32))) (x4 : Int32) (x5 : Int32) (x6 : Int32) (x7 : Int32) (x9 : Int32) (s1 : Int32) (s2 : Int32) (t_block : Nat → Int32) (t_cost : Nat → Int32) (t_first : Nat → Int32) : Option ((Nat → Int32) × (Nat → Int32) × (Nat → Int32)) :=
    if bIn s1 3125 = true then
      if x4 ≤ x9 then
        if bIn x5 3125 = true then
          fMD_finds_257 k17 k95 x4 x5 x6 x7 x9 x5 (rd t_block x5) t_block t_cost (wr t_first s1 s2)
        else none
      else
        fMD_finds_257 k17 k95 x4 x5 x6 x7 x9 x5 x7 t_block t_cost (wr t_first s1 s2)
    else none
def fMD_finds_143 (t_s : Nat → Int32) (x1 : Int32) (x2 : Int32) (x3 : Int32) (k17 : Int32 → Int32 → Int32 → (Nat → Int32) → (Nat → Int32) → (Nat → Int32) → Option ((Nat → Int32) × (Nat → Int32) × (Nat → Int32))) (k95 : Int32 → Int32 → Int32 → Int32 → (Nat → Int32) → (Nat → Int32) → (Nat → Int32) → Option ((Nat → Int32) × (Nat → Int32) × (Nat → Int32))) (x4 : Int32) (x5 : Int32) (x6 : Int32) (x7 : Int32) (s0 : Int32) (t_block : Nat → Int32) (t_cost : Nat → Int32) (t_first : Nat → Int32) : Option ((Nat → Int32) × (Nat → Int32) × (Nat → Int32)) :=
    if (rd t_s (4 : Int32)) < s0 then
      k95 x4 x5 x6 (x7 + 1) t_block t_cost t_first
    else
      (fMD_part (x1 - (1 : Int32)) x2 (x2 + x7)).bind fun o2 =>
        if bIn o2 3125 = true then
          (fMD_part x1 (x2 + x6) x3).bind fun o4 =>
            if bIn o4 3125 = true then
              if x4 ≤ ((((rd t_s (2 : Int32)) + (rd t_cost o2)) + ((rd t_s (3 : Int32)) * s0)) + (rd t_cost o4)) then
                if bIn x5 3125 = true then
                  fMD_finds_231 k17 k95 x4 x5 x6 x7 ((((rd t_s (2 : Int32)) + (rd t_cost o2)) + ((rd t_s (3 : Int32)) * s0)) + (rd t_cost o4)) x5 (rd t_first x5) t_block t_cost t_first
                else none
              else
                fMD_finds_231 k17 k95 x4 x5 x6 x7 ((((rd t_s (2 : Int32)) + (rd t_cost o2)) + ((rd t_s (3 : Int32)) * s0)) + (rd t_cost o4)) x5 x6 t_block t_cost t_first
            else none
        else none
def fMD_finds_95 (t_s : Nat → Int32) (t_wrong : Nat → Int32) (x1 : Int32) (x2 : Int32) (x3 : Int32) (k17 : Int32 → Int32 → Int32 → (Nat → Int32) → (Nat → Int32) → (Nat → Int32) → Option ((Nat → Int32) × (Nat → Int32) × (Nat → Int32))) : Nat → Int32 → Int32 → Int32 → Int32 → (Nat → Int32) → (Nat → Int32) → (Nat → Int32) → Option ((Nat → Int32) × (Nat → Int32) × (Nat → Int32))
  | 0, _, _, _, _, _, _, _ => none
  | n + 1, x4, x5, x6, x7, t_block, t_cost, t_first =>
    if x6 < ((2 : Int32) * x7) then
      k17 x4 x5 (x6 + (-1)) t_block t_cost t_first
    else
      if x1 ≤ 0 then
        k17 x4 x5 (x6 + (-1)) t_block t_cost t_first
      else
        if x7 = 0 then none else
          if (x6 - x6 / x7 * x7) = 0 then
            if x7 = 0 then none else
              if bIn ((((625 : Int32) * x2) + ((25 : Int32) * x7)) + (x6 / x7)) 15625 = true then
                fMD_finds_143 t_s x1 x2 x3 k17 (fMD_finds_95 t_s t_wrong x1 x2 x3 k17 n) x4 x5 x6 x7 (rd t_wrong ((((625 : Int32) * x2) + ((25 : Int32) * x7)) + (x6 / x7))) t_block t_cost t_first
              else none
          else
            fMD_finds_143 t_s x1 x2 x3 k17 (fMD_finds_95 t_s t_wrong x1 x2 x3 k17 n) x4 x5 x6 x7 (1000000 : Int32) t_block t_cost t_first
def fMD_finds_75 (t_s : Nat → Int32) (t_wrong : Nat → Int32) (x1 : Int32) (x2 : Int32) (x3 : Int32) (k17 : Int32 → Int32 → Int32 → (Nat → Int32) → (Nat → Int32) → (Nat → Int32) → Option ((Nat → Int32) × (Nat → Int32) × (Nat → Int32))) (x4 : Int32) (x5 : Int32) (x6 : Int32) (x7 : Int32) (s1 : Int32) (s2 : Int32) (t_block : Nat → Int32) (t_cost : Nat → Int32) (t_first : Nat → Int32) : Option ((Nat → Int32) × (Nat → Int32) × (Nat → Int32)) :=
    if bIn s1 3125 = true then
      if x4 ≤ x7 then
        fMD_finds_95 t_s t_wrong x1 x2 x3 k17 FU x4 x5 x6 (1 : Int32) t_block t_cost (wr t_first s1 s2)
      else
        fMD_finds_95 t_s t_wrong x1 x2 x3 k17 FU x7 x5 x6 (1 : Int32) t_block t_cost (wr t_first s1 s2)
    else none
def fMD_finds_17 (t_s : Nat → Int32) (t_wrong : Nat → Int32) (x1 : Int32) (x2 : Int32) (x3 : Int32) : Nat → Int32 → Int32 → Int32 → (Nat → Int32) → (Nat → Int32) → (Nat → Int32) → Option ((Nat → Int32) × (Nat → Int32) × (Nat → Int32))
  | 0, _, _, _, _, _, _ => none
  | n + 1, x4, x5, x6, t_block, t_cost, t_first =>
    if x6 < (1 : Int32) then
      if bIn x5 3125 = true then
        some (t_block, (wr t_cost x5 x4), t_first)
      else none
    else
      if x6 = (1 : Int32) then
        (fMD_part x1 (x2 + (1 : Int32)) x3).bind fun o11 =>
          if bIn o11 3125 = true then
            if x4 ≤ ((rd t_s (1 : Int32)) + (rd t_cost o11)) then
              if bIn x5 3125 = true then
                fMD_finds_75 t_s t_wrong x1 x2 x3 (fMD_finds_17 t_s t_wrong x1 x2 x3 n) x4 x5 x6 ((rd t_s (1 : Int32)) + (rd t_cost o11)) x5 (rd t_first x5) t_block t_cost t_first
              else none
            else
              fMD_finds_75 t_s t_wrong x1 x2 x3 (fMD_finds_17 t_s t_wrong x1 x2 x3 n) x4 x5 x6 ((rd t_s (1 : Int32)) + (rd t_cost o11)) x5 (1 : Int32) t_block t_cost t_first
          else none
      else
        fMD_finds_95 t_s t_wrong x1 x2 x3 (fMD_finds_17 t_s t_wrong x1 x2 x3 n) FU x4 x5 x6 (1 : Int32) t_block t_cost t_first
def fMD_finds (t_s : Nat → Int32) (t_wrong : Nat → Int32) (t_block : Nat → Int32) (t_cost : Nat → Int32) (t_first : Nat → Int32) (x1 : Int32) (x2 : Int32) (x3 : Int32) : Option ((Nat → Int32) × (Nat → Int32) × (Nat → Int32)) :=
  (fMD_part x1 x2 x3).bind fun o28 =>
    fMD_finds_17 t_s t_wrong x1 x2 x3 FU (1000000 : Int32) o28 (x3 - x2) t_block t_cost t_first

-- MD_lays
def fMD_lays_43 (t_s : Nat → Int32) (k6 : Int32 → (Nat → Int32) → (Nat → Int32) → (Nat → Int32) → (Nat → Int32) → Option ((Nat → Int32) × (Nat → Int32) × (Nat → Int32) × (Nat → Int32))) (k23 : Int32 → Int32 → (Nat → Int32) → (Nat → Int32) → (Nat → Int32) → (Nat → Int32) → Option ((Nat → Int32) × (Nat → Int32) × (Nat → Int32) × (Nat → Int32))) : Nat → Int32 → Int32 → Int32 → (Nat → Int32) → (Nat → Int32) → (Nat → Int32) → (Nat → Int32) → Option ((Nat → Int32) × (Nat → Int32) × (Nat → Int32) × (Nat → Int32))
  | 0, _, _, _, _, _, _, _ => none
  | n + 1, x1, x2, x3, t_block, t_cost, t_first, t_wrong =>
    if (rd t_s (0 : Int32)) < x3 then
      k23 x1 (x2 + (-1)) t_block t_cost t_first t_wrong
    else
      (fMD_finds t_s t_wrong t_block t_cost t_first x1 x2 x3).bind fun o2 =>
        fMD_lays_43 t_s k6 k23 n x1 x2 (x3 + 1) o2.1 o2.2.1 o2.2.2 t_wrong
def fMD_lays_23 (t_s : Nat → Int32) (k6 : Int32 → (Nat → Int32) → (Nat → Int32) → (Nat → Int32) → (Nat → Int32) → Option ((Nat → Int32) × (Nat → Int32) × (Nat → Int32) × (Nat → Int32))) : Nat → Int32 → Int32 → (Nat → Int32) → (Nat → Int32) → (Nat → Int32) → (Nat → Int32) → Option ((Nat → Int32) × (Nat → Int32) × (Nat → Int32) × (Nat → Int32))
  | 0, _, _, _, _, _, _ => none
  | n + 1, x1, x2, t_block, t_cost, t_first, t_wrong =>
    if x2 < 0 then
      k6 (x1 + 1) t_block t_cost t_first t_wrong
    else
      (fMD_part x1 x2 x2).bind fun o5 =>
        if bIn o5 3125 = true then
          fMD_lays_43 t_s k6 (fMD_lays_23 t_s k6 n) FU x1 x2 (x2 + (1 : Int32)) t_block (wr t_cost o5 (0 : Int32)) t_first t_wrong
        else none
def fMD_lays_6 (t_s : Nat → Int32) : Nat → Int32 → (Nat → Int32) → (Nat → Int32) → (Nat → Int32) → (Nat → Int32) → Option ((Nat → Int32) × (Nat → Int32) × (Nat → Int32) × (Nat → Int32))
  | 0, _, _, _, _, _ => none
  | n + 1, x1, t_block, t_cost, t_first, t_wrong =>
    if (rd t_s (5 : Int32)) < x1 then
      some (t_block, t_cost, t_first, t_wrong)
    else
      fMD_lays_23 t_s (fMD_lays_6 t_s n) FU x1 (rd t_s (0 : Int32)) t_block t_cost t_first t_wrong
def fMD_lays (t_s : Nat → Int32) (t_block : Nat → Int32) (t_cost : Nat → Int32) (t_first : Nat → Int32) (t_wrong : Nat → Int32) : Option ((Nat → Int32) × (Nat → Int32) × (Nat → Int32) × (Nat → Int32)) :=
  (fMD_corrects t_s t_wrong).bind fun o7 =>
    fMD_lays_6 t_s FU (0 : Int32) t_block t_cost t_first o7

-- MD_costs
def fMD_costs (t_s : Nat → Int32) (t_block : Nat → Int32) (t_cost : Nat → Int32) (t_first : Nat → Int32) (t_wrong : Nat → Int32) : Option (Int32 × (Nat → Int32) × (Nat → Int32) × (Nat → Int32) × (Nat → Int32)) :=
  (fMD_lays t_s t_block t_cost t_first t_wrong).bind fun o1 =>
    (fMD_part (rd t_s (5 : Int32)) (0 : Int32) (rd t_s (0 : Int32))).bind fun o2 =>
      if bIn o2 3125 = true then
        some ((rd o1.2.1 o2), o1.1, o1.2.1, o1.2.2.1, o1.2.2.2)
      else none

-- MD_costsWith
def fMD_costsWith (t_block : Nat → Int32) (t_cost : Nat → Int32) (t_first : Nat → Int32) (t_s : Nat → Int32) (t_wrong : Nat → Int32) (x1 : Int32) (x2 : Int32) : Option (Int32 × (Nat → Int32) × (Nat → Int32) × (Nat → Int32) × (Nat → Int32) × (Nat → Int32)) :=
  if bIn ((6 : Int32) + x1) 30 = true then
    if bIn ((6 : Int32) + x1) 30 = true then
      (fMD_costs (wr t_s ((6 : Int32) + x1) x2) t_block t_cost t_first t_wrong).bind fun o3 =>
        if bIn ((6 : Int32) + x1) 30 = true then
          some (o3.1, o3.2.1, o3.2.2.1, o3.2.2.2.1, (wr (wr t_s ((6 : Int32) + x1) x2) ((6 : Int32) + x1) (rd t_s ((6 : Int32) + x1))), o3.2.2.2.2)
        else none
    else none
  else none

-- MD_bestChange
def fMD_bestChange_70 (k23 : Int32 → Int32 → Int32 → (Nat → Int32) → (Nat → Int32) → (Nat → Int32) → (Nat → Int32) → (Nat → Int32) → Option (Int32 × (Nat → Int32) × (Nat → Int32) × (Nat → Int32) × (Nat → Int32) × (Nat → Int32))) (k37 : Int32 → Int32 → Int32 → Int32 → (Nat → Int32) → (Nat → Int32) → (Nat → Int32) → (Nat → Int32) → (Nat → Int32) → Option (Int32 × (Nat → Int32) × (Nat → Int32) × (Nat → Int32) × (Nat → Int32) × (Nat → Int32))) (x2 : Int32) (x4 : Int32) (x5 : Int32) (x6 : Int32) (s0 : Int32) (t_block : Nat → Int32) (t_cost : Nat → Int32) (t_first : Nat → Int32) (t_s : Nat → Int32) (t_wrong : Nat → Int32) : Option (Int32 × (Nat → Int32) × (Nat → Int32) × (Nat → Int32) × (Nat → Int32) × (Nat → Int32)) :=
    if x2 ≤ x6 then
      k37 x2 s0 x4 (x5 + 1) t_block t_cost t_first t_s t_wrong
    else
      k37 x6 s0 x4 (x5 + 1) t_block t_cost t_first t_s t_wrong
def fMD_bestChange_37 (k23 : Int32 → Int32 → Int32 → (Nat → Int32) → (Nat → Int32) → (Nat → Int32) → (Nat → Int32) → (Nat → Int32) → Option (Int32 × (Nat → Int32) × (Nat → Int32) × (Nat → Int32) × (Nat → Int32) × (Nat → Int32))) : Nat → Int32 → Int32 → Int32 → Int32 → (Nat → Int32) → (Nat → Int32) → (Nat → Int32) → (Nat → Int32) → (Nat → Int32) → Option (Int32 × (Nat → Int32) × (Nat → Int32) × (Nat → Int32) × (Nat → Int32) × (Nat → Int32))
  | 0, _, _, _, _, _, _, _, _, _ => none
  | n + 1, x2, x3, x4, x5, t_block, t_cost, t_first, t_s, t_wrong =>
    if (4 : Int32) ≤ x5 then
      k23 x2 x3 (x4 + 1) t_block t_cost t_first t_s t_wrong
    else
      (fMD_costsWith t_block t_cost t_first t_s t_wrong x4 x5).bind fun o2 =>
        if x2 ≤ o2.1 then
          fMD_bestChange_70 k23 (fMD_bestChange_37 k23 n) x2 x4 x5 o2.1 x3 o2.2.1 o2.2.2.1 o2.2.2.2.1 o2.2.2.2.2.1 o2.2.2.2.2.2
        else
          fMD_bestChange_70 k23 (fMD_bestChange_37 k23 n) x2 x4 x5 o2.1 (((4 : Int32) * x4) + x5) o2.2.1 o2.2.2.1 o2.2.2.2.1 o2.2.2.2.2.1 o2.2.2.2.2.2
def fMD_bestChange_23 (x1 : Int32) : Nat → Int32 → Int32 → Int32 → (Nat → Int32) → (Nat → Int32) → (Nat → Int32) → (Nat → Int32) → (Nat → Int32) → Option (Int32 × (Nat → Int32) × (Nat → Int32) × (Nat → Int32) × (Nat → Int32) × (Nat → Int32))
  | 0, _, _, _, _, _, _, _, _ => none
  | n + 1, x2, x3, x4, t_block, t_cost, t_first, t_s, t_wrong =>
    if (rd t_s (0 : Int32)) ≤ x4 then
      if x3 = (-1000004 : Int32) then
        some ((-1000004 : Int32), t_block, t_cost, t_first, t_s, t_wrong)
      else
        if x1 = 0 then
          some ((x3 / (4 : Int32)), t_block, t_cost, t_first, t_s, t_wrong)
        else
          if x1 = (1 : Int32) then
            some ((x3 - x3 / (4 : Int32) * (4 : Int32)), t_block, t_cost, t_first, t_s, t_wrong)
          else
            some (x2, t_block, t_cost, t_first, t_s, t_wrong)
    else
      fMD_bestChange_37 (fMD_bestChange_23 x1 n) FU x2 x3 x4 (0 : Int32) t_block t_cost t_first t_s t_wrong
def fMD_bestChange (t_block : Nat → Int32) (t_cost : Nat → Int32) (t_first : Nat → Int32) (t_s : Nat → Int32) (t_wrong : Nat → Int32) (x1 : Int32) : Option (Int32 × (Nat → Int32) × (Nat → Int32) × (Nat → Int32) × (Nat → Int32) × (Nat → Int32)) :=
  (fMD_in x1 (0 : Int32) (2 : Int32)).bind fun o9 =>
    if o9 = 0 then
      some ((-1000001 : Int32), t_block, t_cost, t_first, t_s, t_wrong)
    else
      (fMD_costs t_s t_block t_cost t_first t_wrong).bind fun o11 =>
        fMD_bestChange_23 x1 FU o11.1 (-1000004 : Int32) (0 : Int32) o11.2.1 o11.2.2.1 o11.2.2.2.1 t_s o11.2.2.2.2

-- MD_change
def fMD_change (t_states : Int32) (t_begun : Nat → Int32) (t_s : Nat → Int32) (t_was : Nat → Int32) (x1 : Int32) (x2 : Int32) : Option (Int32 × Int32 × (Nat → Int32) × (Nat → Int32) × (Nat → Int32)) :=
  (fMD_in x1 (0 : Int32) ((rd t_s (0 : Int32)) - (1 : Int32))).bind fun o1 =>
    if o1 = 0 then
      some ((-1000001 : Int32), t_states, t_begun, t_s, t_was)
    else
      (fMD_in x2 (0 : Int32) (3 : Int32)).bind fun o3 =>
        if o3 = 0 then
          some ((-1000001 : Int32), t_states, t_begun, t_s, t_was)
        else
          (fMD_keeps t_s t_begun).bind fun o5 =>
            if bIn ((6 : Int32) + x1) 30 = true then
              if bIn ((6 : Int32) + x1) 30 = true then
                (fMD_acted o5 t_states t_was (rd t_s ((6 : Int32) + x1))).bind fun o8 =>
                  some (o8.1, o8.2.1, o5, (wr t_s ((6 : Int32) + x1) x2), o8.2.2)
              else none
            else none

-- MD_writes
def fMD_writes (t_length : Int32) (t_written : Nat → Int32) (x1 : Int32) : Option (Int32 × (Nat → Int32)) :=
  if bIn t_length 400 = true then
    some ((t_length + (1 : Int32)), (wrC t_written t_length ((Int32.toUInt32 x1 % 65536).toInt32)))
  else none

-- MD_number
def fMD_number_17 (x1 : Int32) (t_length : Int32) (t_written : Nat → Int32) : Option (Int32 × (Nat → Int32)) :=
    (fMD_writes t_length t_written ((48 : Int32) + (x1 - x1 / (10 : Int32) * (10 : Int32)))).bind fun o1 =>
      some (o1.1, o1.2)
def fMD_number (t_length : Int32) (t_written : Nat → Int32) (x1 : Int32) : Option (Int32 × (Nat → Int32)) :=
  if x1 ≤ (9 : Int32) then
    fMD_number_17 x1 t_length t_written
  else
    (fMD_writes t_length t_written ((48 : Int32) + (x1 / (10 : Int32)))).bind fun o3 =>
      fMD_number_17 x1 o3.1 o3.2

-- MD_ends
def fMD_ends_9 (t_s : Nat → Int32) (x1 : Int32) (x2 : Int32) (x3 : Int32) : Nat → Int32 → Int32 → (Nat → Int32) → Option (Int32 × (Nat → Int32))
  | 0, _, _, _ => none
  | n + 1, x4, t_length, t_written =>
    if (x2 * x3) ≤ x4 then
      some (t_length, t_written)
    else
      if bIn (((6 : Int32) + x1) + x4) 30 = true then
        if x2 = 0 then none else
          if bIn (((6 : Int32) + x1) + (x4 - x4 / x2 * x2)) 30 = true then
            if (rd t_s (((6 : Int32) + x1) + x4)) = (rd t_s (((6 : Int32) + x1) + (x4 - x4 / x2 * x2))) then
              fMD_ends_9 t_s x1 x2 x3 n (x4 + 1) t_length t_written
            else
              (fMD_writes t_length t_written (91 : Int32)).bind fun o6 =>
                (fMD_number o6.1 o6.2 x4).bind fun o7 =>
                  (fMD_writes o7.1 o7.2 (44 : Int32)).bind fun o8 =>
                    if bIn (((6 : Int32) + x1) + x4) 30 = true then
                      (fMD_writes o8.1 o8.2 ((97 : Int32) + (rd t_s (((6 : Int32) + x1) + x4)))).bind fun o10 =>
                        (fMD_writes o10.1 o10.2 (93 : Int32)).bind fun o11 =>
                          fMD_ends_9 t_s x1 x2 x3 n (x4 + 1) o11.1 o11.2
                    else none
          else none
      else none
def fMD_ends (t_s : Nat → Int32) (t_length : Int32) (t_written : Nat → Int32) (x1 : Int32) (x2 : Int32) (x3 : Int32) : Option (Int32 × (Nat → Int32)) :=
  (fMD_writes t_length t_written (41 : Int32)).bind fun o12 =>
    fMD_ends_9 t_s x1 x2 x3 FU x2 o12.1 o12.2

-- MD_puts
def fMD_puts (t_height : Int32) (t_stack : Nat → Int32) (x1 : Int32) (x2 : Int32) (x3 : Int32) (x4 : Int32) : Option (Int32 × (Nat → Int32)) :=
  if bIn ((4 : Int32) * t_height) 400 = true then
    if bIn (((4 : Int32) * t_height) + (1 : Int32)) 400 = true then
      if bIn (((4 : Int32) * t_height) + (2 : Int32)) 400 = true then
        if bIn (((4 : Int32) * t_height) + (3 : Int32)) 400 = true then
          some ((t_height + (1 : Int32)), (wr (wr (wr (wr t_stack ((4 : Int32) * t_height) x1) (((4 : Int32) * t_height) + (1 : Int32)) x2) (((4 : Int32) * t_height) + (2 : Int32)) x3) (((4 : Int32) * t_height) + (3 : Int32)) x4))
        else none
      else none
    else none
  else none

-- MD_opens
def fMD_opens (t_block : Nat → Int32) (t_first : Nat → Int32) (t_s : Nat → Int32) (t_height : Int32) (t_length : Int32) (t_stack : Nat → Int32) (t_written : Nat → Int32) (x1 : Int32) (x2 : Int32) (x3 : Int32) : Option (Int32 × Int32 × (Nat → Int32) × (Nat → Int32)) :=
  (fMD_part x3 x1 x2).bind fun o1 =>
    if bIn o1 3125 = true then
      (fMD_puts t_height t_stack (0 : Int32) (x1 + (rd t_first o1)) x2 x3).bind fun o3 =>
        if (rd t_first o1) = (1 : Int32) then
          if bIn ((6 : Int32) + x1) 30 = true then
            (fMD_writes t_length t_written ((97 : Int32) + (rd t_s ((6 : Int32) + x1)))).bind fun o14 =>
              some (o3.1, o14.1, o3.2, o14.2)
          else none
        else
          (fMD_part x3 x1 x2).bind fun o5 =>
            if bIn o5 3125 = true then
              if (rd t_block o5) = 0 then none else
                (fMD_number t_length t_written ((rd t_first o1) / (rd t_block o5))).bind fun o8 =>
                  (fMD_writes o8.1 o8.2 (40 : Int32)).bind fun o9 =>
                    if (rd t_block o5) = 0 then none else
                      (fMD_puts o3.1 o3.2 (1 : Int32) x1 (rd t_block o5) ((rd t_first o1) / (rd t_block o5))).bind fun o11 =>
                        (fMD_puts o11.1 o11.2 (0 : Int32) x1 (x1 + (rd t_block o5)) (x3 - (1 : Int32))).bind fun o12 =>
                          some (o12.1, o9.1, o12.2, o9.2)
            else none
    else none

-- MD_describes
def fMD_describes_23 (t_block : Nat → Int32) (t_first : Nat → Int32) (t_s : Nat → Int32) : Nat → Int32 → Int32 → (Nat → Int32) → (Nat → Int32) → Option (Int32 × Int32 × (Nat → Int32) × (Nat → Int32))
  | 0, _, _, _, _ => none
  | n + 1, t_height, t_length, t_stack, t_written =>
    if t_height ≤ 0 then
      some (t_height, t_length, t_stack, t_written)
    else
      if bIn (((4 : Int32) * (t_height - (1 : Int32))) + (1 : Int32)) 400 = true then
        if bIn (((4 : Int32) * (t_height - (1 : Int32))) + (2 : Int32)) 400 = true then
          if bIn (((4 : Int32) * (t_height - (1 : Int32))) + (3 : Int32)) 400 = true then
            if bIn ((4 : Int32) * (t_height - (1 : Int32))) 400 = true then
              if (rd t_stack ((4 : Int32) * (t_height - (1 : Int32)))) = (1 : Int32) then
                (fMD_ends t_s t_length t_written (rd t_stack (((4 : Int32) * (t_height - (1 : Int32))) + (1 : Int32))) (rd t_stack (((4 : Int32) * (t_height - (1 : Int32))) + (2 : Int32))) (rd t_stack (((4 : Int32) * (t_height - (1 : Int32))) + (3 : Int32)))).bind fun o9 =>
                  fMD_describes_23 t_block t_first t_s n (t_height - (1 : Int32)) o9.1 t_stack o9.2
              else
                if (rd t_stack (((4 : Int32) * (t_height - (1 : Int32))) + (2 : Int32))) ≤ (rd t_stack (((4 : Int32) * (t_height - (1 : Int32))) + (1 : Int32))) then
                  fMD_describes_23 t_block t_first t_s n (t_height - (1 : Int32)) t_length t_stack t_written
                else
                  (fMD_opens t_block t_first t_s (t_height - (1 : Int32)) t_length t_stack t_written (rd t_stack (((4 : Int32) * (t_height - (1 : Int32))) + (1 : Int32))) (rd t_stack (((4 : Int32) * (t_height - (1 : Int32))) + (2 : Int32))) (rd t_stack (((4 : Int32) * (t_height - (1 : Int32))) + (3 : Int32)))).bind fun o8 =>
                    fMD_describes_23 t_block t_first t_s n o8.1 o8.2.1 o8.2.2.1 o8.2.2.2
            else none
          else none
        else none
      else none
def fMD_describes (t_block : Nat → Int32) (t_first : Nat → Int32) (t_s : Nat → Int32) (t_stack : Nat → Int32) (t_written : Nat → Int32) (x1 : Int32) (x2 : Int32) : Option (Int32 × Int32 × (Nat → Int32) × (Nat → Int32)) :=
  (fMD_puts (0 : Int32) t_stack (0 : Int32) x1 x2 (rd t_s (5 : Int32))).bind fun o10 =>
    fMD_describes_23 t_block t_first t_s FU o10.1 (0 : Int32) o10.2 t_written

-- MD_isPart
def fMD_isPart (t_s : Nat → Int32) (x1 : Int32) (x2 : Int32) : Option (Int32) :=
  if x1 < 0 then
    some (0 : Int32)
  else
    if x2 ≤ x1 then
      some (0 : Int32)
    else
      if (rd t_s (0 : Int32)) < x2 then
        some (0 : Int32)
      else
        some (1 : Int32)

-- MD_levels
def fMD_levels_119 (k13 : Int32 → Int32 → Int32 → Int32 → Int32 → Option (Int32)) (x3 : Int32) (x4 : Int32) (x5 : Int32) (x6 : Int32) (s0 : Int32) (s1 : Int32) : Option (Int32) :=
    if (s0 + s1) ≤ x3 then
      k13 (s0 + s1) x3 x4 x5 (x6 + 1)
    else
      k13 (s0 + s1) (s0 + s1) x4 x5 (x6 + 1)
def fMD_levels_92 (k13 : Int32 → Int32 → Int32 → Int32 → Int32 → Option (Int32)) (x2 : Int32) (x3 : Int32) (x5 : Int32) (x6 : Int32) (x7 : Int32) (s0 : Int32) (s1 : Int32) : Option (Int32) :=
    if x7 = (40 : Int32) then
      fMD_levels_119 k13 x3 (s0 + s1) x5 x6 x2 (1 : Int32)
    else
      if x7 = (41 : Int32) then
        fMD_levels_119 k13 x3 (s0 + s1) x5 x6 x2 (-1 : Int32)
      else
        fMD_levels_119 k13 x3 (s0 + s1) x5 x6 x2 (0 : Int32)
def fMD_levels_87 (k13 : Int32 → Int32 → Int32 → Int32 → Int32 → Option (Int32)) (x2 : Int32) (x3 : Int32) (x5 : Int32) (x6 : Int32) (x7 : Int32) (s0 : Int32) : Option (Int32) :=
    fMD_levels_92 k13 x2 x3 x5 x6 x7 s0 (1 : Int32)
def fMD_levels_91 (k13 : Int32 → Int32 → Int32 → Int32 → Int32 → Option (Int32)) (x2 : Int32) (x3 : Int32) (x5 : Int32) (x6 : Int32) (x7 : Int32) (s0 : Int32) : Option (Int32) :=
    fMD_levels_92 k13 x2 x3 x5 x6 x7 s0 (0 : Int32)
def fMD_levels_55 (k13 : Int32 → Int32 → Int32 → Int32 → Int32 → Option (Int32)) (x2 : Int32) (x3 : Int32) (x4 : Int32) (x6 : Int32) (x7 : Int32) (s0 : Int32) : Option (Int32) :=
    if x2 = 0 then
      if x7 = (40 : Int32) then
        fMD_levels_87 k13 x2 x3 s0 x6 x7 x4
      else
        (fMD_in x7 (97 : Int32) (100 : Int32)).bind fun o9 =>
          if o9 = 0 then
            fMD_levels_91 k13 x2 x3 s0 x6 x7 x4
          else
            if s0 = 0 then
              fMD_levels_87 k13 x2 x3 s0 x6 x7 x4
            else
              fMD_levels_91 k13 x2 x3 s0 x6 x7 x4
    else
      fMD_levels_91 k13 x2 x3 s0 x6 x7 x4
def fMD_levels_50 (k13 : Int32 → Int32 → Int32 → Int32 → Int32 → Option (Int32)) (x2 : Int32) (x3 : Int32) (x4 : Int32) (x6 : Int32) (x7 : Int32) : Option (Int32) :=
    fMD_levels_55 k13 x2 x3 x4 x6 x7 (1 : Int32)
def fMD_levels_54 (k13 : Int32 → Int32 → Int32 → Int32 → Int32 → Option (Int32)) (x2 : Int32) (x3 : Int32) (x4 : Int32) (x6 : Int32) (x7 : Int32) : Option (Int32) :=
    fMD_levels_55 k13 x2 x3 x4 x6 x7 (0 : Int32)
def fMD_levels_13 (t_length : Int32) (t_written : Nat → Int32) (x1 : Int32) : Nat → Int32 → Int32 → Int32 → Int32 → Int32 → Option (Int32)
  | 0, _, _, _, _, _ => none
  | n + 1, x2, x3, x4, x5, x6 =>
    if t_length ≤ x6 then
      if x1 = 0 then
        some x4
      else
        some x3
    else
      if bIn x6 400 = true then
        if (rd t_written x6) = (91 : Int32) then
          fMD_levels_50 (fMD_levels_13 t_length t_written x1 n) x2 x3 x4 x6 (rd t_written x6)
        else
          if x5 = 0 then
            fMD_levels_54 (fMD_levels_13 t_length t_written x1 n) x2 x3 x4 x6 (rd t_written x6)
          else
            if (rd t_written x6) = (93 : Int32) then
              fMD_levels_54 (fMD_levels_13 t_length t_written x1 n) x2 x3 x4 x6 (rd t_written x6)
            else
              fMD_levels_50 (fMD_levels_13 t_length t_written x1 n) x2 x3 x4 x6 (rd t_written x6)
      else none
def fMD_levels (t_length : Int32) (t_written : Nat → Int32) (x1 : Int32) : Option (Int32) :=
  fMD_levels_13 t_length t_written x1 FU (0 : Int32) (0 : Int32) (0 : Int32) (0 : Int32) (0 : Int32)

-- MD_signs
def fMD_signs_4 (t_length : Int32) (t_written : Nat → Int32) (x1 : Int32) : Nat → Int32 → Int32 → Option (Int32)
  | 0, _, _ => none
  | n + 1, x2, x3 =>
    if t_length ≤ x3 then
      some x2
    else
      if bIn x3 400 = true then
        if (rd t_written x3) = x1 then
          fMD_signs_4 t_length t_written x1 n (x2 + (1 : Int32)) (x3 + 1)
        else
          fMD_signs_4 t_length t_written x1 n (x2 + (0 : Int32)) (x3 + 1)
      else none
def fMD_signs (t_length : Int32) (t_written : Nat → Int32) (x1 : Int32) : Option (Int32) :=
  fMD_signs_4 t_length t_written x1 FU (0 : Int32) (0 : Int32)

-- MD_cheapest
def fMD_cheapest (t_s : Nat → Int32) (t_height : Int32) (t_length : Int32) (t_block : Nat → Int32) (t_cost : Nat → Int32) (t_first : Nat → Int32) (t_stack : Nat → Int32) (t_written : Nat → Int32) (t_wrong : Nat → Int32) (x1 : Int32) (x2 : Int32) (x3 : Int32) : Option (Int32 × Int32 × Int32 × (Nat → Int32) × (Nat → Int32) × (Nat → Int32) × (Nat → Int32) × (Nat → Int32) × (Nat → Int32)) :=
  (fMD_isPart t_s x1 x2).bind fun o1 =>
    if o1 = 0 then
      some ((-1000001 : Int32), t_height, t_length, t_block, t_cost, t_first, t_stack, t_written, t_wrong)
    else
      (fMD_in x3 (0 : Int32) (7 : Int32)).bind fun o3 =>
        if o3 = 0 then
          some ((-1000001 : Int32), t_height, t_length, t_block, t_cost, t_first, t_stack, t_written, t_wrong)
        else
          (fMD_lays t_s t_block t_cost t_first t_wrong).bind fun o5 =>
            (fMD_describes o5.1 o5.2.2.1 t_s t_stack t_written x1 x2).bind fun o6 =>
              (fMD_part (rd t_s (5 : Int32)) x1 x2).bind fun o7 =>
                if x3 = (0 : Int32) then
                  if bIn o7 3125 = true then
                    some ((rd o5.2.1 o7), o6.1, o6.2.1, o5.1, o5.2.1, o5.2.2.1, o6.2.2.1, o6.2.2.2, o5.2.2.2)
                  else none
                else
                  if x3 = (1 : Int32) then
                    (fMD_levels o6.2.1 o6.2.2.2 (0 : Int32)).bind fun o11 =>
                      some (o11, o6.1, o6.2.1, o5.1, o5.2.1, o5.2.2.1, o6.2.2.1, o6.2.2.2, o5.2.2.2)
                  else
                    if x3 = (2 : Int32) then
                      (fMD_levels o6.2.1 o6.2.2.2 (1 : Int32)).bind fun o13 =>
                        some (o13, o6.1, o6.2.1, o5.1, o5.2.1, o5.2.2.1, o6.2.2.1, o6.2.2.2, o5.2.2.2)
                    else
                      if x3 = (3 : Int32) then
                        (fMD_signs o6.2.1 o6.2.2.2 (40 : Int32)).bind fun o15 =>
                          some (o15, o6.1, o6.2.1, o5.1, o5.2.1, o5.2.2.1, o6.2.2.1, o6.2.2.2, o5.2.2.2)
                      else
                        if x3 = (4 : Int32) then
                          (fMD_signs o6.2.1 o6.2.2.2 (91 : Int32)).bind fun o17 =>
                            some (o17, o6.1, o6.2.1, o5.1, o5.2.1, o5.2.2.1, o6.2.2.1, o6.2.2.2, o5.2.2.2)
                        else
                          if x3 = (5 : Int32) then
                            some (o6.2.1, o6.1, o6.2.1, o5.1, o5.2.1, o5.2.2.1, o6.2.2.1, o6.2.2.2, o5.2.2.2)
                          else
                            if x3 = (6 : Int32) then
                              if bIn o7 3125 = true then
                                some ((rd o5.2.2.1 o7), o6.1, o6.2.1, o5.1, o5.2.1, o5.2.2.1, o6.2.2.1, o6.2.2.2, o5.2.2.2)
                              else none
                            else
                              if bIn o7 3125 = true then
                                if (rd o5.2.2.1 o7) = (1 : Int32) then
                                  some ((1 : Int32), o6.1, o6.2.1, o5.1, o5.2.1, o5.2.2.1, o6.2.2.1, o6.2.2.2, o5.2.2.2)
                                else
                                  if bIn o7 3125 = true then
                                    if bIn o7 3125 = true then
                                      if (rd o5.1 o7) = 0 then none else
                                        some (((rd o5.2.2.1 o7) / (rd o5.1 o7)), o6.1, o6.2.1, o5.1, o5.2.1, o5.2.2.1, o6.2.2.1, o6.2.2.2, o5.2.2.2)
                                    else none
                                  else none
                              else none

-- MD_clearText
def fMD_clearText (t_typed : Int32) : Option (Int32 × Int32) :=
  some (t_typed, (0 : Int32))

-- MD_differ
def fMD_differ_8 (t_s : Nat → Int32) (x2 : Int32) (x3 : Int32) : Nat → Int32 → Int32 → Option (Int32)
  | 0, _, _ => none
  | n + 1, x4, x5 =>
    if x2 ≤ x5 then
      some x4
    else
      if bIn ((6 : Int32) + x5) 30 = true then
        if bIn (((6 : Int32) + x5) - x3) 30 = true then
          if (rd t_s ((6 : Int32) + x5)) = (rd t_s (((6 : Int32) + x5) - x3)) then
            fMD_differ_8 t_s x2 x3 n (x4 + (0 : Int32)) (x5 + 1)
          else
            fMD_differ_8 t_s x2 x3 n (x4 + (1 : Int32)) (x5 + 1)
        else none
      else none
def fMD_differ (t_s : Nat → Int32) (x1 : Int32) (x2 : Int32) (x3 : Int32) : Option (Int32) :=
  fMD_differ_8 t_s x2 x3 FU (0 : Int32) (x1 + x3)

-- MD_least
def fMD_least_2 (t_s : Nat → Int32) (x1 : Int32) (x2 : Int32) : Nat → Int32 → Option (Int32)
  | 0, _ => none
  | n + 1, x3 =>
    (fMD_differ t_s x1 x2 x3).bind fun o1 =>
      if o1 ≤ 0 then
        some x3
      else
        fMD_least_2 t_s x1 x2 n (x3 + 1)
def fMD_least (t_s : Nat → Int32) (x1 : Int32) (x2 : Int32) : Option (Int32) :=
  fMD_least_2 t_s x1 x2 FU (1 : Int32)

-- MD_isRun
def fMD_isRun_49 (t_s : Nat → Int32) (x1 : Int32) (x2 : Int32) (x3 : Int32) (s0 : Int32) : Option (Int32) :=
    if s0 = 0 then
      some (0 : Int32)
    else
      if x2 = (rd t_s (0 : Int32)) then
        some (1 : Int32)
      else
        (fMD_differ t_s x1 (x2 + (1 : Int32)) x3).bind fun o3 =>
          if o3 ≤ 0 then
            some (0 : Int32)
          else
            some (1 : Int32)
def fMD_isRun_44 (t_s : Nat → Int32) (x1 : Int32) (x2 : Int32) (x3 : Int32) : Option (Int32) :=
    fMD_isRun_49 t_s x1 x2 x3 (1 : Int32)
def fMD_isRun_48 (t_s : Nat → Int32) (x1 : Int32) (x2 : Int32) (x3 : Int32) : Option (Int32) :=
    fMD_isRun_49 t_s x1 x2 x3 (0 : Int32)
def fMD_isRun_21 (t_s : Nat → Int32) (x1 : Int32) (x2 : Int32) (x3 : Int32) (s0 : Int32) : Option (Int32) :=
    if s0 = 0 then
      fMD_isRun_48 t_s x1 x2 x3
    else
      if x1 = 0 then
        fMD_isRun_44 t_s x1 x2 x3
      else
        (fMD_differ t_s (x1 - (1 : Int32)) x2 x3).bind fun o7 =>
          if o7 ≤ 0 then
            fMD_isRun_48 t_s x1 x2 x3
          else
            fMD_isRun_44 t_s x1 x2 x3
def fMD_isRun (t_s : Nat → Int32) (x1 : Int32) (x2 : Int32) : Option (Int32) :=
  (fMD_least t_s x1 x2).bind fun o9 =>
    if (x2 - x1) < ((2 : Int32) * o9) then
      fMD_isRun_21 t_s x1 x2 o9 (0 : Int32)
    else
      fMD_isRun_21 t_s x1 x2 o9 (1 : Int32)

-- MD_runs
def fMD_runs_18 (t_s : Nat → Int32) (k4 : Int32 → Int32 → Option (Int32)) : Nat → Int32 → Int32 → Int32 → Option (Int32)
  | 0, _, _, _ => none
  | n + 1, x1, x2, x3 =>
    if (rd t_s (0 : Int32)) < x3 then
      k4 x1 (x2 + 1)
    else
      (fMD_isRun t_s x2 x3).bind fun o2 =>
        if o2 = 0 then
          fMD_runs_18 t_s k4 n (x1 + (0 : Int32)) x2 (x3 + 1)
        else
          fMD_runs_18 t_s k4 n (x1 + (1 : Int32)) x2 (x3 + 1)
def fMD_runs_4 (t_s : Nat → Int32) : Nat → Int32 → Int32 → Option (Int32)
  | 0, _, _ => none
  | n + 1, x1, x2 =>
    if (rd t_s (0 : Int32)) ≤ x2 then
      some x1
    else
      fMD_runs_18 t_s (fMD_runs_4 t_s n) FU x1 x2 (x2 + (1 : Int32))
def fMD_runs (t_s : Nat → Int32) : Option (Int32) :=
  fMD_runs_4 t_s FU (0 : Int32) (0 : Int32)

-- MD_count
def fMD_count (t_states : Int32) (t_typed : Int32) (t_s : Nat → Int32) (x1 : Int32) : Option (Int32) :=
  if x1 = (0 : Int32) then
    some (rd t_s (0 : Int32))
  else
    if x1 = (1 : Int32) then
      (fMD_runs t_s).bind fun o3 =>
        some o3
    else
      if x1 = (2 : Int32) then
        some t_states
      else
        if x1 = (3 : Int32) then
          some t_typed
        else
          (fMD_in x1 (20 : Int32) (24 : Int32)).bind fun o6 =>
            if o6 = 0 then
              some (-1000001 : Int32)
            else
              if bIn (((1 : Int32) + x1) - (20 : Int32)) 30 = true then
                some (rd t_s (((1 : Int32) + x1) - (20 : Int32)))
              else none

-- MD_counts
def fMD_counts_79 (x1 : Int32) (x2 : Int32) (x3 : Int32) (k18 : Int64 → Int32 → (Nat → Int64) → Option ((Nat → Int64))) (k35 : Int64 → Int32 → Int32 → (Nat → Int64) → Option ((Nat → Int64))) (x4 : Int64) (x6 : Int32) (x7 : Int32) (s0 : Int32) (t_many : Nat → Int64) : Option ((Nat → Int64)) :=
    if s0 = 0 then
      k35 (x4 + (0 : Int64)) x6 (x7 + 1) t_many
    else
      (fMD_part (x1 - (1 : Int32)) x2 (x2 + x6)).bind fun o9 =>
        if bIn o9 3125 = true then
          (fMD_part x1 (x2 + (x7 * x6)) x3).bind fun o11 =>
            if bIn o11 3125 = true then
              k35 (x4 + ((rdL t_many o9) * (rdL t_many o11))) x6 (x7 + 1) t_many
            else none
        else none
def fMD_counts_35 (t_s : Nat → Int32) (t_wrong : Nat → Int32) (x1 : Int32) (x2 : Int32) (x3 : Int32) (k18 : Int64 → Int32 → (Nat → Int64) → Option ((Nat → Int64))) : Nat → Int64 → Int32 → Int32 → (Nat → Int64) → Option ((Nat → Int64))
  | 0, _, _, _, _ => none
  | n + 1, x4, x6, x7, t_many =>
    if x3 < (x2 + (x7 * x6)) then
      k18 x4 (x6 + 1) t_many
    else
      if bIn ((((625 : Int32) * x2) + ((25 : Int32) * x6)) + x7) 15625 = true then
        if (rd t_s (4 : Int32)) < (rd t_wrong ((((625 : Int32) * x2) + ((25 : Int32) * x6)) + x7)) then
          fMD_counts_79 x1 x2 x3 k18 (fMD_counts_35 t_s t_wrong x1 x2 x3 k18 n) x4 x6 x7 (0 : Int32) t_many
        else
          fMD_counts_79 x1 x2 x3 k18 (fMD_counts_35 t_s t_wrong x1 x2 x3 k18 n) x4 x6 x7 (1 : Int32) t_many
      else none
def fMD_counts_141 (x1 : Int32) (x2 : Int32) (x3 : Int32) (x4 : Int64) (t_many : Nat → Int64) : Option ((Nat → Int64)) :=
    (fMD_part x1 x2 x3).bind fun o6 =>
      if bIn o6 3125 = true then
        some (wrL t_many o6 x4)
      else none
def fMD_counts_18 (t_s : Nat → Int32) (t_wrong : Nat → Int32) (x1 : Int32) (x2 : Int32) (x3 : Int32) : Nat → Int64 → Int32 → (Nat → Int64) → Option ((Nat → Int64))
  | 0, _, _, _ => none
  | n + 1, x4, x6, t_many =>
    if x3 < (x2 + ((2 : Int32) * x6)) then
      fMD_counts_141 x1 x2 x3 x4 t_many
    else
      if x1 ≤ 0 then
        fMD_counts_141 x1 x2 x3 x4 t_many
      else
        fMD_counts_35 t_s t_wrong x1 x2 x3 (fMD_counts_18 t_s t_wrong x1 x2 x3 n) FU x4 x6 (2 : Int32) t_many
def fMD_counts (t_s : Nat → Int32) (t_wrong : Nat → Int32) (t_many : Nat → Int64) (x1 : Int32) (x2 : Int32) (x3 : Int32) : Option ((Nat → Int64)) :=
  (fMD_part x1 (x2 + (1 : Int32)) x3).bind fun o13 =>
    if bIn o13 3125 = true then
      fMD_counts_18 t_s t_wrong x1 x2 x3 FU (rdL t_many o13) (1 : Int32) t_many
    else none

-- MD_cut
def fMD_cut (t_states : Int32) (t_begun : Nat → Int32) (t_s : Nat → Int32) (t_was : Nat → Int32) (x1 : Int32) : Option (Int32 × Int32 × (Nat → Int32) × (Nat → Int32) × (Nat → Int32)) :=
  (fMD_in x1 (1 : Int32) (24 : Int32)).bind fun o1 =>
    if o1 = 0 then
      some ((-1000001 : Int32), t_states, t_begun, t_s, t_was)
    else
      if x1 ≤ (rd t_s (0 : Int32)) then
        (fMD_keeps t_s t_begun).bind fun o4 =>
          (fMD_acted o4 t_states t_was (rd (wr t_s (0 : Int32) ((rd t_s (0 : Int32)) - x1)) (0 : Int32))).bind fun o5 =>
            some (o5.1, o5.2.1, o4, (wr t_s (0 : Int32) ((rd t_s (0 : Int32)) - x1)), o5.2.2)
      else
        some ((-1000002 : Int32), t_states, t_begun, t_s, t_was)

-- MD_descriptions
def fMD_descriptions_62 (t_s : Nat → Int32) (k19 : Int32 → (Nat → Int64) → (Nat → Int32) → Option (Int64 × (Nat → Int64) × (Nat → Int32))) (k37 : Int32 → Int32 → (Nat → Int64) → (Nat → Int32) → Option (Int64 × (Nat → Int64) × (Nat → Int32))) : Nat → Int32 → Int32 → Int32 → (Nat → Int64) → (Nat → Int32) → Option (Int64 × (Nat → Int64) × (Nat → Int32))
  | 0, _, _, _, _, _ => none
  | n + 1, x3, x4, x5, t_many, t_wrong =>
    if (rd t_s (0 : Int32)) < x5 then
      k37 x3 (x4 + (-1)) t_many t_wrong
    else
      (fMD_counts t_s t_wrong t_many x3 x4 x5).bind fun o8 =>
        fMD_descriptions_62 t_s k19 k37 n x3 x4 (x5 + 1) o8 t_wrong
def fMD_descriptions_37 (t_s : Nat → Int32) (k19 : Int32 → (Nat → Int64) → (Nat → Int32) → Option (Int64 × (Nat → Int64) × (Nat → Int32))) : Nat → Int32 → Int32 → (Nat → Int64) → (Nat → Int32) → Option (Int64 × (Nat → Int64) × (Nat → Int32))
  | 0, _, _, _, _ => none
  | n + 1, x3, x4, t_many, t_wrong =>
    if x4 < 0 then
      k19 (x3 + 1) t_many t_wrong
    else
      (fMD_part x3 x4 x4).bind fun o5 =>
        if bIn o5 3125 = true then
          fMD_descriptions_62 t_s k19 (fMD_descriptions_37 t_s k19 n) FU x3 x4 (x4 + (1 : Int32)) (wrL t_many o5 (1 : Int64)) t_wrong
        else none
def fMD_descriptions_19 (t_s : Nat → Int32) (x1 : Int32) (x2 : Int32) : Nat → Int32 → (Nat → Int64) → (Nat → Int32) → Option (Int64 × (Nat → Int64) × (Nat → Int32))
  | 0, _, _, _ => none
  | n + 1, x3, t_many, t_wrong =>
    if (rd t_s (5 : Int32)) < x3 then
      (fMD_part (rd t_s (5 : Int32)) x1 x2).bind fun o2 =>
        if bIn o2 3125 = true then
          some ((rdL t_many o2), t_many, t_wrong)
        else none
    else
      fMD_descriptions_37 t_s (fMD_descriptions_19 t_s x1 x2 n) FU x3 (rd t_s (0 : Int32)) t_many t_wrong
def fMD_descriptions (t_s : Nat → Int32) (t_many : Nat → Int64) (t_wrong : Nat → Int32) (x1 : Int32) (x2 : Int32) : Option (Int64 × (Nat → Int64) × (Nat → Int32)) :=
  (fMD_isPart t_s x1 x2).bind fun o9 =>
    if o9 = 0 then
      some ((-1000001 : Int64), t_many, t_wrong)
    else
      (fMD_corrects t_s t_wrong).bind fun o11 =>
        fMD_descriptions_19 t_s x1 x2 FU (0 : Int32) t_many o11

-- MD_fault
def fMD_fault (t_typed : Int32) (t_text : Nat → Int32) (t_at : Int32) (t_ownLength : Int32) (t_depth : Int32) (t_deepest : Int32) (t_letters : Int32) (t_repeats : Int32) (t_corrections : Int32) (t_mostCorrections : Int32) (t_place : Int32) (t_reason : Int32) (t_itemAt : Nat → Int32) (t_levelAt : Nat → Int32) (t_own : Nat → Int32) (t_times : Nat → Int32) (x1 : Int32) : Option (Int32 × Int32 × Int32 × Int32 × Int32 × Int32 × Int32 × Int32 × Int32 × Int32 × Int32 × (Nat → Int32) × (Nat → Int32) × (Nat → Int32) × (Nat → Int32)) :=
  (fMD_in x1 (0 : Int32) (1 : Int32)).bind fun o1 =>
    if o1 = 0 then
      some ((-1000001 : Int32), t_at, t_ownLength, t_depth, t_deepest, t_letters, t_repeats, t_corrections, t_mostCorrections, t_place, t_reason, t_itemAt, t_levelAt, t_own, t_times)
    else
      (fMD_reads t_typed t_text t_place t_reason t_itemAt t_levelAt t_own t_times).bind fun o3 =>
        if o3.1 = 0 then
          if x1 = 0 then
            some (o3.2.2.2.2.2.2.2.2.2.1, o3.2.1, o3.2.2.1, o3.2.2.2.1, o3.2.2.2.2.1, o3.2.2.2.2.2.1, o3.2.2.2.2.2.2.1, o3.2.2.2.2.2.2.2.1, o3.2.2.2.2.2.2.2.2.1, o3.2.2.2.2.2.2.2.2.2.1, o3.2.2.2.2.2.2.2.2.2.2.1, o3.2.2.2.2.2.2.2.2.2.2.2.1, o3.2.2.2.2.2.2.2.2.2.2.2.2.1, o3.2.2.2.2.2.2.2.2.2.2.2.2.2.1, o3.2.2.2.2.2.2.2.2.2.2.2.2.2.2)
          else
            some (o3.2.2.2.2.2.2.2.2.2.2.1, o3.2.1, o3.2.2.1, o3.2.2.2.1, o3.2.2.2.2.1, o3.2.2.2.2.2.1, o3.2.2.2.2.2.2.1, o3.2.2.2.2.2.2.2.1, o3.2.2.2.2.2.2.2.2.1, o3.2.2.2.2.2.2.2.2.2.1, o3.2.2.2.2.2.2.2.2.2.2.1, o3.2.2.2.2.2.2.2.2.2.2.2.1, o3.2.2.2.2.2.2.2.2.2.2.2.2.1, o3.2.2.2.2.2.2.2.2.2.2.2.2.2.1, o3.2.2.2.2.2.2.2.2.2.2.2.2.2.2)
        else
          some ((-1000004 : Int32), o3.2.1, o3.2.2.1, o3.2.2.2.1, o3.2.2.2.2.1, o3.2.2.2.2.2.1, o3.2.2.2.2.2.2.1, o3.2.2.2.2.2.2.2.1, o3.2.2.2.2.2.2.2.2.1, o3.2.2.2.2.2.2.2.2.2.1, o3.2.2.2.2.2.2.2.2.2.2.1, o3.2.2.2.2.2.2.2.2.2.2.2.1, o3.2.2.2.2.2.2.2.2.2.2.2.2.1, o3.2.2.2.2.2.2.2.2.2.2.2.2.2.1, o3.2.2.2.2.2.2.2.2.2.2.2.2.2.2)

-- MD_isRow
def fMD_isRow_21 (t_own : Nat → Int32) (t_s : Nat → Int32) : Nat → Int32 → Int32 → Option (Int32)
  | 0, _, _ => none
  | n + 1, x1, x2 =>
    if (rd t_s (0 : Int32)) ≤ x2 then
      if x1 = 0 ∨ x1 = 1 then
        some x1
      else none
    else
      if x1 = 0 then
        if x1 = 0 ∨ x1 = 1 then
          some x1
        else none
      else
        if bIn x2 1500 = true then
          if bIn ((6 : Int32) + x2) 30 = true then
            if (rd t_own x2) = (rd t_s ((6 : Int32) + x2)) then
              fMD_isRow_21 t_own t_s n (1 : Int32) (x2 + 1)
            else
              fMD_isRow_21 t_own t_s n (0 : Int32) (x2 + 1)
          else none
        else none
def fMD_isRow (t_ownLength : Int32) (t_own : Nat → Int32) (t_s : Nat → Int32) : Option (Int32) :=
  if t_ownLength = (rd t_s (0 : Int32)) then
    fMD_isRow_21 t_own t_s FU (1 : Int32) (0 : Int32)
  else
    fMD_isRow_21 t_own t_s FU (0 : Int32) (0 : Int32)

-- MD_isSetting
def fMD_isSetting (x0 : Int32) (x1 : Int32) : Option (Int32) :=
  if x0 = (0 : Int32) then
    (fMD_in x1 (1 : Int32) (9 : Int32)).bind fun o2 =>
      if o2 = 0 ∨ o2 = 1 then
        some o2
      else none
  else
    if x0 = (1 : Int32) then
      (fMD_in x1 (0 : Int32) (20 : Int32)).bind fun o5 =>
        if o5 = 0 ∨ o5 = 1 then
          some o5
        else none
    else
      if x0 = (2 : Int32) then
        (fMD_in x1 (0 : Int32) (20 : Int32)).bind fun o8 =>
          if o8 = 0 ∨ o8 = 1 then
            some o8
          else none
      else
        if x0 = (3 : Int32) then
          (fMD_in x1 (0 : Int32) (6 : Int32)).bind fun o11 =>
            if o11 = 0 ∨ o11 = 1 then
              some o11
            else none
        else
          if x0 = (4 : Int32) then
            (fMD_in x1 (0 : Int32) (4 : Int32)).bind fun o14 =>
              if o14 = 0 ∨ o14 = 1 then
                some o14
              else none
          else
            some (0 : Int32)

-- MD_letterAt
def fMD_letterAt (t_s : Nat → Int32) (x1 : Int32) : Option (Int32) :=
  if 0 ≤ x1 then
    if (rd t_s (0 : Int32)) ≤ x1 then
      some (-1000004 : Int32)
    else
      if bIn ((6 : Int32) + x1) 30 = true then
        some (rd t_s ((6 : Int32) + x1))
      else none
  else
    some (-1000001 : Int32)

-- MD_period
def fMD_period (t_s : Nat → Int32) (x1 : Int32) (x2 : Int32) : Option (Int32) :=
  (fMD_isPart t_s x1 x2).bind fun o1 =>
    if o1 = 0 then
      some (-1000001 : Int32)
    else
      (fMD_least t_s x1 x2).bind fun o3 =>
        some o3

-- MD_runOf
def fMD_runOf_104 (k26 : Int32 → Int32 → Option (Int32)) (k34 : Int32 → Int32 → Int32 → Option (Int32)) (x3 : Int32) (x4 : Int32) (x5 : Int32) (x6 : Int32) : Option (Int32) :=
    if x6 = 0 then
      k34 (x3 - (0 : Int32)) x4 (x5 + 1)
    else
      k34 (x3 - (1 : Int32)) x4 (x5 + 1)
def fMD_runOf_34 (t_s : Nat → Int32) (x2 : Int32) (k26 : Int32 → Int32 → Option (Int32)) : Nat → Int32 → Int32 → Int32 → Option (Int32)
  | 0, _, _, _ => none
  | n + 1, x3, x4, x5 =>
    if (rd t_s (0 : Int32)) < (x5 + x4) then
      k26 x3 (x4 + (-1))
    else
      (fMD_isRun t_s x5 (x5 + x4)).bind fun o4 =>
        if o4 = 0 then
          fMD_runOf_104 k26 (fMD_runOf_34 t_s x2 k26 n) x3 x4 x5 o4
        else
          if x3 = 0 then
            if x2 = 0 then
              some x5
            else
              if x2 = (1 : Int32) then
                some (x5 + x4)
              else
                (fMD_least t_s x5 (x5 + x4)).bind fun o9 =>
                  some o9
          else
            fMD_runOf_104 k26 (fMD_runOf_34 t_s x2 k26 n) x3 x4 x5 o4
def fMD_runOf_26 (t_s : Nat → Int32) (x2 : Int32) : Nat → Int32 → Int32 → Option (Int32)
  | 0, _, _ => none
  | n + 1, x3, x4 =>
    if x4 ≤ 0 then
      some (-1000004 : Int32)
    else
      fMD_runOf_34 t_s x2 (fMD_runOf_26 t_s x2 n) FU x3 x4 (0 : Int32)
def fMD_runOf (t_s : Nat → Int32) (x1 : Int32) (x2 : Int32) : Option (Int32) :=
  if x1 < 0 then
    some (-1000001 : Int32)
  else
    (fMD_in x2 (0 : Int32) (2 : Int32)).bind fun o11 =>
      if o11 = 0 then
        some (-1000001 : Int32)
      else
        fMD_runOf_26 t_s x2 FU x1 (rd t_s (0 : Int32))

-- MD_set
def fMD_set (t_states : Int32) (t_begun : Nat → Int32) (t_s : Nat → Int32) (t_was : Nat → Int32) (x1 : Int32) (x2 : Int32) : Option (Int32 × Int32 × (Nat → Int32) × (Nat → Int32) × (Nat → Int32)) :=
  (fMD_isSetting x1 x2).bind fun o1 =>
    if o1 = 0 then
      some ((-1000001 : Int32), t_states, t_begun, t_s, t_was)
    else
      (fMD_keeps t_s t_begun).bind fun o3 =>
        if bIn ((1 : Int32) + x1) 30 = true then
          if bIn ((1 : Int32) + x1) 30 = true then
            (fMD_acted o3 t_states t_was (rd t_s ((1 : Int32) + x1))).bind fun o6 =>
              some (o6.1, o6.2.1, o3, (wr t_s ((1 : Int32) + x1) x2), o6.2.2)
          else none
        else none

-- MD_textAt
def fMD_textAt (t_s : Nat → Int32) (t_height : Int32) (t_length : Int32) (t_block : Nat → Int32) (t_cost : Nat → Int32) (t_first : Nat → Int32) (t_stack : Nat → Int32) (t_written : Nat → Int32) (t_wrong : Nat → Int32) (x1 : Int32) : Option (Int32 × Int32 × Int32 × (Nat → Int32) × (Nat → Int32) × (Nat → Int32) × (Nat → Int32) × (Nat → Int32) × (Nat → Int32)) :=
  if 0 ≤ x1 then
    (fMD_lays t_s t_block t_cost t_first t_wrong).bind fun o2 =>
      (fMD_describes o2.1 o2.2.2.1 t_s t_stack t_written (0 : Int32) (rd t_s (0 : Int32))).bind fun o3 =>
        if o3.2.1 ≤ x1 then
          some ((-1000004 : Int32), o3.1, o3.2.1, o2.1, o2.2.1, o2.2.2.1, o3.2.2.1, o3.2.2.2, o2.2.2.2)
        else
          if bIn x1 400 = true then
            some ((rd o3.2.2.2 x1), o3.1, o3.2.1, o2.1, o2.2.1, o2.2.2.1, o3.2.2.1, o3.2.2.2, o2.2.2.2)
          else none
  else
    some ((-1000001 : Int32), t_height, t_length, t_block, t_cost, t_first, t_stack, t_written, t_wrong)

-- MD_told
def fMD_told_23 (t_typed : Int32) (t_s : Nat → Int32) (t_text : Nat → Int32) (x1 : Int32) (t_at : Int32) (t_ownLength : Int32) (t_depth : Int32) (t_deepest : Int32) (t_letters : Int32) (t_repeats : Int32) (t_corrections : Int32) (t_mostCorrections : Int32) (t_place : Int32) (t_reason : Int32) (t_itemAt : Nat → Int32) (t_levelAt : Nat → Int32) (t_own : Nat → Int32) (t_times : Nat → Int32) : Option (Int32 × Int32 × Int32 × Int32 × Int32 × Int32 × Int32 × Int32 × Int32 × Int32 × Int32 × (Nat → Int32) × (Nat → Int32) × (Nat → Int32) × (Nat → Int32)) :=
    (fMD_reads t_typed t_text t_place t_reason t_itemAt t_levelAt t_own t_times).bind fun o1 =>
      if o1.1 = 0 then
        some ((-1000002 : Int32), o1.2.1, o1.2.2.1, o1.2.2.2.1, o1.2.2.2.2.1, o1.2.2.2.2.2.1, o1.2.2.2.2.2.2.1, o1.2.2.2.2.2.2.2.1, o1.2.2.2.2.2.2.2.2.1, o1.2.2.2.2.2.2.2.2.2.1, o1.2.2.2.2.2.2.2.2.2.2.1, o1.2.2.2.2.2.2.2.2.2.2.2.1, o1.2.2.2.2.2.2.2.2.2.2.2.2.1, o1.2.2.2.2.2.2.2.2.2.2.2.2.2.1, o1.2.2.2.2.2.2.2.2.2.2.2.2.2.2)
      else
        if x1 = (0 : Int32) then
          some ((((o1.2.2.2.2.2.1 * (rd t_s (1 : Int32))) + (o1.2.2.2.2.2.2.1 * (rd t_s (2 : Int32)))) + (o1.2.2.2.2.2.2.2.1 * (rd t_s (3 : Int32)))), o1.2.1, o1.2.2.1, o1.2.2.2.1, o1.2.2.2.2.1, o1.2.2.2.2.2.1, o1.2.2.2.2.2.2.1, o1.2.2.2.2.2.2.2.1, o1.2.2.2.2.2.2.2.2.1, o1.2.2.2.2.2.2.2.2.2.1, o1.2.2.2.2.2.2.2.2.2.2.1, o1.2.2.2.2.2.2.2.2.2.2.2.1, o1.2.2.2.2.2.2.2.2.2.2.2.2.1, o1.2.2.2.2.2.2.2.2.2.2.2.2.2.1, o1.2.2.2.2.2.2.2.2.2.2.2.2.2.2)
        else
          if x1 = (1 : Int32) then
            some (o1.2.2.1, o1.2.1, o1.2.2.1, o1.2.2.2.1, o1.2.2.2.2.1, o1.2.2.2.2.2.1, o1.2.2.2.2.2.2.1, o1.2.2.2.2.2.2.2.1, o1.2.2.2.2.2.2.2.2.1, o1.2.2.2.2.2.2.2.2.2.1, o1.2.2.2.2.2.2.2.2.2.2.1, o1.2.2.2.2.2.2.2.2.2.2.2.1, o1.2.2.2.2.2.2.2.2.2.2.2.2.1, o1.2.2.2.2.2.2.2.2.2.2.2.2.2.1, o1.2.2.2.2.2.2.2.2.2.2.2.2.2.2)
          else
            if x1 = (2 : Int32) then
              some (o1.2.2.2.2.1, o1.2.1, o1.2.2.1, o1.2.2.2.1, o1.2.2.2.2.1, o1.2.2.2.2.2.1, o1.2.2.2.2.2.2.1, o1.2.2.2.2.2.2.2.1, o1.2.2.2.2.2.2.2.2.1, o1.2.2.2.2.2.2.2.2.2.1, o1.2.2.2.2.2.2.2.2.2.2.1, o1.2.2.2.2.2.2.2.2.2.2.2.1, o1.2.2.2.2.2.2.2.2.2.2.2.2.1, o1.2.2.2.2.2.2.2.2.2.2.2.2.2.1, o1.2.2.2.2.2.2.2.2.2.2.2.2.2.2)
            else
              if x1 = (3 : Int32) then
                some (o1.2.2.2.2.2.2.2.1, o1.2.1, o1.2.2.1, o1.2.2.2.1, o1.2.2.2.2.1, o1.2.2.2.2.2.1, o1.2.2.2.2.2.2.1, o1.2.2.2.2.2.2.2.1, o1.2.2.2.2.2.2.2.2.1, o1.2.2.2.2.2.2.2.2.2.1, o1.2.2.2.2.2.2.2.2.2.2.1, o1.2.2.2.2.2.2.2.2.2.2.2.1, o1.2.2.2.2.2.2.2.2.2.2.2.2.1, o1.2.2.2.2.2.2.2.2.2.2.2.2.2.1, o1.2.2.2.2.2.2.2.2.2.2.2.2.2.2)
              else
                if x1 = (4 : Int32) then
                  some (o1.2.2.2.2.2.2.2.2.1, o1.2.1, o1.2.2.1, o1.2.2.2.1, o1.2.2.2.2.1, o1.2.2.2.2.2.1, o1.2.2.2.2.2.2.1, o1.2.2.2.2.2.2.2.1, o1.2.2.2.2.2.2.2.2.1, o1.2.2.2.2.2.2.2.2.2.1, o1.2.2.2.2.2.2.2.2.2.2.1, o1.2.2.2.2.2.2.2.2.2.2.2.1, o1.2.2.2.2.2.2.2.2.2.2.2.2.1, o1.2.2.2.2.2.2.2.2.2.2.2.2.2.1, o1.2.2.2.2.2.2.2.2.2.2.2.2.2.2)
                else
                  if x1 = (5 : Int32) then
                    (fMD_isRow o1.2.2.1 o1.2.2.2.2.2.2.2.2.2.2.2.2.2.1 t_s).bind fun o9 =>
                      if o9 = 0 then
                        some ((0 : Int32), o1.2.1, o1.2.2.1, o1.2.2.2.1, o1.2.2.2.2.1, o1.2.2.2.2.2.1, o1.2.2.2.2.2.2.1, o1.2.2.2.2.2.2.2.1, o1.2.2.2.2.2.2.2.2.1, o1.2.2.2.2.2.2.2.2.2.1, o1.2.2.2.2.2.2.2.2.2.2.1, o1.2.2.2.2.2.2.2.2.2.2.2.1, o1.2.2.2.2.2.2.2.2.2.2.2.2.1, o1.2.2.2.2.2.2.2.2.2.2.2.2.2.1, o1.2.2.2.2.2.2.2.2.2.2.2.2.2.2)
                      else
                        some ((1 : Int32), o1.2.1, o1.2.2.1, o1.2.2.2.1, o1.2.2.2.2.1, o1.2.2.2.2.2.1, o1.2.2.2.2.2.2.1, o1.2.2.2.2.2.2.2.1, o1.2.2.2.2.2.2.2.2.1, o1.2.2.2.2.2.2.2.2.2.1, o1.2.2.2.2.2.2.2.2.2.2.1, o1.2.2.2.2.2.2.2.2.2.2.2.1, o1.2.2.2.2.2.2.2.2.2.2.2.2.1, o1.2.2.2.2.2.2.2.2.2.2.2.2.2.1, o1.2.2.2.2.2.2.2.2.2.2.2.2.2.2)
                  else
                    if o1.2.2.1 ≤ (x1 - (100 : Int32)) then
                      some ((-1000004 : Int32), o1.2.1, o1.2.2.1, o1.2.2.2.1, o1.2.2.2.2.1, o1.2.2.2.2.2.1, o1.2.2.2.2.2.2.1, o1.2.2.2.2.2.2.2.1, o1.2.2.2.2.2.2.2.2.1, o1.2.2.2.2.2.2.2.2.2.1, o1.2.2.2.2.2.2.2.2.2.2.1, o1.2.2.2.2.2.2.2.2.2.2.2.1, o1.2.2.2.2.2.2.2.2.2.2.2.2.1, o1.2.2.2.2.2.2.2.2.2.2.2.2.2.1, o1.2.2.2.2.2.2.2.2.2.2.2.2.2.2)
                    else
                      if bIn (x1 - (100 : Int32)) 1500 = true then
                        some ((rd o1.2.2.2.2.2.2.2.2.2.2.2.2.2.1 (x1 - (100 : Int32))), o1.2.1, o1.2.2.1, o1.2.2.2.1, o1.2.2.2.2.1, o1.2.2.2.2.2.1, o1.2.2.2.2.2.2.1, o1.2.2.2.2.2.2.2.1, o1.2.2.2.2.2.2.2.2.1, o1.2.2.2.2.2.2.2.2.2.1, o1.2.2.2.2.2.2.2.2.2.2.1, o1.2.2.2.2.2.2.2.2.2.2.2.1, o1.2.2.2.2.2.2.2.2.2.2.2.2.1, o1.2.2.2.2.2.2.2.2.2.2.2.2.2.1, o1.2.2.2.2.2.2.2.2.2.2.2.2.2.2)
                      else none
def fMD_told (t_typed : Int32) (t_s : Nat → Int32) (t_text : Nat → Int32) (t_at : Int32) (t_ownLength : Int32) (t_depth : Int32) (t_deepest : Int32) (t_letters : Int32) (t_repeats : Int32) (t_corrections : Int32) (t_mostCorrections : Int32) (t_place : Int32) (t_reason : Int32) (t_itemAt : Nat → Int32) (t_levelAt : Nat → Int32) (t_own : Nat → Int32) (t_times : Nat → Int32) (x1 : Int32) : Option (Int32 × Int32 × Int32 × Int32 × Int32 × Int32 × Int32 × Int32 × Int32 × Int32 × Int32 × (Nat → Int32) × (Nat → Int32) × (Nat → Int32) × (Nat → Int32)) :=
  (fMD_in x1 (0 : Int32) (5 : Int32)).bind fun o13 =>
    if o13 = 0 then
      (fMD_in x1 (100 : Int32) (123 : Int32)).bind fun o15 =>
        if o15 = 0 then
          some ((-1000001 : Int32), t_at, t_ownLength, t_depth, t_deepest, t_letters, t_repeats, t_corrections, t_mostCorrections, t_place, t_reason, t_itemAt, t_levelAt, t_own, t_times)
        else
          fMD_told_23 t_typed t_s t_text x1 t_at t_ownLength t_depth t_deepest t_letters t_repeats t_corrections t_mostCorrections t_place t_reason t_itemAt t_levelAt t_own t_times
    else
      fMD_told_23 t_typed t_s t_text x1 t_at t_ownLength t_depth t_deepest t_letters t_repeats t_corrections t_mostCorrections t_place t_reason t_itemAt t_levelAt t_own t_times

-- MD_turn
def fMD_turn_20  : Nat → Int32 → Int32 → Int32 → (Nat → Int32) → (Nat → Int32) → (Nat → Int32) → Option (Int32 × Int32 × (Nat → Int32) × (Nat → Int32) × (Nat → Int32))
  | 0, _, _, _, _, _, _ => none
  | n + 1, x1, x2, t_states, t_begun, t_s, t_was =>
    if x1 ≤ x2 then
      (fMD_acted t_begun t_states t_was (rd t_s (6 : Int32))).bind fun o2 =>
        some (o2.1, o2.2.1, t_begun, t_s, o2.2.2)
    else
      if bIn ((((6 : Int32) + x1) - (1 : Int32)) - x2) 30 = true then
        if bIn ((6 : Int32) + x2) 30 = true then
          fMD_turn_20 n x1 (x2 + 1) t_states t_begun (wr t_s ((6 : Int32) + x2) (rd t_begun ((((6 : Int32) + x1) - (1 : Int32)) - x2))) t_was
        else none
      else none
def fMD_turn (t_states : Int32) (t_begun : Nat → Int32) (t_s : Nat → Int32) (t_was : Nat → Int32) : Option (Int32 × Int32 × (Nat → Int32) × (Nat → Int32) × (Nat → Int32)) :=
  if (rd t_s (0 : Int32)) = 0 then
    some ((-1000002 : Int32), t_states, t_begun, t_s, t_was)
  else
    (fMD_keeps t_s t_begun).bind fun o6 =>
      fMD_turn_20 FU (rd t_s (0 : Int32)) (0 : Int32) t_states o6 t_s t_was

-- MD_type
def fMD_type (t_typed : Int32) (t_text : Nat → Int32) (x1 : Int32) : Option (Int32 × Int32 × (Nat → Int32)) :=
  (fMD_in x1 (32 : Int32) (126 : Int32)).bind fun o1 =>
    if o1 = 0 then
      some ((-1000001 : Int32), t_typed, t_text)
    else
      if t_typed = (60 : Int32) then
        some ((-1000003 : Int32), t_typed, t_text)
      else
        if bIn t_typed 60 = true then
          some ((t_typed + (1 : Int32)), (t_typed + (1 : Int32)), (wrC t_text t_typed ((Int32.toUInt32 x1 % 65536).toInt32)))
        else none

-- MD_undo
def fMD_undo_22 (t_was : Nat → Int32) : Nat → Int32 → Int32 → (Nat → Int32) → Option (Int32 × Int32 × (Nat → Int32))
  | 0, _, _, _ => none
  | n + 1, x1, t_states, t_s =>
    if (30 : Int32) ≤ x1 then
      some (t_states, t_states, t_s)
    else
      if bIn (((30 : Int32) * t_states) + x1) 120 = true then
        if bIn x1 30 = true then
          fMD_undo_22 t_was n (x1 + 1) t_states (wr t_s x1 (rd t_was (((30 : Int32) * t_states) + x1)))
        else none
      else none
def fMD_undo (t_was : Nat → Int32) (t_states : Int32) (t_s : Nat → Int32) : Option (Int32 × Int32 × (Nat → Int32)) :=
  if t_states = 0 then
    some ((-1000002 : Int32), t_states, t_s)
  else
    fMD_undo_22 t_was FU (0 : Int32) (t_states - (1 : Int32)) t_s

-- MD_unlike
def fMD_unlike (t_s : Nat → Int32) (x1 : Int32) (x2 : Int32) (x3 : Int32) : Option (Int32) :=
  (fMD_isPart t_s x1 x2).bind fun o1 =>
    if o1 = 0 then
      some (-1000001 : Int32)
    else
      (fMD_in x3 (1 : Int32) (24 : Int32)).bind fun o3 =>
        if o3 = 0 then
          some (-1000001 : Int32)
        else
          (fMD_differ t_s x1 x2 x3).bind fun o5 =>
            some o5

-- MD_would
def fMD_would (t_block : Nat → Int32) (t_cost : Nat → Int32) (t_first : Nat → Int32) (t_s : Nat → Int32) (t_wrong : Nat → Int32) (x1 : Int32) (x2 : Int32) : Option (Int32 × (Nat → Int32) × (Nat → Int32) × (Nat → Int32) × (Nat → Int32) × (Nat → Int32)) :=
  (fMD_in x1 (0 : Int32) ((rd t_s (0 : Int32)) - (1 : Int32))).bind fun o1 =>
    if o1 = 0 then
      some ((-1000001 : Int32), t_block, t_cost, t_first, t_s, t_wrong)
    else
      (fMD_in x2 (0 : Int32) (3 : Int32)).bind fun o3 =>
        if o3 = 0 then
          some ((-1000001 : Int32), t_block, t_cost, t_first, t_s, t_wrong)
        else
          (fMD_costsWith t_block t_cost t_first t_s t_wrong x1 x2).bind fun o5 =>
            some (o5.1, o5.2.1, o5.2.2.1, o5.2.2.2.1, o5.2.2.2.2.1, o5.2.2.2.2.2)

-- RN_init
def fRN_init  : Option ((Nat → Int32) × (Nat → Int32) × (Nat → Int32) × (Nat → Int32) × (Nat → Int32) × (Nat → Int64) × (Nat → Int32)) :=
  (fSt_init).bind fun o1 =>
    (fHi_init).bind fun o2 =>
      (fRu_init).bind fun o3 =>
        (fPr_init).bind fun o4 =>
          (fNu_init).bind fun o5 =>
            (fTl_init).bind fun o6 =>
              (fTr_init).bind fun o7 =>
                (fRd_init).bind fun o8 =>
                  some (o1, o2.1, o2.2.1, o2.2.2.1, o2.2.2.2, o5, o7)

-- RN_forgetAnswers
def fRN_forgetAnswers  : Option (Int32 × Int32 × Int32 × Int32 × Int32) :=
  some ((0 : Int32), (0 : Int32), (0 : Int32), (0 : Int32), (0 : Int32))

-- RN_beginChange
def fRN_beginChange (t_state_size : Int32) (t_state_letters : Nat → Int32) (t_state_settings : Nat → Int32) (t_history_size : Int32) (t_history_states_e0_size : Int32) (t_history_states_e0_letters : Nat → Int32) (t_history_states_e0_settings : Nat → Int32) (t_history_states_e1_size : Int32) (t_history_states_e1_letters : Nat → Int32) (t_history_states_e1_settings : Nat → Int32) (t_history_states_e2_size : Int32) (t_history_states_e2_letters : Nat → Int32) (t_history_states_e2_settings : Nat → Int32) (t_history_states_e3_size : Int32) (t_history_states_e3_letters : Nat → Int32) (t_history_states_e3_settings : Nat → Int32) : Option (Int32 × Int32 × (Nat → Int32) × (Nat → Int32) × Int32 × (Nat → Int32) × (Nat → Int32) × Int32 × (Nat → Int32) × (Nat → Int32) × Int32 × (Nat → Int32) × (Nat → Int32) × Int32 × Int32 × Int32 × Int32 × Int32) :=
  (fHi_keep t_state_size t_state_letters t_state_settings t_history_size t_history_states_e0_size t_history_states_e0_letters t_history_states_e0_settings t_history_states_e1_size t_history_states_e1_letters t_history_states_e1_settings t_history_states_e2_size t_history_states_e2_letters t_history_states_e2_settings t_history_states_e3_size t_history_states_e3_letters t_history_states_e3_settings).bind fun o1 =>
    (fRN_forgetAnswers).bind fun o14 =>
      some (o1.1, o1.2.1, o1.2.2.1, o1.2.2.2.1, o1.2.2.2.2.1, o1.2.2.2.2.2.1, o1.2.2.2.2.2.2.1, o1.2.2.2.2.2.2.2.1, o1.2.2.2.2.2.2.2.2.1, o1.2.2.2.2.2.2.2.2.2.1, o1.2.2.2.2.2.2.2.2.2.2.1, o1.2.2.2.2.2.2.2.2.2.2.2.1, o1.2.2.2.2.2.2.2.2.2.2.2.2, o14.1, o14.2.1, o14.2.2.1, o14.2.2.2.1, o14.2.2.2.2)

-- RN_adopt
def fRN_adopt_34  : Nat → Int32 → Int32 → Int32 → (Nat → Int32) → (Nat → Int32) → Int32 → (Nat → Int32) → (Nat → Int32) → Int32 → (Nat → Int32) → (Nat → Int32) → Int32 → (Nat → Int32) → (Nat → Int32) → Int32 → Int32 → Int32 → Int32 → Int32 → Int32 → Int32 → Int32 → Int32 → Int32 → Int32 → Int32 → (Nat → Int32) → Int32 → Int32 → (Nat → Int32) → Int32 → Int32 → Option (Int32 × Int32 × Int32 × (Nat → Int32) × (Nat → Int32) × Int32 × (Nat → Int32) × (Nat → Int32) × Int32 × (Nat → Int32) × (Nat → Int32) × Int32 × (Nat → Int32) × (Nat → Int32) × Int32 × Int32 × Int32 × Int32 × Int32 × Int32 × Int32 × Int32 × Int32 × Int32 × Int32 × Int32 × (Nat → Int32) × Int32 × Int32 × (Nat → Int32) × Int32 × Int32)
  | 0, _, _, _, _, _, _, _, _, _, _, _, _, _, _, _, _, _, _, _, _, _, _, _, _, _, _, _, _, _, _, _, _ => none
  | n + 1, x1, t_history_size, t_history_states_e0_size, t_history_states_e0_letters, t_history_states_e0_settings, t_history_states_e1_size, t_history_states_e1_letters, t_history_states_e1_settings, t_history_states_e2_size, t_history_states_e2_letters, t_history_states_e2_settings, t_history_states_e3_size, t_history_states_e3_letters, t_history_states_e3_settings, t_numbers_fresh, t_prices_fresh, t_reader_at, t_reader_size, t_reader_faultPlace, t_reader_faultReason, t_reader_lettersTold, t_reader_repeatsTold, t_reader_correctionsTold, t_reader_mostCorrections, t_reader_deepest, t_reader_fresh, t_reader_letters, t_runs_fresh, t_state_size, t_state_letters, t_telling_fresh, t_trial_fresh =>
    if t_reader_size ≤ x1 then
      some (t_state_size, t_history_size, t_history_states_e0_size, t_history_states_e0_letters, t_history_states_e0_settings, t_history_states_e1_size, t_history_states_e1_letters, t_history_states_e1_settings, t_history_states_e2_size, t_history_states_e2_letters, t_history_states_e2_settings, t_history_states_e3_size, t_history_states_e3_letters, t_history_states_e3_settings, t_numbers_fresh, t_prices_fresh, t_reader_at, t_reader_size, t_reader_faultPlace, t_reader_faultReason, t_reader_lettersTold, t_reader_repeatsTold, t_reader_correctionsTold, t_reader_mostCorrections, t_reader_deepest, t_reader_fresh, t_reader_letters, t_runs_fresh, t_state_size, t_state_letters, t_telling_fresh, t_trial_fresh)
    else
      (fRd_letter t_reader_letters x1).bind fun o2 =>
        (fSt_addLetter t_state_size t_state_letters o2).bind fun o3 =>
          fRN_adopt_34 n (x1 + 1) t_history_size t_history_states_e0_size t_history_states_e0_letters t_history_states_e0_settings t_history_states_e1_size t_history_states_e1_letters t_history_states_e1_settings t_history_states_e2_size t_history_states_e2_letters t_history_states_e2_settings t_history_states_e3_size t_history_states_e3_letters t_history_states_e3_settings t_numbers_fresh t_prices_fresh t_reader_at t_reader_size t_reader_faultPlace t_reader_faultReason t_reader_lettersTold t_reader_repeatsTold t_reader_correctionsTold t_reader_mostCorrections t_reader_deepest t_reader_fresh t_reader_letters t_runs_fresh o3.1 o3.2 t_telling_fresh t_trial_fresh
def fRN_adopt (t_reader_length : Int32) (t_reader_signs : Nat → Int32) (t_state_settings : Nat → Int32) (t_history_size : Int32) (t_history_states_e0_size : Int32) (t_history_states_e0_letters : Nat → Int32) (t_history_states_e0_settings : Nat → Int32) (t_history_states_e1_size : Int32) (t_history_states_e1_letters : Nat → Int32) (t_history_states_e1_settings : Nat → Int32) (t_history_states_e2_size : Int32) (t_history_states_e2_letters : Nat → Int32) (t_history_states_e2_settings : Nat → Int32) (t_history_states_e3_size : Int32) (t_history_states_e3_letters : Nat → Int32) (t_history_states_e3_settings : Nat → Int32) (t_numbers_fresh : Int32) (t_prices_fresh : Int32) (t_reader_at : Int32) (t_reader_size : Int32) (t_reader_faultPlace : Int32) (t_reader_faultReason : Int32) (t_reader_lettersTold : Int32) (t_reader_repeatsTold : Int32) (t_reader_correctionsTold : Int32) (t_reader_mostCorrections : Int32) (t_reader_deepest : Int32) (t_reader_fresh : Int32) (t_reader_letters : Nat → Int32) (t_runs_fresh : Int32) (t_state_size : Int32) (t_state_letters : Nat → Int32) (t_telling_fresh : Int32) (t_trial_fresh : Int32) : Option (Int32 × Int32 × Int32 × (Nat → Int32) × (Nat → Int32) × Int32 × (Nat → Int32) × (Nat → Int32) × Int32 × (Nat → Int32) × (Nat → Int32) × Int32 × (Nat → Int32) × (Nat → Int32) × Int32 × Int32 × Int32 × Int32 × Int32 × Int32 × Int32 × Int32 × Int32 × Int32 × Int32 × Int32 × (Nat → Int32) × Int32 × Int32 × (Nat → Int32) × Int32 × Int32) :=
  (fRd_refresh t_reader_length t_reader_signs t_reader_at t_reader_size t_reader_faultPlace t_reader_faultReason t_reader_lettersTold t_reader_repeatsTold t_reader_correctionsTold t_reader_mostCorrections t_reader_deepest t_reader_fresh t_reader_letters).bind fun o4 =>
    (fRd_hasFault o4.2.2.2.1).bind fun o5 =>
      if o5 = 0 then
        (fRN_beginChange t_state_size t_state_letters t_state_settings t_history_size t_history_states_e0_size t_history_states_e0_letters t_history_states_e0_settings t_history_states_e1_size t_history_states_e1_letters t_history_states_e1_settings t_history_states_e2_size t_history_states_e2_letters t_history_states_e2_settings t_history_states_e3_size t_history_states_e3_letters t_history_states_e3_settings).bind fun o7 =>
          fRN_adopt_34 FU (0 : Int32) o7.1 o7.2.1 o7.2.2.1 o7.2.2.2.1 o7.2.2.2.2.1 o7.2.2.2.2.2.1 o7.2.2.2.2.2.2.1 o7.2.2.2.2.2.2.2.1 o7.2.2.2.2.2.2.2.2.1 o7.2.2.2.2.2.2.2.2.2.1 o7.2.2.2.2.2.2.2.2.2.2.1 o7.2.2.2.2.2.2.2.2.2.2.2.1 o7.2.2.2.2.2.2.2.2.2.2.2.2.1 o7.2.2.2.2.2.2.2.2.2.2.2.2.2.1 o7.2.2.2.2.2.2.2.2.2.2.2.2.2.2.1 o4.1 o4.2.1 o4.2.2.1 o4.2.2.2.1 o4.2.2.2.2.1 o4.2.2.2.2.2.1 o4.2.2.2.2.2.2.1 o4.2.2.2.2.2.2.2.1 o4.2.2.2.2.2.2.2.2.1 o4.2.2.2.2.2.2.2.2.2.1 o4.2.2.2.2.2.2.2.2.2.2 o7.2.2.2.2.2.2.2.2.2.2.2.2.2.2.2.1 (0 : Int32) t_state_letters o7.2.2.2.2.2.2.2.2.2.2.2.2.2.2.2.2.1 o7.2.2.2.2.2.2.2.2.2.2.2.2.2.2.2.2.2
      else
        some ((-1000002 : Int32), t_history_size, t_history_states_e0_size, t_history_states_e0_letters, t_history_states_e0_settings, t_history_states_e1_size, t_history_states_e1_letters, t_history_states_e1_settings, t_history_states_e2_size, t_history_states_e2_letters, t_history_states_e2_settings, t_history_states_e3_size, t_history_states_e3_letters, t_history_states_e3_settings, t_numbers_fresh, t_prices_fresh, o4.1, o4.2.1, o4.2.2.1, o4.2.2.2.1, o4.2.2.2.2.1, o4.2.2.2.2.2.1, o4.2.2.2.2.2.2.1, o4.2.2.2.2.2.2.2.1, o4.2.2.2.2.2.2.2.2.1, o4.2.2.2.2.2.2.2.2.2.1, o4.2.2.2.2.2.2.2.2.2.2, t_runs_fresh, t_state_size, t_state_letters, t_telling_fresh, t_trial_fresh)

-- RN_append
def fRN_append (t_state_settings : Nat → Int32) (t_history_size : Int32) (t_history_states_e0_size : Int32) (t_history_states_e0_letters : Nat → Int32) (t_history_states_e0_settings : Nat → Int32) (t_history_states_e1_size : Int32) (t_history_states_e1_letters : Nat → Int32) (t_history_states_e1_settings : Nat → Int32) (t_history_states_e2_size : Int32) (t_history_states_e2_letters : Nat → Int32) (t_history_states_e2_settings : Nat → Int32) (t_history_states_e3_size : Int32) (t_history_states_e3_letters : Nat → Int32) (t_history_states_e3_settings : Nat → Int32) (t_numbers_fresh : Int32) (t_prices_fresh : Int32) (t_runs_fresh : Int32) (t_state_size : Int32) (t_state_letters : Nat → Int32) (t_telling_fresh : Int32) (t_trial_fresh : Int32) (x1 : Int32) : Option (Int32 × Int32 × Int32 × (Nat → Int32) × (Nat → Int32) × Int32 × (Nat → Int32) × (Nat → Int32) × Int32 × (Nat → Int32) × (Nat → Int32) × Int32 × (Nat → Int32) × (Nat → Int32) × Int32 × Int32 × Int32 × Int32 × (Nat → Int32) × Int32 × Int32) :=
  (fRN_isKind x1).bind fun o1 =>
    if o1 = 0 then
      some ((-1000001 : Int32), t_history_size, t_history_states_e0_size, t_history_states_e0_letters, t_history_states_e0_settings, t_history_states_e1_size, t_history_states_e1_letters, t_history_states_e1_settings, t_history_states_e2_size, t_history_states_e2_letters, t_history_states_e2_settings, t_history_states_e3_size, t_history_states_e3_letters, t_history_states_e3_settings, t_numbers_fresh, t_prices_fresh, t_runs_fresh, t_state_size, t_state_letters, t_telling_fresh, t_trial_fresh)
    else
      if t_state_size < (24 : Int32) then
        (fRN_beginChange t_state_size t_state_letters t_state_settings t_history_size t_history_states_e0_size t_history_states_e0_letters t_history_states_e0_settings t_history_states_e1_size t_history_states_e1_letters t_history_states_e1_settings t_history_states_e2_size t_history_states_e2_letters t_history_states_e2_settings t_history_states_e3_size t_history_states_e3_letters t_history_states_e3_settings).bind fun o4 =>
          (fSt_addLetter t_state_size t_state_letters x1).bind fun o17 =>
            some (o17.1, o4.1, o4.2.1, o4.2.2.1, o4.2.2.2.1, o4.2.2.2.2.1, o4.2.2.2.2.2.1, o4.2.2.2.2.2.2.1, o4.2.2.2.2.2.2.2.1, o4.2.2.2.2.2.2.2.2.1, o4.2.2.2.2.2.2.2.2.2.1, o4.2.2.2.2.2.2.2.2.2.2.1, o4.2.2.2.2.2.2.2.2.2.2.2.1, o4.2.2.2.2.2.2.2.2.2.2.2.2.1, o4.2.2.2.2.2.2.2.2.2.2.2.2.2.1, o4.2.2.2.2.2.2.2.2.2.2.2.2.2.2.1, o4.2.2.2.2.2.2.2.2.2.2.2.2.2.2.2.1, o17.1, o17.2, o4.2.2.2.2.2.2.2.2.2.2.2.2.2.2.2.2.1, o4.2.2.2.2.2.2.2.2.2.2.2.2.2.2.2.2.2)
      else
        some ((-1000003 : Int32), t_history_size, t_history_states_e0_size, t_history_states_e0_letters, t_history_states_e0_settings, t_history_states_e1_size, t_history_states_e1_letters, t_history_states_e1_settings, t_history_states_e2_size, t_history_states_e2_letters, t_history_states_e2_settings, t_history_states_e3_size, t_history_states_e3_letters, t_history_states_e3_settings, t_numbers_fresh, t_prices_fresh, t_runs_fresh, t_state_size, t_state_letters, t_telling_fresh, t_trial_fresh)

-- RN_bestChange
def fRN_bestChange (t_state_size : Int32) (t_state_letters : Nat → Int32) (t_state_settings : Nat → Int32) (t_trial_fresh : Int32) (t_trial_found : Int32) (t_trial_bestPlace : Int32) (t_trial_bestLetter : Int32) (t_trial_bestPrice : Int32) (t_trial_prices_items : Nat → Int32) (t_trial_prices_repeats_rowSize : Int32) (t_trial_prices_repeats_repeatPrice : Int32) (t_trial_prices_repeats_correctionPrice : Int32) (t_trial_prices_repeats_mostCorrections : Int32) (t_trial_prices_repeats_number : Int32) (t_trial_prices_repeats_blocks : Nat → Int32) (t_trial_prices_repeats_ends : Nat → Int32) (t_trial_prices_repeats_prices : Nat → Int32) (t_trial_prices_repeats_standing : Nat → Int32) (t_trial_prices_repeats_unlike : Nat → Int32) (t_trial_prices_table : Nat → Int32) (t_trial_tried_size : Int32) (t_trial_tried_letters : Nat → Int32) (t_trial_tried_settings : Nat → Int32) (x1 : Int32) : Option (Int32 × Int32 × Int32 × Int32 × Int32 × Int32 × (Nat → Int32) × Int32 × Int32 × Int32 × Int32 × Int32 × (Nat → Int32) × (Nat → Int32) × (Nat → Int32) × (Nat → Int32) × (Nat → Int32) × (Nat → Int32) × Int32 × (Nat → Int32) × (Nat → Int32)) :=
  if x1 < 0 then
    some ((-1000001 : Int32), t_trial_fresh, t_trial_found, t_trial_bestPlace, t_trial_bestLetter, t_trial_bestPrice, t_trial_prices_items, t_trial_prices_repeats_rowSize, t_trial_prices_repeats_repeatPrice, t_trial_prices_repeats_correctionPrice, t_trial_prices_repeats_mostCorrections, t_trial_prices_repeats_number, t_trial_prices_repeats_blocks, t_trial_prices_repeats_ends, t_trial_prices_repeats_prices, t_trial_prices_repeats_standing, t_trial_prices_repeats_unlike, t_trial_prices_table, t_trial_tried_size, t_trial_tried_letters, t_trial_tried_settings)
  else
    if x1 ≤ (2 : Int32) then
      (fTr_refresh t_state_size t_state_letters t_state_settings t_trial_fresh t_trial_found t_trial_bestPlace t_trial_bestLetter t_trial_bestPrice t_trial_prices_items t_trial_prices_repeats_rowSize t_trial_prices_repeats_repeatPrice t_trial_prices_repeats_correctionPrice t_trial_prices_repeats_mostCorrections t_trial_prices_repeats_number t_trial_prices_repeats_blocks t_trial_prices_repeats_ends t_trial_prices_repeats_prices t_trial_prices_repeats_standing t_trial_prices_repeats_unlike t_trial_prices_table t_trial_tried_size t_trial_tried_letters t_trial_tried_settings).bind fun o3 =>
        if o3.2.1 = 0 then
          some ((-1000004 : Int32), o3.1, o3.2.1, o3.2.2.1, o3.2.2.2.1, o3.2.2.2.2.1, o3.2.2.2.2.2.1, o3.2.2.2.2.2.2.1, o3.2.2.2.2.2.2.2.1, o3.2.2.2.2.2.2.2.2.1, o3.2.2.2.2.2.2.2.2.2.1, o3.2.2.2.2.2.2.2.2.2.2.1, o3.2.2.2.2.2.2.2.2.2.2.2.1, o3.2.2.2.2.2.2.2.2.2.2.2.2.1, o3.2.2.2.2.2.2.2.2.2.2.2.2.2.1, o3.2.2.2.2.2.2.2.2.2.2.2.2.2.2.1, o3.2.2.2.2.2.2.2.2.2.2.2.2.2.2.2.1, o3.2.2.2.2.2.2.2.2.2.2.2.2.2.2.2.2.1, o3.2.2.2.2.2.2.2.2.2.2.2.2.2.2.2.2.2.1, o3.2.2.2.2.2.2.2.2.2.2.2.2.2.2.2.2.2.2.1, o3.2.2.2.2.2.2.2.2.2.2.2.2.2.2.2.2.2.2.2)
        else
          if x1 = 0 then
            some (o3.2.2.1, o3.1, o3.2.1, o3.2.2.1, o3.2.2.2.1, o3.2.2.2.2.1, o3.2.2.2.2.2.1, o3.2.2.2.2.2.2.1, o3.2.2.2.2.2.2.2.1, o3.2.2.2.2.2.2.2.2.1, o3.2.2.2.2.2.2.2.2.2.1, o3.2.2.2.2.2.2.2.2.2.2.1, o3.2.2.2.2.2.2.2.2.2.2.2.1, o3.2.2.2.2.2.2.2.2.2.2.2.2.1, o3.2.2.2.2.2.2.2.2.2.2.2.2.2.1, o3.2.2.2.2.2.2.2.2.2.2.2.2.2.2.1, o3.2.2.2.2.2.2.2.2.2.2.2.2.2.2.2.1, o3.2.2.2.2.2.2.2.2.2.2.2.2.2.2.2.2.1, o3.2.2.2.2.2.2.2.2.2.2.2.2.2.2.2.2.2.1, o3.2.2.2.2.2.2.2.2.2.2.2.2.2.2.2.2.2.2.1, o3.2.2.2.2.2.2.2.2.2.2.2.2.2.2.2.2.2.2.2)
          else
            if x1 = (1 : Int32) then
              some (o3.2.2.2.1, o3.1, o3.2.1, o3.2.2.1, o3.2.2.2.1, o3.2.2.2.2.1, o3.2.2.2.2.2.1, o3.2.2.2.2.2.2.1, o3.2.2.2.2.2.2.2.1, o3.2.2.2.2.2.2.2.2.1, o3.2.2.2.2.2.2.2.2.2.1, o3.2.2.2.2.2.2.2.2.2.2.1, o3.2.2.2.2.2.2.2.2.2.2.2.1, o3.2.2.2.2.2.2.2.2.2.2.2.2.1, o3.2.2.2.2.2.2.2.2.2.2.2.2.2.1, o3.2.2.2.2.2.2.2.2.2.2.2.2.2.2.1, o3.2.2.2.2.2.2.2.2.2.2.2.2.2.2.2.1, o3.2.2.2.2.2.2.2.2.2.2.2.2.2.2.2.2.1, o3.2.2.2.2.2.2.2.2.2.2.2.2.2.2.2.2.2.1, o3.2.2.2.2.2.2.2.2.2.2.2.2.2.2.2.2.2.2.1, o3.2.2.2.2.2.2.2.2.2.2.2.2.2.2.2.2.2.2.2)
            else
              some (o3.2.2.2.2.1, o3.1, o3.2.1, o3.2.2.1, o3.2.2.2.1, o3.2.2.2.2.1, o3.2.2.2.2.2.1, o3.2.2.2.2.2.2.1, o3.2.2.2.2.2.2.2.1, o3.2.2.2.2.2.2.2.2.1, o3.2.2.2.2.2.2.2.2.2.1, o3.2.2.2.2.2.2.2.2.2.2.1, o3.2.2.2.2.2.2.2.2.2.2.2.1, o3.2.2.2.2.2.2.2.2.2.2.2.2.1, o3.2.2.2.2.2.2.2.2.2.2.2.2.2.1, o3.2.2.2.2.2.2.2.2.2.2.2.2.2.2.1, o3.2.2.2.2.2.2.2.2.2.2.2.2.2.2.2.1, o3.2.2.2.2.2.2.2.2.2.2.2.2.2.2.2.2.1, o3.2.2.2.2.2.2.2.2.2.2.2.2.2.2.2.2.2.1, o3.2.2.2.2.2.2.2.2.2.2.2.2.2.2.2.2.2.2.1, o3.2.2.2.2.2.2.2.2.2.2.2.2.2.2.2.2.2.2.2)
    else
      some ((-1000001 : Int32), t_trial_fresh, t_trial_found, t_trial_bestPlace, t_trial_bestLetter, t_trial_bestPrice, t_trial_prices_items, t_trial_prices_repeats_rowSize, t_trial_prices_repeats_repeatPrice, t_trial_prices_repeats_correctionPrice, t_trial_prices_repeats_mostCorrections, t_trial_prices_repeats_number, t_trial_prices_repeats_blocks, t_trial_prices_repeats_ends, t_trial_prices_repeats_prices, t_trial_prices_repeats_standing, t_trial_prices_repeats_unlike, t_trial_prices_table, t_trial_tried_size, t_trial_tried_letters, t_trial_tried_settings)

-- RN_change
def fRN_change (t_state_size : Int32) (t_state_settings : Nat → Int32) (t_history_size : Int32) (t_history_states_e0_size : Int32) (t_history_states_e0_letters : Nat → Int32) (t_history_states_e0_settings : Nat → Int32) (t_history_states_e1_size : Int32) (t_history_states_e1_letters : Nat → Int32) (t_history_states_e1_settings : Nat → Int32) (t_history_states_e2_size : Int32) (t_history_states_e2_letters : Nat → Int32) (t_history_states_e2_settings : Nat → Int32) (t_history_states_e3_size : Int32) (t_history_states_e3_letters : Nat → Int32) (t_history_states_e3_settings : Nat → Int32) (t_numbers_fresh : Int32) (t_prices_fresh : Int32) (t_runs_fresh : Int32) (t_state_letters : Nat → Int32) (t_telling_fresh : Int32) (t_trial_fresh : Int32) (x1 : Int32) (x2 : Int32) : Option (Int32 × Int32 × Int32 × (Nat → Int32) × (Nat → Int32) × Int32 × (Nat → Int32) × (Nat → Int32) × Int32 × (Nat → Int32) × (Nat → Int32) × Int32 × (Nat → Int32) × (Nat → Int32) × Int32 × Int32 × Int32 × (Nat → Int32) × Int32 × Int32) :=
  (fSt_hasPlace t_state_size x1).bind fun o1 =>
    if o1 = 0 then
      some ((-1000001 : Int32), t_history_size, t_history_states_e0_size, t_history_states_e0_letters, t_history_states_e0_settings, t_history_states_e1_size, t_history_states_e1_letters, t_history_states_e1_settings, t_history_states_e2_size, t_history_states_e2_letters, t_history_states_e2_settings, t_history_states_e3_size, t_history_states_e3_letters, t_history_states_e3_settings, t_numbers_fresh, t_prices_fresh, t_runs_fresh, t_state_letters, t_telling_fresh, t_trial_fresh)
    else
      (fRN_isKind x2).bind fun o3 =>
        if o3 = 0 then
          some ((-1000001 : Int32), t_history_size, t_history_states_e0_size, t_history_states_e0_letters, t_history_states_e0_settings, t_history_states_e1_size, t_history_states_e1_letters, t_history_states_e1_settings, t_history_states_e2_size, t_history_states_e2_letters, t_history_states_e2_settings, t_history_states_e3_size, t_history_states_e3_letters, t_history_states_e3_settings, t_numbers_fresh, t_prices_fresh, t_runs_fresh, t_state_letters, t_telling_fresh, t_trial_fresh)
        else
          (fRN_beginChange t_state_size t_state_letters t_state_settings t_history_size t_history_states_e0_size t_history_states_e0_letters t_history_states_e0_settings t_history_states_e1_size t_history_states_e1_letters t_history_states_e1_settings t_history_states_e2_size t_history_states_e2_letters t_history_states_e2_settings t_history_states_e3_size t_history_states_e3_letters t_history_states_e3_settings).bind fun o5 =>
            (fSt_letter t_state_size t_state_letters x1).bind fun o18 =>
              (fSt_putLetter t_state_size t_state_letters x1 x2).bind fun o19 =>
                some (o18, o5.1, o5.2.1, o5.2.2.1, o5.2.2.2.1, o5.2.2.2.2.1, o5.2.2.2.2.2.1, o5.2.2.2.2.2.2.1, o5.2.2.2.2.2.2.2.1, o5.2.2.2.2.2.2.2.2.1, o5.2.2.2.2.2.2.2.2.2.1, o5.2.2.2.2.2.2.2.2.2.2.1, o5.2.2.2.2.2.2.2.2.2.2.2.1, o5.2.2.2.2.2.2.2.2.2.2.2.2.1, o5.2.2.2.2.2.2.2.2.2.2.2.2.2.1, o5.2.2.2.2.2.2.2.2.2.2.2.2.2.2.1, o5.2.2.2.2.2.2.2.2.2.2.2.2.2.2.2.1, o19, o5.2.2.2.2.2.2.2.2.2.2.2.2.2.2.2.2.1, o5.2.2.2.2.2.2.2.2.2.2.2.2.2.2.2.2.2)

-- RN_cheapest
def fRN_cheapest (t_state_size : Int32) (t_state_letters : Nat → Int32) (t_state_settings : Nat → Int32) (t_prices_fresh : Int32) (t_prices_items : Nat → Int32) (t_prices_repeats_rowSize : Int32) (t_prices_repeats_repeatPrice : Int32) (t_prices_repeats_correctionPrice : Int32) (t_prices_repeats_mostCorrections : Int32) (t_prices_repeats_number : Int32) (t_prices_repeats_blocks : Nat → Int32) (t_prices_repeats_ends : Nat → Int32) (t_prices_repeats_prices : Nat → Int32) (t_prices_repeats_standing : Nat → Int32) (t_prices_repeats_unlike : Nat → Int32) (t_prices_table : Nat → Int32) (t_telling_length : Int32) (t_telling_partFrom : Int32) (t_telling_partTo : Int32) (t_telling_items : Int32) (t_telling_deepest : Int32) (t_telling_repeatsTold : Int32) (t_telling_correctionsTold : Int32) (t_telling_firstLetters : Int32) (t_telling_firstTimes : Int32) (t_telling_chosenEnd : Int32) (t_telling_chosenBlock : Int32) (t_telling_fresh : Int32) (t_telling_repeats_rowSize : Int32) (t_telling_repeats_repeatPrice : Int32) (t_telling_repeats_correctionPrice : Int32) (t_telling_repeats_mostCorrections : Int32) (t_telling_repeats_number : Int32) (t_telling_repeats_blocks : Nat → Int32) (t_telling_repeats_ends : Nat → Int32) (t_telling_repeats_prices : Nat → Int32) (t_telling_repeats_standing : Nat → Int32) (t_telling_repeats_unlike : Nat → Int32) (t_telling_signs : Nat → Int32) (x1 : Int32) (x2 : Int32) (x3 : Int32) : Option (Int32 × Int32 × (Nat → Int32) × Int32 × Int32 × Int32 × Int32 × Int32 × (Nat → Int32) × (Nat → Int32) × (Nat → Int32) × (Nat → Int32) × (Nat → Int32) × (Nat → Int32) × Int32 × Int32 × Int32 × Int32 × Int32 × Int32 × Int32 × Int32 × Int32 × Int32 × Int32 × Int32 × Int32 × Int32 × Int32 × Int32 × Int32 × (Nat → Int32) × (Nat → Int32) × (Nat → Int32) × (Nat → Int32) × (Nat → Int32) × (Nat → Int32)) :=
  (fSt_hasPart t_state_size x1 x2).bind fun o1 =>
    if o1 = 0 then
      some ((-1000001 : Int32), t_prices_fresh, t_prices_items, t_prices_repeats_rowSize, t_prices_repeats_repeatPrice, t_prices_repeats_correctionPrice, t_prices_repeats_mostCorrections, t_prices_repeats_number, t_prices_repeats_blocks, t_prices_repeats_ends, t_prices_repeats_prices, t_prices_repeats_standing, t_prices_repeats_unlike, t_prices_table, t_telling_length, t_telling_partFrom, t_telling_partTo, t_telling_items, t_telling_deepest, t_telling_repeatsTold, t_telling_correctionsTold, t_telling_firstLetters, t_telling_firstTimes, t_telling_chosenEnd, t_telling_chosenBlock, t_telling_fresh, t_telling_repeats_rowSize, t_telling_repeats_repeatPrice, t_telling_repeats_correctionPrice, t_telling_repeats_mostCorrections, t_telling_repeats_number, t_telling_repeats_blocks, t_telling_repeats_ends, t_telling_repeats_prices, t_telling_repeats_standing, t_telling_repeats_unlike, t_telling_signs)
    else
      if x3 < 0 then
        some ((-1000001 : Int32), t_prices_fresh, t_prices_items, t_prices_repeats_rowSize, t_prices_repeats_repeatPrice, t_prices_repeats_correctionPrice, t_prices_repeats_mostCorrections, t_prices_repeats_number, t_prices_repeats_blocks, t_prices_repeats_ends, t_prices_repeats_prices, t_prices_repeats_standing, t_prices_repeats_unlike, t_prices_table, t_telling_length, t_telling_partFrom, t_telling_partTo, t_telling_items, t_telling_deepest, t_telling_repeatsTold, t_telling_correctionsTold, t_telling_firstLetters, t_telling_firstTimes, t_telling_chosenEnd, t_telling_chosenBlock, t_telling_fresh, t_telling_repeats_rowSize, t_telling_repeats_repeatPrice, t_telling_repeats_correctionPrice, t_telling_repeats_mostCorrections, t_telling_repeats_number, t_telling_repeats_blocks, t_telling_repeats_ends, t_telling_repeats_prices, t_telling_repeats_standing, t_telling_repeats_unlike, t_telling_signs)
      else
        if x3 ≤ (7 : Int32) then
          (fPr_refresh t_state_size t_state_letters t_state_settings t_prices_fresh t_prices_items t_prices_repeats_rowSize t_prices_repeats_repeatPrice t_prices_repeats_correctionPrice t_prices_repeats_mostCorrections t_prices_repeats_number t_prices_repeats_blocks t_prices_repeats_ends t_prices_repeats_prices t_prices_repeats_standing t_prices_repeats_unlike t_prices_table).bind fun o5 =>
            if x3 = 0 then
              (fSt_setting t_state_settings (4 : Int32)).bind fun o9 =>
                (fPr_price o5.2.2.2.2.2.2.2.2.2.2.2.2 o9 x1 x2).bind fun o10 =>
                  some (o10, o5.1, o5.2.1, o5.2.2.1, o5.2.2.2.1, o5.2.2.2.2.1, o5.2.2.2.2.2.1, o5.2.2.2.2.2.2.1, o5.2.2.2.2.2.2.2.1, o5.2.2.2.2.2.2.2.2.1, o5.2.2.2.2.2.2.2.2.2.1, o5.2.2.2.2.2.2.2.2.2.2.1, o5.2.2.2.2.2.2.2.2.2.2.2.1, o5.2.2.2.2.2.2.2.2.2.2.2.2, t_telling_length, t_telling_partFrom, t_telling_partTo, t_telling_items, t_telling_deepest, t_telling_repeatsTold, t_telling_correctionsTold, t_telling_firstLetters, t_telling_firstTimes, t_telling_chosenEnd, t_telling_chosenBlock, t_telling_fresh, t_telling_repeats_rowSize, t_telling_repeats_repeatPrice, t_telling_repeats_correctionPrice, t_telling_repeats_mostCorrections, t_telling_repeats_number, t_telling_repeats_blocks, t_telling_repeats_ends, t_telling_repeats_prices, t_telling_repeats_standing, t_telling_repeats_unlike, t_telling_signs)
            else
              (fTl_refresh t_state_size t_state_letters t_state_settings o5.1 o5.2.2.2.2.2.2.2.2.2.2.2.2 t_telling_length t_telling_partFrom t_telling_partTo t_telling_items t_telling_deepest t_telling_repeatsTold t_telling_correctionsTold t_telling_firstLetters t_telling_firstTimes t_telling_chosenEnd t_telling_chosenBlock t_telling_fresh t_telling_repeats_rowSize t_telling_repeats_repeatPrice t_telling_repeats_correctionPrice t_telling_repeats_mostCorrections t_telling_repeats_number t_telling_repeats_blocks t_telling_repeats_ends t_telling_repeats_prices t_telling_repeats_standing t_telling_repeats_unlike t_telling_signs x1 x2).bind fun o7 =>
                (fTl_measure o7.1 o7.2.2.2.1 o7.2.2.2.2.1 o7.2.2.2.2.2.1 o7.2.2.2.2.2.2.1 o7.2.2.2.2.2.2.2.1 o7.2.2.2.2.2.2.2.2.1 x3).bind fun o8 =>
                  some (o8, o5.1, o5.2.1, o5.2.2.1, o5.2.2.2.1, o5.2.2.2.2.1, o5.2.2.2.2.2.1, o5.2.2.2.2.2.2.1, o5.2.2.2.2.2.2.2.1, o5.2.2.2.2.2.2.2.2.1, o5.2.2.2.2.2.2.2.2.2.1, o5.2.2.2.2.2.2.2.2.2.2.1, o5.2.2.2.2.2.2.2.2.2.2.2.1, o5.2.2.2.2.2.2.2.2.2.2.2.2, o7.1, o7.2.1, o7.2.2.1, o7.2.2.2.1, o7.2.2.2.2.1, o7.2.2.2.2.2.1, o7.2.2.2.2.2.2.1, o7.2.2.2.2.2.2.2.1, o7.2.2.2.2.2.2.2.2.1, o7.2.2.2.2.2.2.2.2.2.1, o7.2.2.2.2.2.2.2.2.2.2.1, o7.2.2.2.2.2.2.2.2.2.2.2.1, o7.2.2.2.2.2.2.2.2.2.2.2.2.1, o7.2.2.2.2.2.2.2.2.2.2.2.2.2.1, o7.2.2.2.2.2.2.2.2.2.2.2.2.2.2.1, o7.2.2.2.2.2.2.2.2.2.2.2.2.2.2.2.1, o7.2.2.2.2.2.2.2.2.2.2.2.2.2.2.2.2.1, o7.2.2.2.2.2.2.2.2.2.2.2.2.2.2.2.2.2.1, o7.2.2.2.2.2.2.2.2.2.2.2.2.2.2.2.2.2.2.1, o7.2.2.2.2.2.2.2.2.2.2.2.2.2.2.2.2.2.2.2.1, o7.2.2.2.2.2.2.2.2.2.2.2.2.2.2.2.2.2.2.2.2.1, o7.2.2.2.2.2.2.2.2.2.2.2.2.2.2.2.2.2.2.2.2.2.1, o7.2.2.2.2.2.2.2.2.2.2.2.2.2.2.2.2.2.2.2.2.2.2)
        else
          some ((-1000001 : Int32), t_prices_fresh, t_prices_items, t_prices_repeats_rowSize, t_prices_repeats_repeatPrice, t_prices_repeats_correctionPrice, t_prices_repeats_mostCorrections, t_prices_repeats_number, t_prices_repeats_blocks, t_prices_repeats_ends, t_prices_repeats_prices, t_prices_repeats_standing, t_prices_repeats_unlike, t_prices_table, t_telling_length, t_telling_partFrom, t_telling_partTo, t_telling_items, t_telling_deepest, t_telling_repeatsTold, t_telling_correctionsTold, t_telling_firstLetters, t_telling_firstTimes, t_telling_chosenEnd, t_telling_chosenBlock, t_telling_fresh, t_telling_repeats_rowSize, t_telling_repeats_repeatPrice, t_telling_repeats_correctionPrice, t_telling_repeats_mostCorrections, t_telling_repeats_number, t_telling_repeats_blocks, t_telling_repeats_ends, t_telling_repeats_prices, t_telling_repeats_standing, t_telling_repeats_unlike, t_telling_signs)

-- RN_clearText
def fRN_clearText (t_reader_length : Int32) : Option (Int32 × Int32 × Int32) :=
  (fRd_empty).bind fun o1 =>
    some (t_reader_length, o1.1, o1.2)

-- RN_count
def fRN_count_24 (t_history_size : Int32) (t_reader_length : Int32) (t_state_size : Int32) (t_state_letters : Nat → Int32) (x1 : Int32) (t_runs_number : Int32) (t_runs_fresh : Int32) (t_runs_froms : Nat → Int32) (t_runs_periods : Nat → Int32) (t_runs_tos : Nat → Int32) : Option (Int32 × Int32 × Int32 × (Nat → Int32) × (Nat → Int32) × (Nat → Int32)) :=
    if x1 = (0 : Int32) then
      some (t_state_size, t_runs_number, t_runs_fresh, t_runs_froms, t_runs_periods, t_runs_tos)
    else
      if x1 = (1 : Int32) then
        (fRu_refresh t_state_size t_state_letters t_runs_number t_runs_fresh t_runs_froms t_runs_periods t_runs_tos).bind fun o3 =>
          some (o3.1, o3.1, o3.2.1, o3.2.2.1, o3.2.2.2.1, o3.2.2.2.2)
      else
        if x1 = (2 : Int32) then
          some (t_history_size, t_runs_number, t_runs_fresh, t_runs_froms, t_runs_periods, t_runs_tos)
        else
          if x1 = (3 : Int32) then
            some (t_reader_length, t_runs_number, t_runs_fresh, t_runs_froms, t_runs_periods, t_runs_tos)
          else
            some ((-1000001 : Int32), t_runs_number, t_runs_fresh, t_runs_froms, t_runs_periods, t_runs_tos)
def fRN_count (t_history_size : Int32) (t_reader_length : Int32) (t_state_size : Int32) (t_state_letters : Nat → Int32) (t_state_settings : Nat → Int32) (t_runs_number : Int32) (t_runs_fresh : Int32) (t_runs_froms : Nat → Int32) (t_runs_periods : Nat → Int32) (t_runs_tos : Nat → Int32) (x1 : Int32) : Option (Int32 × Int32 × Int32 × (Nat → Int32) × (Nat → Int32) × (Nat → Int32)) :=
  if x1 < (20 : Int32) then
    fRN_count_24 t_history_size t_reader_length t_state_size t_state_letters x1 t_runs_number t_runs_fresh t_runs_froms t_runs_periods t_runs_tos
  else
    if (25 : Int32) ≤ x1 then
      fRN_count_24 t_history_size t_reader_length t_state_size t_state_letters x1 t_runs_number t_runs_fresh t_runs_froms t_runs_periods t_runs_tos
    else
      (fSt_setting t_state_settings (x1 - (20 : Int32))).bind fun o8 =>
        some (o8, t_runs_number, t_runs_fresh, t_runs_froms, t_runs_periods, t_runs_tos)

-- RN_cut
def fRN_cut (t_state_letters : Nat → Int32) (t_state_settings : Nat → Int32) (t_history_size : Int32) (t_history_states_e0_size : Int32) (t_history_states_e0_letters : Nat → Int32) (t_history_states_e0_settings : Nat → Int32) (t_history_states_e1_size : Int32) (t_history_states_e1_letters : Nat → Int32) (t_history_states_e1_settings : Nat → Int32) (t_history_states_e2_size : Int32) (t_history_states_e2_letters : Nat → Int32) (t_history_states_e2_settings : Nat → Int32) (t_history_states_e3_size : Int32) (t_history_states_e3_letters : Nat → Int32) (t_history_states_e3_settings : Nat → Int32) (t_numbers_fresh : Int32) (t_prices_fresh : Int32) (t_runs_fresh : Int32) (t_state_size : Int32) (t_telling_fresh : Int32) (t_trial_fresh : Int32) (x1 : Int32) : Option (Int32 × Int32 × Int32 × (Nat → Int32) × (Nat → Int32) × Int32 × (Nat → Int32) × (Nat → Int32) × Int32 × (Nat → Int32) × (Nat → Int32) × Int32 × (Nat → Int32) × (Nat → Int32) × Int32 × Int32 × Int32 × Int32 × Int32 × Int32) :=
  if x1 < (1 : Int32) then
    some ((-1000001 : Int32), t_history_size, t_history_states_e0_size, t_history_states_e0_letters, t_history_states_e0_settings, t_history_states_e1_size, t_history_states_e1_letters, t_history_states_e1_settings, t_history_states_e2_size, t_history_states_e2_letters, t_history_states_e2_settings, t_history_states_e3_size, t_history_states_e3_letters, t_history_states_e3_settings, t_numbers_fresh, t_prices_fresh, t_runs_fresh, t_state_size, t_telling_fresh, t_trial_fresh)
  else
    if x1 ≤ (24 : Int32) then
      if x1 ≤ t_state_size then
        (fRN_beginChange t_state_size t_state_letters t_state_settings t_history_size t_history_states_e0_size t_history_states_e0_letters t_history_states_e0_settings t_history_states_e1_size t_history_states_e1_letters t_history_states_e1_settings t_history_states_e2_size t_history_states_e2_letters t_history_states_e2_settings t_history_states_e3_size t_history_states_e3_letters t_history_states_e3_settings).bind fun o4 =>
          some ((t_state_size - x1), o4.1, o4.2.1, o4.2.2.1, o4.2.2.2.1, o4.2.2.2.2.1, o4.2.2.2.2.2.1, o4.2.2.2.2.2.2.1, o4.2.2.2.2.2.2.2.1, o4.2.2.2.2.2.2.2.2.1, o4.2.2.2.2.2.2.2.2.2.1, o4.2.2.2.2.2.2.2.2.2.2.1, o4.2.2.2.2.2.2.2.2.2.2.2.1, o4.2.2.2.2.2.2.2.2.2.2.2.2.1, o4.2.2.2.2.2.2.2.2.2.2.2.2.2.1, o4.2.2.2.2.2.2.2.2.2.2.2.2.2.2.1, o4.2.2.2.2.2.2.2.2.2.2.2.2.2.2.2.1, (t_state_size - x1), o4.2.2.2.2.2.2.2.2.2.2.2.2.2.2.2.2.1, o4.2.2.2.2.2.2.2.2.2.2.2.2.2.2.2.2.2)
      else
        some ((-1000002 : Int32), t_history_size, t_history_states_e0_size, t_history_states_e0_letters, t_history_states_e0_settings, t_history_states_e1_size, t_history_states_e1_letters, t_history_states_e1_settings, t_history_states_e2_size, t_history_states_e2_letters, t_history_states_e2_settings, t_history_states_e3_size, t_history_states_e3_letters, t_history_states_e3_settings, t_numbers_fresh, t_prices_fresh, t_runs_fresh, t_state_size, t_telling_fresh, t_trial_fresh)
    else
      some ((-1000001 : Int32), t_history_size, t_history_states_e0_size, t_history_states_e0_letters, t_history_states_e0_settings, t_history_states_e1_size, t_history_states_e1_letters, t_history_states_e1_settings, t_history_states_e2_size, t_history_states_e2_letters, t_history_states_e2_settings, t_history_states_e3_size, t_history_states_e3_letters, t_history_states_e3_settings, t_numbers_fresh, t_prices_fresh, t_runs_fresh, t_state_size, t_telling_fresh, t_trial_fresh)

-- RN_descriptions
def fRN_descriptions (t_state_size : Int32) (t_state_letters : Nat → Int32) (t_state_settings : Nat → Int32) (t_numbers_fresh : Int32) (t_numbers_items : Nat → Int64) (t_numbers_repeats_rowSize : Int32) (t_numbers_repeats_repeatPrice : Int32) (t_numbers_repeats_correctionPrice : Int32) (t_numbers_repeats_mostCorrections : Int32) (t_numbers_repeats_number : Int32) (t_numbers_repeats_blocks : Nat → Int32) (t_numbers_repeats_ends : Nat → Int32) (t_numbers_repeats_prices : Nat → Int32) (t_numbers_repeats_standing : Nat → Int32) (t_numbers_repeats_unlike : Nat → Int32) (t_numbers_table : Nat → Int64) (x1 : Int32) (x2 : Int32) : Option (Int64 × Int32 × (Nat → Int64) × Int32 × Int32 × Int32 × Int32 × Int32 × (Nat → Int32) × (Nat → Int32) × (Nat → Int32) × (Nat → Int32) × (Nat → Int32) × (Nat → Int64)) :=
  (fSt_hasPart t_state_size x1 x2).bind fun o1 =>
    if o1 = 0 then
      some ((-1000001 : Int64), t_numbers_fresh, t_numbers_items, t_numbers_repeats_rowSize, t_numbers_repeats_repeatPrice, t_numbers_repeats_correctionPrice, t_numbers_repeats_mostCorrections, t_numbers_repeats_number, t_numbers_repeats_blocks, t_numbers_repeats_ends, t_numbers_repeats_prices, t_numbers_repeats_standing, t_numbers_repeats_unlike, t_numbers_table)
    else
      (fNu_refresh t_state_size t_state_letters t_state_settings t_numbers_fresh t_numbers_items t_numbers_repeats_rowSize t_numbers_repeats_repeatPrice t_numbers_repeats_correctionPrice t_numbers_repeats_mostCorrections t_numbers_repeats_number t_numbers_repeats_blocks t_numbers_repeats_ends t_numbers_repeats_prices t_numbers_repeats_standing t_numbers_repeats_unlike t_numbers_table).bind fun o3 =>
        (fSt_setting t_state_settings (4 : Int32)).bind fun o4 =>
          (fNu_number o3.2.2.2.2.2.2.2.2.2.2.2.2 o4 x1 x2).bind fun o5 =>
            some (o5, o3.1, o3.2.1, o3.2.2.1, o3.2.2.2.1, o3.2.2.2.2.1, o3.2.2.2.2.2.1, o3.2.2.2.2.2.2.1, o3.2.2.2.2.2.2.2.1, o3.2.2.2.2.2.2.2.2.1, o3.2.2.2.2.2.2.2.2.2.1, o3.2.2.2.2.2.2.2.2.2.2.1, o3.2.2.2.2.2.2.2.2.2.2.2.1, o3.2.2.2.2.2.2.2.2.2.2.2.2)

-- RN_fault
def fRN_fault (t_reader_length : Int32) (t_reader_signs : Nat → Int32) (t_reader_at : Int32) (t_reader_size : Int32) (t_reader_faultPlace : Int32) (t_reader_faultReason : Int32) (t_reader_lettersTold : Int32) (t_reader_repeatsTold : Int32) (t_reader_correctionsTold : Int32) (t_reader_mostCorrections : Int32) (t_reader_deepest : Int32) (t_reader_fresh : Int32) (t_reader_letters : Nat → Int32) (x1 : Int32) : Option (Int32 × Int32 × Int32 × Int32 × Int32 × Int32 × Int32 × Int32 × Int32 × Int32 × Int32 × (Nat → Int32)) :=
  if x1 < 0 then
    some ((-1000001 : Int32), t_reader_at, t_reader_size, t_reader_faultPlace, t_reader_faultReason, t_reader_lettersTold, t_reader_repeatsTold, t_reader_correctionsTold, t_reader_mostCorrections, t_reader_deepest, t_reader_fresh, t_reader_letters)
  else
    if x1 ≤ (1 : Int32) then
      (fRd_refresh t_reader_length t_reader_signs t_reader_at t_reader_size t_reader_faultPlace t_reader_faultReason t_reader_lettersTold t_reader_repeatsTold t_reader_correctionsTold t_reader_mostCorrections t_reader_deepest t_reader_fresh t_reader_letters).bind fun o3 =>
        (fRd_hasFault o3.2.2.2.1).bind fun o4 =>
          if o4 = 0 then
            some ((-1000004 : Int32), o3.1, o3.2.1, o3.2.2.1, o3.2.2.2.1, o3.2.2.2.2.1, o3.2.2.2.2.2.1, o3.2.2.2.2.2.2.1, o3.2.2.2.2.2.2.2.1, o3.2.2.2.2.2.2.2.2.1, o3.2.2.2.2.2.2.2.2.2.1, o3.2.2.2.2.2.2.2.2.2.2)
          else
            if x1 = 0 then
              some (o3.2.2.1, o3.1, o3.2.1, o3.2.2.1, o3.2.2.2.1, o3.2.2.2.2.1, o3.2.2.2.2.2.1, o3.2.2.2.2.2.2.1, o3.2.2.2.2.2.2.2.1, o3.2.2.2.2.2.2.2.2.1, o3.2.2.2.2.2.2.2.2.2.1, o3.2.2.2.2.2.2.2.2.2.2)
            else
              some (o3.2.2.2.1, o3.1, o3.2.1, o3.2.2.1, o3.2.2.2.1, o3.2.2.2.2.1, o3.2.2.2.2.2.1, o3.2.2.2.2.2.2.1, o3.2.2.2.2.2.2.2.1, o3.2.2.2.2.2.2.2.2.1, o3.2.2.2.2.2.2.2.2.2.1, o3.2.2.2.2.2.2.2.2.2.2)
    else
      some ((-1000001 : Int32), t_reader_at, t_reader_size, t_reader_faultPlace, t_reader_faultReason, t_reader_lettersTold, t_reader_repeatsTold, t_reader_correctionsTold, t_reader_mostCorrections, t_reader_deepest, t_reader_fresh, t_reader_letters)

-- RN_letterAt
def fRN_letterAt (t_state_size : Int32) (t_state_letters : Nat → Int32) (x1 : Int32) : Option (Int32) :=
  if 0 ≤ x1 then
    (fSt_hasPlace t_state_size x1).bind fun o2 =>
      if o2 = 0 then
        some (-1000004 : Int32)
      else
        (fSt_letter t_state_size t_state_letters x1).bind fun o4 =>
          some o4
  else
    some (-1000001 : Int32)

-- RN_period
def fRN_period (t_state_size : Int32) (t_state_letters : Nat → Int32) (x1 : Int32) (x2 : Int32) : Option (Int32) :=
  (fSt_hasPart t_state_size x1 x2).bind fun o1 =>
    if o1 = 0 then
      some (-1000001 : Int32)
    else
      (fSt_leastPeriod t_state_size t_state_letters x1 x2).bind fun o3 =>
        some o3

-- RN_runOf
def fRN_runOf (t_state_size : Int32) (t_state_letters : Nat → Int32) (t_runs_number : Int32) (t_runs_fresh : Int32) (t_runs_froms : Nat → Int32) (t_runs_periods : Nat → Int32) (t_runs_tos : Nat → Int32) (x1 : Int32) (x2 : Int32) : Option (Int32 × Int32 × Int32 × (Nat → Int32) × (Nat → Int32) × (Nat → Int32)) :=
  if x1 < 0 then
    some ((-1000001 : Int32), t_runs_number, t_runs_fresh, t_runs_froms, t_runs_periods, t_runs_tos)
  else
    if x2 < 0 then
      some ((-1000001 : Int32), t_runs_number, t_runs_fresh, t_runs_froms, t_runs_periods, t_runs_tos)
    else
      if x2 ≤ (2 : Int32) then
        (fRu_refresh t_state_size t_state_letters t_runs_number t_runs_fresh t_runs_froms t_runs_periods t_runs_tos).bind fun o4 =>
          if o4.1 ≤ x1 then
            some ((-1000004 : Int32), o4.1, o4.2.1, o4.2.2.1, o4.2.2.2.1, o4.2.2.2.2)
          else
            (fRu_tell o4.1 o4.2.2.1 o4.2.2.2.1 o4.2.2.2.2 x1 x2).bind fun o6 =>
              some (o6, o4.1, o4.2.1, o4.2.2.1, o4.2.2.2.1, o4.2.2.2.2)
      else
        some ((-1000001 : Int32), t_runs_number, t_runs_fresh, t_runs_froms, t_runs_periods, t_runs_tos)

-- RN_set
def fRN_set (t_state_size : Int32) (t_state_letters : Nat → Int32) (t_history_size : Int32) (t_history_states_e0_size : Int32) (t_history_states_e0_letters : Nat → Int32) (t_history_states_e0_settings : Nat → Int32) (t_history_states_e1_size : Int32) (t_history_states_e1_letters : Nat → Int32) (t_history_states_e1_settings : Nat → Int32) (t_history_states_e2_size : Int32) (t_history_states_e2_letters : Nat → Int32) (t_history_states_e2_settings : Nat → Int32) (t_history_states_e3_size : Int32) (t_history_states_e3_letters : Nat → Int32) (t_history_states_e3_settings : Nat → Int32) (t_numbers_fresh : Int32) (t_prices_fresh : Int32) (t_runs_fresh : Int32) (t_state_settings : Nat → Int32) (t_telling_fresh : Int32) (t_trial_fresh : Int32) (x1 : Int32) (x2 : Int32) : Option (Int32 × Int32 × Int32 × (Nat → Int32) × (Nat → Int32) × Int32 × (Nat → Int32) × (Nat → Int32) × Int32 × (Nat → Int32) × (Nat → Int32) × Int32 × (Nat → Int32) × (Nat → Int32) × Int32 × Int32 × Int32 × (Nat → Int32) × Int32 × Int32) :=
  if x1 < 0 then
    some ((-1000001 : Int32), t_history_size, t_history_states_e0_size, t_history_states_e0_letters, t_history_states_e0_settings, t_history_states_e1_size, t_history_states_e1_letters, t_history_states_e1_settings, t_history_states_e2_size, t_history_states_e2_letters, t_history_states_e2_settings, t_history_states_e3_size, t_history_states_e3_letters, t_history_states_e3_settings, t_numbers_fresh, t_prices_fresh, t_runs_fresh, t_state_settings, t_telling_fresh, t_trial_fresh)
  else
    if (5 : Int32) ≤ x1 then
      some ((-1000001 : Int32), t_history_size, t_history_states_e0_size, t_history_states_e0_letters, t_history_states_e0_settings, t_history_states_e1_size, t_history_states_e1_letters, t_history_states_e1_settings, t_history_states_e2_size, t_history_states_e2_letters, t_history_states_e2_settings, t_history_states_e3_size, t_history_states_e3_letters, t_history_states_e3_settings, t_numbers_fresh, t_prices_fresh, t_runs_fresh, t_state_settings, t_telling_fresh, t_trial_fresh)
    else
      if bIn x1 5 = true then
        if x2 < (rd vLEAST x1) then
          some ((-1000001 : Int32), t_history_size, t_history_states_e0_size, t_history_states_e0_letters, t_history_states_e0_settings, t_history_states_e1_size, t_history_states_e1_letters, t_history_states_e1_settings, t_history_states_e2_size, t_history_states_e2_letters, t_history_states_e2_settings, t_history_states_e3_size, t_history_states_e3_letters, t_history_states_e3_settings, t_numbers_fresh, t_prices_fresh, t_runs_fresh, t_state_settings, t_telling_fresh, t_trial_fresh)
        else
          if bIn x1 5 = true then
            if x2 ≤ (rd vMOST x1) then
              (fRN_beginChange t_state_size t_state_letters t_state_settings t_history_size t_history_states_e0_size t_history_states_e0_letters t_history_states_e0_settings t_history_states_e1_size t_history_states_e1_letters t_history_states_e1_settings t_history_states_e2_size t_history_states_e2_letters t_history_states_e2_settings t_history_states_e3_size t_history_states_e3_letters t_history_states_e3_settings).bind fun o9 =>
                (fSt_setting t_state_settings x1).bind fun o22 =>
                  (fSt_putSetting t_state_settings x1 x2).bind fun o23 =>
                    some (o22, o9.1, o9.2.1, o9.2.2.1, o9.2.2.2.1, o9.2.2.2.2.1, o9.2.2.2.2.2.1, o9.2.2.2.2.2.2.1, o9.2.2.2.2.2.2.2.1, o9.2.2.2.2.2.2.2.2.1, o9.2.2.2.2.2.2.2.2.2.1, o9.2.2.2.2.2.2.2.2.2.2.1, o9.2.2.2.2.2.2.2.2.2.2.2.1, o9.2.2.2.2.2.2.2.2.2.2.2.2.1, o9.2.2.2.2.2.2.2.2.2.2.2.2.2.1, o9.2.2.2.2.2.2.2.2.2.2.2.2.2.2.1, o9.2.2.2.2.2.2.2.2.2.2.2.2.2.2.2.1, o23, o9.2.2.2.2.2.2.2.2.2.2.2.2.2.2.2.2.1, o9.2.2.2.2.2.2.2.2.2.2.2.2.2.2.2.2.2)
            else
              some ((-1000001 : Int32), t_history_size, t_history_states_e0_size, t_history_states_e0_letters, t_history_states_e0_settings, t_history_states_e1_size, t_history_states_e1_letters, t_history_states_e1_settings, t_history_states_e2_size, t_history_states_e2_letters, t_history_states_e2_settings, t_history_states_e3_size, t_history_states_e3_letters, t_history_states_e3_settings, t_numbers_fresh, t_prices_fresh, t_runs_fresh, t_state_settings, t_telling_fresh, t_trial_fresh)
          else none
      else none

-- RN_textAt
def fRN_textAt (t_state_size : Int32) (t_state_letters : Nat → Int32) (t_state_settings : Nat → Int32) (t_prices_fresh : Int32) (t_prices_items : Nat → Int32) (t_prices_repeats_rowSize : Int32) (t_prices_repeats_repeatPrice : Int32) (t_prices_repeats_correctionPrice : Int32) (t_prices_repeats_mostCorrections : Int32) (t_prices_repeats_number : Int32) (t_prices_repeats_blocks : Nat → Int32) (t_prices_repeats_ends : Nat → Int32) (t_prices_repeats_prices : Nat → Int32) (t_prices_repeats_standing : Nat → Int32) (t_prices_repeats_unlike : Nat → Int32) (t_prices_table : Nat → Int32) (t_telling_length : Int32) (t_telling_partFrom : Int32) (t_telling_partTo : Int32) (t_telling_items : Int32) (t_telling_deepest : Int32) (t_telling_repeatsTold : Int32) (t_telling_correctionsTold : Int32) (t_telling_firstLetters : Int32) (t_telling_firstTimes : Int32) (t_telling_chosenEnd : Int32) (t_telling_chosenBlock : Int32) (t_telling_fresh : Int32) (t_telling_repeats_rowSize : Int32) (t_telling_repeats_repeatPrice : Int32) (t_telling_repeats_correctionPrice : Int32) (t_telling_repeats_mostCorrections : Int32) (t_telling_repeats_number : Int32) (t_telling_repeats_blocks : Nat → Int32) (t_telling_repeats_ends : Nat → Int32) (t_telling_repeats_prices : Nat → Int32) (t_telling_repeats_standing : Nat → Int32) (t_telling_repeats_unlike : Nat → Int32) (t_telling_signs : Nat → Int32) (x1 : Int32) : Option (Int32 × Int32 × (Nat → Int32) × Int32 × Int32 × Int32 × Int32 × Int32 × (Nat → Int32) × (Nat → Int32) × (Nat → Int32) × (Nat → Int32) × (Nat → Int32) × (Nat → Int32) × Int32 × Int32 × Int32 × Int32 × Int32 × Int32 × Int32 × Int32 × Int32 × Int32 × Int32 × Int32 × Int32 × Int32 × Int32 × Int32 × Int32 × (Nat → Int32) × (Nat → Int32) × (Nat → Int32) × (Nat → Int32) × (Nat → Int32) × (Nat → Int32)) :=
  if 0 ≤ x1 then
    if t_state_size = 0 then
      some ((-1000004 : Int32), t_prices_fresh, t_prices_items, t_prices_repeats_rowSize, t_prices_repeats_repeatPrice, t_prices_repeats_correctionPrice, t_prices_repeats_mostCorrections, t_prices_repeats_number, t_prices_repeats_blocks, t_prices_repeats_ends, t_prices_repeats_prices, t_prices_repeats_standing, t_prices_repeats_unlike, t_prices_table, t_telling_length, t_telling_partFrom, t_telling_partTo, t_telling_items, t_telling_deepest, t_telling_repeatsTold, t_telling_correctionsTold, t_telling_firstLetters, t_telling_firstTimes, t_telling_chosenEnd, t_telling_chosenBlock, t_telling_fresh, t_telling_repeats_rowSize, t_telling_repeats_repeatPrice, t_telling_repeats_correctionPrice, t_telling_repeats_mostCorrections, t_telling_repeats_number, t_telling_repeats_blocks, t_telling_repeats_ends, t_telling_repeats_prices, t_telling_repeats_standing, t_telling_repeats_unlike, t_telling_signs)
    else
      (fPr_refresh t_state_size t_state_letters t_state_settings t_prices_fresh t_prices_items t_prices_repeats_rowSize t_prices_repeats_repeatPrice t_prices_repeats_correctionPrice t_prices_repeats_mostCorrections t_prices_repeats_number t_prices_repeats_blocks t_prices_repeats_ends t_prices_repeats_prices t_prices_repeats_standing t_prices_repeats_unlike t_prices_table).bind fun o3 =>
        (fTl_refresh t_state_size t_state_letters t_state_settings o3.1 o3.2.2.2.2.2.2.2.2.2.2.2.2 t_telling_length t_telling_partFrom t_telling_partTo t_telling_items t_telling_deepest t_telling_repeatsTold t_telling_correctionsTold t_telling_firstLetters t_telling_firstTimes t_telling_chosenEnd t_telling_chosenBlock t_telling_fresh t_telling_repeats_rowSize t_telling_repeats_repeatPrice t_telling_repeats_correctionPrice t_telling_repeats_mostCorrections t_telling_repeats_number t_telling_repeats_blocks t_telling_repeats_ends t_telling_repeats_prices t_telling_repeats_standing t_telling_repeats_unlike t_telling_signs (0 : Int32) t_state_size).bind fun o4 =>
          if o4.1 ≤ x1 then
            some ((-1000004 : Int32), o3.1, o3.2.1, o3.2.2.1, o3.2.2.2.1, o3.2.2.2.2.1, o3.2.2.2.2.2.1, o3.2.2.2.2.2.2.1, o3.2.2.2.2.2.2.2.1, o3.2.2.2.2.2.2.2.2.1, o3.2.2.2.2.2.2.2.2.2.1, o3.2.2.2.2.2.2.2.2.2.2.1, o3.2.2.2.2.2.2.2.2.2.2.2.1, o3.2.2.2.2.2.2.2.2.2.2.2.2, o4.1, o4.2.1, o4.2.2.1, o4.2.2.2.1, o4.2.2.2.2.1, o4.2.2.2.2.2.1, o4.2.2.2.2.2.2.1, o4.2.2.2.2.2.2.2.1, o4.2.2.2.2.2.2.2.2.1, o4.2.2.2.2.2.2.2.2.2.1, o4.2.2.2.2.2.2.2.2.2.2.1, o4.2.2.2.2.2.2.2.2.2.2.2.1, o4.2.2.2.2.2.2.2.2.2.2.2.2.1, o4.2.2.2.2.2.2.2.2.2.2.2.2.2.1, o4.2.2.2.2.2.2.2.2.2.2.2.2.2.2.1, o4.2.2.2.2.2.2.2.2.2.2.2.2.2.2.2.1, o4.2.2.2.2.2.2.2.2.2.2.2.2.2.2.2.2.1, o4.2.2.2.2.2.2.2.2.2.2.2.2.2.2.2.2.2.1, o4.2.2.2.2.2.2.2.2.2.2.2.2.2.2.2.2.2.2.1, o4.2.2.2.2.2.2.2.2.2.2.2.2.2.2.2.2.2.2.2.1, o4.2.2.2.2.2.2.2.2.2.2.2.2.2.2.2.2.2.2.2.2.1, o4.2.2.2.2.2.2.2.2.2.2.2.2.2.2.2.2.2.2.2.2.2.1, o4.2.2.2.2.2.2.2.2.2.2.2.2.2.2.2.2.2.2.2.2.2.2)
          else
            (fTl_sign o4.2.2.2.2.2.2.2.2.2.2.2.2.2.2.2.2.2.2.2.2.2.2 x1).bind fun o6 =>
              some (o6, o3.1, o3.2.1, o3.2.2.1, o3.2.2.2.1, o3.2.2.2.2.1, o3.2.2.2.2.2.1, o3.2.2.2.2.2.2.1, o3.2.2.2.2.2.2.2.1, o3.2.2.2.2.2.2.2.2.1, o3.2.2.2.2.2.2.2.2.2.1, o3.2.2.2.2.2.2.2.2.2.2.1, o3.2.2.2.2.2.2.2.2.2.2.2.1, o3.2.2.2.2.2.2.2.2.2.2.2.2, o4.1, o4.2.1, o4.2.2.1, o4.2.2.2.1, o4.2.2.2.2.1, o4.2.2.2.2.2.1, o4.2.2.2.2.2.2.1, o4.2.2.2.2.2.2.2.1, o4.2.2.2.2.2.2.2.2.1, o4.2.2.2.2.2.2.2.2.2.1, o4.2.2.2.2.2.2.2.2.2.2.1, o4.2.2.2.2.2.2.2.2.2.2.2.1, o4.2.2.2.2.2.2.2.2.2.2.2.2.1, o4.2.2.2.2.2.2.2.2.2.2.2.2.2.1, o4.2.2.2.2.2.2.2.2.2.2.2.2.2.2.1, o4.2.2.2.2.2.2.2.2.2.2.2.2.2.2.2.1, o4.2.2.2.2.2.2.2.2.2.2.2.2.2.2.2.2.1, o4.2.2.2.2.2.2.2.2.2.2.2.2.2.2.2.2.2.1, o4.2.2.2.2.2.2.2.2.2.2.2.2.2.2.2.2.2.2.1, o4.2.2.2.2.2.2.2.2.2.2.2.2.2.2.2.2.2.2.2.1, o4.2.2.2.2.2.2.2.2.2.2.2.2.2.2.2.2.2.2.2.2.1, o4.2.2.2.2.2.2.2.2.2.2.2.2.2.2.2.2.2.2.2.2.2.1, o4.2.2.2.2.2.2.2.2.2.2.2.2.2.2.2.2.2.2.2.2.2.2)
  else
    some ((-1000001 : Int32), t_prices_fresh, t_prices_items, t_prices_repeats_rowSize, t_prices_repeats_repeatPrice, t_prices_repeats_correctionPrice, t_prices_repeats_mostCorrections, t_prices_repeats_number, t_prices_repeats_blocks, t_prices_repeats_ends, t_prices_repeats_prices, t_prices_repeats_standing, t_prices_repeats_unlike, t_prices_table, t_telling_length, t_telling_partFrom, t_telling_partTo, t_telling_items, t_telling_deepest, t_telling_repeatsTold, t_telling_correctionsTold, t_telling_firstLetters, t_telling_firstTimes, t_telling_chosenEnd, t_telling_chosenBlock, t_telling_fresh, t_telling_repeats_rowSize, t_telling_repeats_repeatPrice, t_telling_repeats_correctionPrice, t_telling_repeats_mostCorrections, t_telling_repeats_number, t_telling_repeats_blocks, t_telling_repeats_ends, t_telling_repeats_prices, t_telling_repeats_standing, t_telling_repeats_unlike, t_telling_signs)

-- RN_told
def fRN_told_39 (t_reader_length : Int32) (t_reader_signs : Nat → Int32) (t_state_size : Int32) (t_state_letters : Nat → Int32) (t_state_settings : Nat → Int32) (x1 : Int32) (x2 : Int32) (x3 : Int32) (t_reader_at : Int32) (t_reader_size : Int32) (t_reader_faultPlace : Int32) (t_reader_faultReason : Int32) (t_reader_lettersTold : Int32) (t_reader_repeatsTold : Int32) (t_reader_correctionsTold : Int32) (t_reader_mostCorrections : Int32) (t_reader_deepest : Int32) (t_reader_fresh : Int32) (t_reader_letters : Nat → Int32) : Option (Int32 × Int32 × Int32 × Int32 × Int32 × Int32 × Int32 × Int32 × Int32 × Int32 × Int32 × (Nat → Int32)) :=
    (fRd_refresh t_reader_length t_reader_signs t_reader_at t_reader_size t_reader_faultPlace t_reader_faultReason t_reader_lettersTold t_reader_repeatsTold t_reader_correctionsTold t_reader_mostCorrections t_reader_deepest t_reader_fresh t_reader_letters).bind fun o4 =>
      (fRd_hasFault o4.2.2.2.1).bind fun o5 =>
        if o5 = 0 then
          if x3 = 0 then
            (fRd_measure o4.2.1 o4.2.2.2.2.1 o4.2.2.2.2.2.1 o4.2.2.2.2.2.2.1 o4.2.2.2.2.2.2.2.1 o4.2.2.2.2.2.2.2.2.1 o4.2.2.2.2.2.2.2.2.2.2 t_state_size t_state_letters t_state_settings x1).bind fun o8 =>
              some (o8, o4.1, o4.2.1, o4.2.2.1, o4.2.2.2.1, o4.2.2.2.2.1, o4.2.2.2.2.2.1, o4.2.2.2.2.2.2.1, o4.2.2.2.2.2.2.2.1, o4.2.2.2.2.2.2.2.2.1, o4.2.2.2.2.2.2.2.2.2.1, o4.2.2.2.2.2.2.2.2.2.2)
          else
            if o4.2.1 ≤ x2 then
              some ((-1000004 : Int32), o4.1, o4.2.1, o4.2.2.1, o4.2.2.2.1, o4.2.2.2.2.1, o4.2.2.2.2.2.1, o4.2.2.2.2.2.2.1, o4.2.2.2.2.2.2.2.1, o4.2.2.2.2.2.2.2.2.1, o4.2.2.2.2.2.2.2.2.2.1, o4.2.2.2.2.2.2.2.2.2.2)
            else
              (fRd_letter o4.2.2.2.2.2.2.2.2.2.2 x2).bind fun o10 =>
                some (o10, o4.1, o4.2.1, o4.2.2.1, o4.2.2.2.1, o4.2.2.2.2.1, o4.2.2.2.2.2.1, o4.2.2.2.2.2.2.1, o4.2.2.2.2.2.2.2.1, o4.2.2.2.2.2.2.2.2.1, o4.2.2.2.2.2.2.2.2.2.1, o4.2.2.2.2.2.2.2.2.2.2)
        else
          some ((-1000002 : Int32), o4.1, o4.2.1, o4.2.2.1, o4.2.2.2.1, o4.2.2.2.2.1, o4.2.2.2.2.2.1, o4.2.2.2.2.2.2.1, o4.2.2.2.2.2.2.2.1, o4.2.2.2.2.2.2.2.2.1, o4.2.2.2.2.2.2.2.2.2.1, o4.2.2.2.2.2.2.2.2.2.2)
def fRN_told_22 (t_reader_length : Int32) (t_reader_signs : Nat → Int32) (t_state_size : Int32) (t_state_letters : Nat → Int32) (t_state_settings : Nat → Int32) (x1 : Int32) (x2 : Int32) (s0 : Int32) (t_reader_at : Int32) (t_reader_size : Int32) (t_reader_faultPlace : Int32) (t_reader_faultReason : Int32) (t_reader_lettersTold : Int32) (t_reader_repeatsTold : Int32) (t_reader_correctionsTold : Int32) (t_reader_mostCorrections : Int32) (t_reader_deepest : Int32) (t_reader_fresh : Int32) (t_reader_letters : Nat → Int32) : Option (Int32 × Int32 × Int32 × Int32 × Int32 × Int32 × Int32 × Int32 × Int32 × Int32 × Int32 × (Nat → Int32)) :=
    if s0 = 0 then
      if x1 < 0 then
        some ((-1000001 : Int32), t_reader_at, t_reader_size, t_reader_faultPlace, t_reader_faultReason, t_reader_lettersTold, t_reader_repeatsTold, t_reader_correctionsTold, t_reader_mostCorrections, t_reader_deepest, t_reader_fresh, t_reader_letters)
      else
        if x1 ≤ (5 : Int32) then
          fRN_told_39 t_reader_length t_reader_signs t_state_size t_state_letters t_state_settings x1 x2 s0 t_reader_at t_reader_size t_reader_faultPlace t_reader_faultReason t_reader_lettersTold t_reader_repeatsTold t_reader_correctionsTold t_reader_mostCorrections t_reader_deepest t_reader_fresh t_reader_letters
        else
          some ((-1000001 : Int32), t_reader_at, t_reader_size, t_reader_faultPlace, t_reader_faultReason, t_reader_lettersTold, t_reader_repeatsTold, t_reader_correctionsTold, t_reader_mostCorrections, t_reader_deepest, t_reader_fresh, t_reader_letters)
    else
      fRN_told_39 t_reader_length t_reader_signs t_state_size t_state_letters t_state_settings x1 x2 s0 t_reader_at t_reader_size t_reader_faultPlace t_reader_faultReason t_reader_lettersTold t_reader_repeatsTold t_reader_correctionsTold t_reader_mostCorrections t_reader_deepest t_reader_fresh t_reader_letters
def fRN_told_21 (t_reader_length : Int32) (t_reader_signs : Nat → Int32) (t_state_size : Int32) (t_state_letters : Nat → Int32) (t_state_settings : Nat → Int32) (x1 : Int32) (x2 : Int32) (t_reader_at : Int32) (t_reader_size : Int32) (t_reader_faultPlace : Int32) (t_reader_faultReason : Int32) (t_reader_lettersTold : Int32) (t_reader_repeatsTold : Int32) (t_reader_correctionsTold : Int32) (t_reader_mostCorrections : Int32) (t_reader_deepest : Int32) (t_reader_fresh : Int32) (t_reader_letters : Nat → Int32) : Option (Int32 × Int32 × Int32 × Int32 × Int32 × Int32 × Int32 × Int32 × Int32 × Int32 × Int32 × (Nat → Int32)) :=
    fRN_told_22 t_reader_length t_reader_signs t_state_size t_state_letters t_state_settings x1 x2 (0 : Int32) t_reader_at t_reader_size t_reader_faultPlace t_reader_faultReason t_reader_lettersTold t_reader_repeatsTold t_reader_correctionsTold t_reader_mostCorrections t_reader_deepest t_reader_fresh t_reader_letters
def fRN_told (t_reader_length : Int32) (t_reader_signs : Nat → Int32) (t_state_size : Int32) (t_state_letters : Nat → Int32) (t_state_settings : Nat → Int32) (t_reader_at : Int32) (t_reader_size : Int32) (t_reader_faultPlace : Int32) (t_reader_faultReason : Int32) (t_reader_lettersTold : Int32) (t_reader_repeatsTold : Int32) (t_reader_correctionsTold : Int32) (t_reader_mostCorrections : Int32) (t_reader_deepest : Int32) (t_reader_fresh : Int32) (t_reader_letters : Nat → Int32) (x1 : Int32) : Option (Int32 × Int32 × Int32 × Int32 × Int32 × Int32 × Int32 × Int32 × Int32 × Int32 × Int32 × (Nat → Int32)) :=
  if x1 < (100 : Int32) then
    fRN_told_21 t_reader_length t_reader_signs t_state_size t_state_letters t_state_settings x1 (x1 - (100 : Int32)) t_reader_at t_reader_size t_reader_faultPlace t_reader_faultReason t_reader_lettersTold t_reader_repeatsTold t_reader_correctionsTold t_reader_mostCorrections t_reader_deepest t_reader_fresh t_reader_letters
  else
    if (24 : Int32) ≤ (x1 - (100 : Int32)) then
      fRN_told_21 t_reader_length t_reader_signs t_state_size t_state_letters t_state_settings x1 (x1 - (100 : Int32)) t_reader_at t_reader_size t_reader_faultPlace t_reader_faultReason t_reader_lettersTold t_reader_repeatsTold t_reader_correctionsTold t_reader_mostCorrections t_reader_deepest t_reader_fresh t_reader_letters
    else
      fRN_told_22 t_reader_length t_reader_signs t_state_size t_state_letters t_state_settings x1 (x1 - (100 : Int32)) (1 : Int32) t_reader_at t_reader_size t_reader_faultPlace t_reader_faultReason t_reader_lettersTold t_reader_repeatsTold t_reader_correctionsTold t_reader_mostCorrections t_reader_deepest t_reader_fresh t_reader_letters

-- RN_turn
def fRN_turn (t_state_size : Int32) (t_state_settings : Nat → Int32) (t_history_size : Int32) (t_history_states_e0_size : Int32) (t_history_states_e0_letters : Nat → Int32) (t_history_states_e0_settings : Nat → Int32) (t_history_states_e1_size : Int32) (t_history_states_e1_letters : Nat → Int32) (t_history_states_e1_settings : Nat → Int32) (t_history_states_e2_size : Int32) (t_history_states_e2_letters : Nat → Int32) (t_history_states_e2_settings : Nat → Int32) (t_history_states_e3_size : Int32) (t_history_states_e3_letters : Nat → Int32) (t_history_states_e3_settings : Nat → Int32) (t_numbers_fresh : Int32) (t_prices_fresh : Int32) (t_runs_fresh : Int32) (t_state_letters : Nat → Int32) (t_telling_fresh : Int32) (t_trial_fresh : Int32) : Option (Int32 × Int32 × Int32 × (Nat → Int32) × (Nat → Int32) × Int32 × (Nat → Int32) × (Nat → Int32) × Int32 × (Nat → Int32) × (Nat → Int32) × Int32 × (Nat → Int32) × (Nat → Int32) × Int32 × Int32 × Int32 × (Nat → Int32) × Int32 × Int32) :=
  if t_state_size = 0 then
    some ((-1000002 : Int32), t_history_size, t_history_states_e0_size, t_history_states_e0_letters, t_history_states_e0_settings, t_history_states_e1_size, t_history_states_e1_letters, t_history_states_e1_settings, t_history_states_e2_size, t_history_states_e2_letters, t_history_states_e2_settings, t_history_states_e3_size, t_history_states_e3_letters, t_history_states_e3_settings, t_numbers_fresh, t_prices_fresh, t_runs_fresh, t_state_letters, t_telling_fresh, t_trial_fresh)
  else
    (fRN_beginChange t_state_size t_state_letters t_state_settings t_history_size t_history_states_e0_size t_history_states_e0_letters t_history_states_e0_settings t_history_states_e1_size t_history_states_e1_letters t_history_states_e1_settings t_history_states_e2_size t_history_states_e2_letters t_history_states_e2_settings t_history_states_e3_size t_history_states_e3_letters t_history_states_e3_settings).bind fun o2 =>
      (fSt_reverse t_state_size t_state_letters).bind fun o15 =>
        (fSt_letter t_state_size o15 (0 : Int32)).bind fun o16 =>
          some (o16, o2.1, o2.2.1, o2.2.2.1, o2.2.2.2.1, o2.2.2.2.2.1, o2.2.2.2.2.2.1, o2.2.2.2.2.2.2.1, o2.2.2.2.2.2.2.2.1, o2.2.2.2.2.2.2.2.2.1, o2.2.2.2.2.2.2.2.2.2.1, o2.2.2.2.2.2.2.2.2.2.2.1, o2.2.2.2.2.2.2.2.2.2.2.2.1, o2.2.2.2.2.2.2.2.2.2.2.2.2.1, o2.2.2.2.2.2.2.2.2.2.2.2.2.2.1, o2.2.2.2.2.2.2.2.2.2.2.2.2.2.2.1, o2.2.2.2.2.2.2.2.2.2.2.2.2.2.2.2.1, o15, o2.2.2.2.2.2.2.2.2.2.2.2.2.2.2.2.2.1, o2.2.2.2.2.2.2.2.2.2.2.2.2.2.2.2.2.2)

-- RN_type
def fRN_type (t_reader_length : Int32) (t_reader_fresh : Int32) (t_reader_signs : Nat → Int32) (x1 : Int32) : Option (Int32 × Int32 × Int32 × (Nat → Int32)) :=
  if x1 < (32 : Int32) then
    some ((-1000001 : Int32), t_reader_length, t_reader_fresh, t_reader_signs)
  else
    if x1 ≤ (126 : Int32) then
      if t_reader_length < (60 : Int32) then
        (fRd_add t_reader_length t_reader_signs x1).bind fun o4 =>
          some (o4.1, o4.1, o4.2.1, o4.2.2)
      else
        some ((-1000003 : Int32), t_reader_length, t_reader_fresh, t_reader_signs)
    else
      some ((-1000001 : Int32), t_reader_length, t_reader_fresh, t_reader_signs)

-- RN_undo
def fRN_undo (t_history_states_e0_size : Int32) (t_history_states_e0_letters : Nat → Int32) (t_history_states_e0_settings : Nat → Int32) (t_history_states_e1_size : Int32) (t_history_states_e1_letters : Nat → Int32) (t_history_states_e1_settings : Nat → Int32) (t_history_states_e2_size : Int32) (t_history_states_e2_letters : Nat → Int32) (t_history_states_e2_settings : Nat → Int32) (t_history_states_e3_size : Int32) (t_history_states_e3_letters : Nat → Int32) (t_history_states_e3_settings : Nat → Int32) (t_history_size : Int32) (t_numbers_fresh : Int32) (t_prices_fresh : Int32) (t_runs_fresh : Int32) (t_state_size : Int32) (t_state_letters : Nat → Int32) (t_state_settings : Nat → Int32) (t_telling_fresh : Int32) (t_trial_fresh : Int32) : Option (Int32 × Int32 × Int32 × Int32 × Int32 × Int32 × (Nat → Int32) × (Nat → Int32) × Int32 × Int32) :=
  if t_history_size = 0 then
    some ((-1000002 : Int32), t_history_size, t_numbers_fresh, t_prices_fresh, t_runs_fresh, t_state_size, t_state_letters, t_state_settings, t_telling_fresh, t_trial_fresh)
  else
    (fHi_giveBack t_history_states_e0_size t_history_states_e0_letters t_history_states_e0_settings t_history_states_e1_size t_history_states_e1_letters t_history_states_e1_settings t_history_states_e2_size t_history_states_e2_letters t_history_states_e2_settings t_history_states_e3_size t_history_states_e3_letters t_history_states_e3_settings t_history_size t_state_size t_state_letters t_state_settings).bind fun o2 =>
      (fRN_forgetAnswers).bind fun o3 =>
        some (o2.1, o2.1, o3.1, o3.2.1, o3.2.2.1, o2.2.1, o2.2.2.1, o2.2.2.2, o3.2.2.2.1, o3.2.2.2.2)

-- RN_unlike
def fRN_unlike (t_state_size : Int32) (t_state_letters : Nat → Int32) (x1 : Int32) (x2 : Int32) (x3 : Int32) : Option (Int32) :=
  (fSt_hasPart t_state_size x1 x2).bind fun o1 =>
    if o1 = 0 then
      some (-1000001 : Int32)
    else
      if x3 < (1 : Int32) then
        some (-1000001 : Int32)
      else
        if x3 ≤ (24 : Int32) then
          (fSt_unlikeLetters t_state_size t_state_letters x1 x2 x3).bind fun o5 =>
            some o5
        else
          some (-1000001 : Int32)

-- RN_would
def fRN_would (t_state_size : Int32) (t_state_letters : Nat → Int32) (t_state_settings : Nat → Int32) (t_trial_prices_items : Nat → Int32) (t_trial_prices_repeats_rowSize : Int32) (t_trial_prices_repeats_repeatPrice : Int32) (t_trial_prices_repeats_correctionPrice : Int32) (t_trial_prices_repeats_mostCorrections : Int32) (t_trial_prices_repeats_number : Int32) (t_trial_prices_repeats_blocks : Nat → Int32) (t_trial_prices_repeats_ends : Nat → Int32) (t_trial_prices_repeats_prices : Nat → Int32) (t_trial_prices_repeats_standing : Nat → Int32) (t_trial_prices_repeats_unlike : Nat → Int32) (t_trial_prices_table : Nat → Int32) (t_trial_tried_size : Int32) (t_trial_tried_letters : Nat → Int32) (t_trial_tried_settings : Nat → Int32) (x1 : Int32) (x2 : Int32) : Option (Int32 × (Nat → Int32) × Int32 × Int32 × Int32 × Int32 × Int32 × (Nat → Int32) × (Nat → Int32) × (Nat → Int32) × (Nat → Int32) × (Nat → Int32) × (Nat → Int32) × Int32 × (Nat → Int32) × (Nat → Int32)) :=
  (fSt_hasPlace t_state_size x1).bind fun o1 =>
    if o1 = 0 then
      some ((-1000001 : Int32), t_trial_prices_items, t_trial_prices_repeats_rowSize, t_trial_prices_repeats_repeatPrice, t_trial_prices_repeats_correctionPrice, t_trial_prices_repeats_mostCorrections, t_trial_prices_repeats_number, t_trial_prices_repeats_blocks, t_trial_prices_repeats_ends, t_trial_prices_repeats_prices, t_trial_prices_repeats_standing, t_trial_prices_repeats_unlike, t_trial_prices_table, t_trial_tried_size, t_trial_tried_letters, t_trial_tried_settings)
    else
      (fRN_isKind x2).bind fun o3 =>
        if o3 = 0 then
          some ((-1000001 : Int32), t_trial_prices_items, t_trial_prices_repeats_rowSize, t_trial_prices_repeats_repeatPrice, t_trial_prices_repeats_correctionPrice, t_trial_prices_repeats_mostCorrections, t_trial_prices_repeats_number, t_trial_prices_repeats_blocks, t_trial_prices_repeats_ends, t_trial_prices_repeats_prices, t_trial_prices_repeats_standing, t_trial_prices_repeats_unlike, t_trial_prices_table, t_trial_tried_size, t_trial_tried_letters, t_trial_tried_settings)
        else
          (fTr_priceWith t_state_size t_state_letters t_state_settings t_trial_prices_items t_trial_prices_repeats_number t_trial_prices_repeats_blocks t_trial_prices_repeats_ends t_trial_prices_repeats_prices t_trial_prices_repeats_standing t_trial_prices_repeats_unlike t_trial_prices_table t_trial_tried_size t_trial_tried_letters t_trial_tried_settings x1 x2).bind fun o5 =>
            some (o5.1, o5.2.1, o5.2.2.1, o5.2.2.2.1, o5.2.2.2.2.1, o5.2.2.2.2.2.1, o5.2.2.2.2.2.2.1, o5.2.2.2.2.2.2.2.1, o5.2.2.2.2.2.2.2.2.1, o5.2.2.2.2.2.2.2.2.2.1, o5.2.2.2.2.2.2.2.2.2.2.1, o5.2.2.2.2.2.2.2.2.2.2.2.1, o5.2.2.2.2.2.2.2.2.2.2.2.2.1, o5.2.2.2.2.2.2.2.2.2.2.2.2.2.1, o5.2.2.2.2.2.2.2.2.2.2.2.2.2.2.1, o5.2.2.2.2.2.2.2.2.2.2.2.2.2.2.2)
