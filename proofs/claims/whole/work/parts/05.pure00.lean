def f_J6_numberOfLeadingZeros_0f7a4_L73 (p0 : Int32)   (v0 : Int32) (v1 : Int32) (S : St) : Option (Int32 × St) :=
  some ((v1 - (((v0).toUInt32 >>> (((1 : Int32)).toUInt32 &&& Int32.toUInt32 31)).toInt32)), S)
def f_J6_numberOfLeadingZeros_0f7a4_L61 (p0 : Int32)   (v0 : Int32) (v1 : Int32) (S : St) : Option (Int32 × St) :=
  if v0 < (4 : Int32) then
    f_J6_numberOfLeadingZeros_0f7a4_L73 p0   v0 v1 S
  else
    pin (v1 + (-2 : Int32)) fun x6 =>
    pin (((v0).toUInt32 >>> (((2 : Int32)).toUInt32 &&& Int32.toUInt32 31)).toInt32) fun x7 =>
    f_J6_numberOfLeadingZeros_0f7a4_L73 p0   x7 x6 S
def f_J6_numberOfLeadingZeros_0f7a4_L48 (p0 : Int32)   (v0 : Int32) (v1 : Int32) (S : St) : Option (Int32 × St) :=
  if v0 < (16 : Int32) then
    f_J6_numberOfLeadingZeros_0f7a4_L61 p0   v0 v1 S
  else
    pin (v1 + (-4 : Int32)) fun x8 =>
    pin (((v0).toUInt32 >>> (((4 : Int32)).toUInt32 &&& Int32.toUInt32 31)).toInt32) fun x9 =>
    f_J6_numberOfLeadingZeros_0f7a4_L61 p0   x9 x8 S
def f_J6_numberOfLeadingZeros_0f7a4_L33 (p0 : Int32)   (v0 : Int32) (v1 : Int32) (S : St) : Option (Int32 × St) :=
  if v0 < (256 : Int32) then
    f_J6_numberOfLeadingZeros_0f7a4_L48 p0   v0 v1 S
  else
    pin (v1 + (-8 : Int32)) fun x10 =>
    pin (((v0).toUInt32 >>> (((8 : Int32)).toUInt32 &&& Int32.toUInt32 31)).toInt32) fun x11 =>
    f_J6_numberOfLeadingZeros_0f7a4_L48 p0   x11 x10 S
def f_J6_numberOfLeadingZeros_0f7a4 (p0 : Int32) (S : St) : Option (Int32 × St) :=
  if 0 < p0 then
    if p0 < (65536 : Int32) then
      f_J6_numberOfLeadingZeros_0f7a4_L33 p0   p0 (31 : Int32) S
    else
      pin ((31 : Int32) + (-16 : Int32)) fun x12 =>
      pin (((p0).toUInt32 >>> (((16 : Int32)).toUInt32 &&& Int32.toUInt32 31)).toInt32) fun x13 =>
      f_J6_numberOfLeadingZeros_0f7a4_L33 p0   x13 x12 S
  else
    if p0 = 0 then
      some ((32 : Int32), S)
    else
      some ((0 : Int32), S)
def f_J7_fill_53178_L5 (fu : Nat) (k0 : Nat) (p1 : Int32)   : Nat → Int32 → Int32 → Int32 → St → Option (Int32 × St)
  | 0, _, _, _, _ => none
  | n + 1, v1, v2, v3, S =>
    if v3 ≤ v2 then
      some ((0 : Int32), S)
    else
      if (v2 < 0 ∨ zx_len k0 ≤ v2.toNatClampNeg) then none else
      pin (puS S k0 v2.toNatClampNeg v1) fun S3 =>
      pin (v2 + (1 : Int32)) fun x5 =>
      f_J7_fill_53178_L5 fu k0 p1   n v1 x5 v3 S3
theorem f_J7_fill_53178_L5_s (fu : Nat) (k0 : Nat) (p1 : Int32)   (n : Nat) (v1 : Int32) (v2 : Int32) (v3 : Int32) (S : St) : f_J7_fill_53178_L5 fu k0 p1   (n + 1) v1 v2 v3 S =
    if v3 ≤ v2 then
      some ((0 : Int32), S)
    else
      if (v2 < 0 ∨ zx_len k0 ≤ v2.toNatClampNeg) then none else
      pin (puS S k0 v2.toNatClampNeg v1) fun S3 =>
      pin (v2 + (1 : Int32)) fun x5 =>
      f_J7_fill_53178_L5 fu k0 p1   n v1 x5 v3 S3 := rfl
def f_J7_fill_53178 (fu : Nat) (k0 : Nat) (p1 : Int32) (S : St) : Option (Int32 × St) :=
  pin (Int32.ofNat (zx_len k0)) fun x1 =>
  f_J7_fill_53178_L5 fu k0 p1   fu p1 (0 : Int32) x1 S
def f_X8_isSymbol (p0 : Int32) (S : St) : Option (Int32 × St) :=
  if p0 < 0 then
    some ((0 : Int32), S)
  else
    if (256 : Int32) ≤ p0 then
      some ((0 : Int32), S)
    else
      some ((1 : Int32), S)
def f_X5_shareOf (p0 : Int32) (S : St) : Option (Int32 × St) :=
  bnd (f_X8_isSymbol p0 S) fun r1 S2 =>
  if r1 = 0 then
    some ((0 : Int32), S2)
  else
    if (p0 < 0 ∨ 256 ≤ p0.toNatClampNeg) then none else
    some ((S2 12 p0.toNatClampNeg), S2)
def f_X5_startOf (p0 : Int32) (S : St) : Option (Int32 × St) :=
  bnd (f_X8_isSymbol p0 S) fun r1 S2 =>
  if r1 = 0 then
    some ((0 : Int32), S2)
  else
    if (p0 < 0 ∨ 256 ≤ p0.toNatClampNeg) then none else
    some ((S2 13 p0.toNatClampNeg), S2)
def f_X0_divided (p0 : Int32) (p1 : Int32) (S : St) : Option (Int32 × St) :=
  bnd (f_X5_shareOf p1 S) fun r1 S2 =>
  if (1 : Int32) ≤ r1 then
    if r1 = 0 then none else
    if r1 = 0 then none else
    bnd (f_X5_startOf p1 S2) fun r7 S8 =>
    some (((((p0 / r1) <<< ((S2 8 2) &&& 31)) + (p0 - p0 / r1 * r1)) + r7), S8)
  else
    some ((S2 8 3), S2)
def f_X0_isByTable  (S : St) : Option (Int32 × St) :=
  if (S 8 1) = 0 then
    some ((1 : Int32), S)
  else
    some ((0 : Int32), S)
def f_X5_placeOf (p0 : Int32) (p1 : Int32) (S : St) : Option (Int32 × St) :=
  bnd (f_X5_startOf p0 S) fun r1 S2 =>
  bnd (f_X5_shareOf p0 S2) fun r4 S5 =>
  pin ((r1 + p1) - r4) fun x7 =>
  if x7 < 0 then
    some ((0 : Int32), S5)
  else
    if (S5 9 7) ≤ x7 then
      some ((0 : Int32), S5)
    else
      if (x7 < 0 ∨ 4096 ≤ x7.toNatClampNeg) then none else
      some ((S5 11 x7.toNatClampNeg), S5)
def f_X0_advance_L74 (fu : Nat) (p0 : Int32) (p1 : Int32)   (v1 : Int32) (v2 : Int32) (v7 : Int32) (S : St) : Option (Int32 × St) :=
  pin (puS S 8 6 v7) fun S10 =>
  pin (puS S10 8 7 (v1 &&& (((1 : Int32) <<< ((v7 * (S10 8 4)) &&& 31)) - (1 : Int32)))) fun S11 =>
  pin (v1 >>> ((v7 * (S11 8 4)) &&& 31)) fun x12 =>
  bnd (f_X0_isByTable  S11) fun r13 S14 =>
  if r13 = 0 then
    bnd (f_X0_divided x12 v2 S14) fun r17 S18 =>
    pin (puS S18 8 5 r17) fun S20 =>
    some ((0 : Int32), S20)
  else
    bnd (f_X5_placeOf v2 x12 S14) fun r21 S22 =>
    pin (puS S22 8 5 ((S14 8 3) + r21)) fun S24 =>
    some ((0 : Int32), S24)
def f_X0_advance_L42 (fu : Nat) (p0 : Int32) (p1 : Int32)   : Nat → Int32 → Int32 → Int64 → Int32 → Int32 → St → Option (Int32 × St)
  | 0, _, _, _, _, _, _ => none
  | n + 1, v1, v2, v5, v7, v8, S =>
    if (12 : Int32) ≤ v8 then
      f_X0_advance_L74 fu p0 p1   v1 v2 v7 S
    else
      if (lg_cmp (((v1 >>> ((v7 * (S 8 4)) &&& 31))).toInt64) v5) < 0 then
        f_X0_advance_L74 fu p0 p1   v1 v2 v7 S
      else
        pin (v7 + (1 : Int32)) fun x26 =>
        pin (v8 + (1 : Int32)) fun x27 =>
        f_X0_advance_L42 fu p0 p1   n v1 v2 v5 x26 x27 S
theorem f_X0_advance_L42_s (fu : Nat) (p0 : Int32) (p1 : Int32)   (n : Nat) (v1 : Int32) (v2 : Int32) (v5 : Int64) (v7 : Int32) (v8 : Int32) (S : St) : f_X0_advance_L42 fu p0 p1   (n + 1) v1 v2 v5 v7 v8 S =
    if (12 : Int32) ≤ v8 then
      f_X0_advance_L74 fu p0 p1   v1 v2 v7 S
    else
      if (lg_cmp (((v1 >>> ((v7 * (S 8 4)) &&& 31))).toInt64) v5) < 0 then
        f_X0_advance_L74 fu p0 p1   v1 v2 v7 S
      else
        pin (v7 + (1 : Int32)) fun x26 =>
        pin (v8 + (1 : Int32)) fun x27 =>
        f_X0_advance_L42 fu p0 p1   n v1 v2 v5 x26 x27 S := rfl
def f_X0_advance_L34 (fu : Nat) (p0 : Int32) (p1 : Int32)   (v1 : Int32) (v2 : Int32) (t0 : Int64) (S : St) : Option (Int32 × St) :=
  f_X0_advance_L42 fu p0 p1   fu v1 v2 t0 (0 : Int32) (0 : Int32) S
def f_X0_advance (fu : Nat) (p0 : Int32) (p1 : Int32) (S : St) : Option (Int32 × St) :=
  bnd (f_X5_shareOf p1 S) fun r1 S2 =>
  pin ((r1).toInt64) fun x4 =>
  bnd (f_X0_isByTable  S2) fun r5 S6 =>
  if r5 = 0 then
    f_X0_advance_L34 fu p0 p1   p0 p1 (x4 <<< ((((31 : Int32) - (S6 8 2))).toInt64 &&& 63)) S6
  else
    f_X0_advance_L34 fu p0 p1   p0 p1 ((2 : Int64) * x4) S6
def f_X0_placeOfState (p0 : Int32) (S : St) : Option (Int32 × St) :=
  bnd (f_X0_isByTable  S) fun r1 S2 =>
  if r1 = 0 then
    some ((p0 &&& (((1 : Int32) <<< ((S2 8 2) &&& 31)) - (1 : Int32))), S2)
  else
    some ((p0 - (S2 8 3)), S2)
def f_X5_symbolAt (p0 : Int32) (S : St) : Option (Int32 × St) :=
  if p0 < 0 then
    some ((0 : Int32), S)
  else
    if (S 9 7) ≤ p0 then
      some ((0 : Int32), S)
    else
      if (p0 < 0 ∨ 4096 ≤ p0.toNatClampNeg) then none else
      some (((S 10 p0.toNatClampNeg) &&& (255 : Int32)), S)
def f_X0_symbolOf (p0 : Int32) (S : St) : Option (Int32 × St) :=
  bnd (f_X0_placeOfState p0 S) fun r1 S2 =>
  bnd (f_X5_symbolAt r1 S2) fun r4 S5 =>
  some (r4, S5)
def f_X5_rankAt (p0 : Int32) (S : St) : Option (Int32 × St) :=
  if p0 < 0 then
    some ((0 : Int32), S)
  else
    if (S 9 7) ≤ p0 then
      some ((0 : Int32), S)
    else
      if (p0 < 0 ∨ 4096 ≤ p0.toNatClampNeg) then none else
      some (((S 10 p0.toNatClampNeg) >>> ((8 : Int32) &&& 31)), S)
def f_X0_behindSymbol (p0 : Int32) (S : St) : Option (Int32 × St) :=
  bnd (f_X0_isByTable  S) fun r1 S2 =>
  if r1 = 0 then
    bnd (f_X0_symbolOf p0 S2) fun r5 S6 =>
    bnd (f_X5_shareOf r5 S6) fun r8 S9 =>
    bnd (f_X0_placeOfState p0 S9) fun r11 S12 =>
    bnd (f_X5_startOf r5 S12) fun r14 S15 =>
    some ((((r8 * (p0 >>> ((S9 8 2) &&& 31))) + r11) - r14), S15)
  else
    bnd (f_X5_rankAt (p0 - (S2 8 3)) S2) fun r17 S18 =>
    some (r17, S18)
def f_X0_isState (p0 : Int32) (S : St) : Option (Int32 × St) :=
  if p0 < (S 8 3) then
    some ((0 : Int32), S)
  else
    bnd (f_X0_isByTable  S) fun r2 S3 =>
    if r2 = 0 then
      some ((1 : Int32), S3)
    else
      if ((2 : Int32) * (S3 8 3)) ≤ p0 then
        some ((0 : Int32), S3)
      else
        some ((1 : Int32), S3)
def f_X5_giveRanks_L57 (fu : Nat)  (K10 : Int32 → St → Option (Int32 × St))  (v1 : Int32) (v2 : Int32) (S : St) : Option (Int32 × St) :=
  if (v2 < 0 ∨ 256 ≤ v2.toNatClampNeg) then none else
  if (v2 < 0 ∨ 256 ≤ v2.toNatClampNeg) then none else
  if (v1 < 0 ∨ 4096 ≤ v1.toNatClampNeg) then none else
  pin (puS S 10 v1.toNatClampNeg ((((S 12 v2.toNatClampNeg) + (S 14 v2.toNatClampNeg)) <<< ((8 : Int32) &&& 31)) ||| v2)) fun S13 =>
  if (v2 < 0 ∨ 256 ≤ v2.toNatClampNeg) then none else
  if (v2 < 0 ∨ 256 ≤ v2.toNatClampNeg) then none else
  pin (puS S13 14 v2.toNatClampNeg ((S13 14 v2.toNatClampNeg) + (1 : Int32))) fun S16 =>
  pin (v1 + (1 : Int32)) fun x18 =>
  K10 x18 S16
def f_X5_giveRanks_L10 (fu : Nat)    : Nat → Int32 → St → Option (Int32 × St)
  | 0, _, _ => none
  | n + 1, v1, S =>
    if (S 9 7) ≤ v1 then
      some ((0 : Int32), S)
    else
      if (v1 < 0 ∨ 4096 ≤ v1.toNatClampNeg) then none else
      pin ((S 10 v1.toNatClampNeg) &&& (255 : Int32)) fun x6 =>
      if (x6 < 0 ∨ 256 ≤ x6.toNatClampNeg) then none else
      if (x6 < 0 ∨ 256 ≤ x6.toNatClampNeg) then none else
      pin ((S 13 x6.toNatClampNeg) + (S 14 x6.toNatClampNeg)) fun x9 =>
      if (4096 : Int32) ≤ x9 then
        f_X5_giveRanks_L57 fu  (f_X5_giveRanks_L10 fu    n)  v1 x6 S
      else
        if (x9 < 0 ∨ 4096 ≤ x9.toNatClampNeg) then none else
        pin (puS S 11 x9.toNatClampNeg v1) fun S19 =>
        f_X5_giveRanks_L57 fu  (f_X5_giveRanks_L10 fu    n)  v1 x6 S19
theorem f_X5_giveRanks_L10_s (fu : Nat)    (n : Nat) (v1 : Int32) (S : St) : f_X5_giveRanks_L10 fu    (n + 1) v1 S =
    if (S 9 7) ≤ v1 then
      some ((0 : Int32), S)
    else
      if (v1 < 0 ∨ 4096 ≤ v1.toNatClampNeg) then none else
      pin ((S 10 v1.toNatClampNeg) &&& (255 : Int32)) fun x6 =>
      if (x6 < 0 ∨ 256 ≤ x6.toNatClampNeg) then none else
      if (x6 < 0 ∨ 256 ≤ x6.toNatClampNeg) then none else
      pin ((S 13 x6.toNatClampNeg) + (S 14 x6.toNatClampNeg)) fun x9 =>
      if (4096 : Int32) ≤ x9 then
        f_X5_giveRanks_L57 fu  (f_X5_giveRanks_L10 fu    n)  v1 x6 S
      else
        if (x9 < 0 ∨ 4096 ≤ x9.toNatClampNeg) then none else
        pin (puS S 11 x9.toNatClampNeg v1) fun S19 =>
        f_X5_giveRanks_L57 fu  (f_X5_giveRanks_L10 fu    n)  v1 x6 S19 := rfl
def f_X5_giveRanks (fu : Nat)  (S : St) : Option (Int32 × St) :=
  bnd (f_J7_fill_53178 fu 14 (0 : Int32) S) fun r1 S2 =>
  f_X5_giveRanks_L10 fu    fu (0 : Int32) S2
def f_X5_layByStep_L14 (fu : Nat) (p0 : Int32) (K4 : Int32 → Int32 → Int32 → St → Option (Int32 × St))  : Nat → Int32 → Int32 → Int32 → Int32 → St → Option (Int32 × St)
  | 0, _, _, _, _, _ => none
  | n + 1, v1, v2, v3, v4, S =>
    if (v3 < 0 ∨ 256 ≤ v3.toNatClampNeg) then none else
    if (S 12 v3.toNatClampNeg) ≤ v4 then
      pin (v3 + (1 : Int32)) fun x4 =>
      K4 v1 v2 x4 S
    else
      if (v2 < 0 ∨ 4096 ≤ v2.toNatClampNeg) then none else
      pin (puS S 10 v2.toNatClampNeg v3) fun S5 =>
      pin ((v2 + v1) &&& ((S5 9 7) - (1 : Int32))) fun x7 =>
      pin (v4 + (1 : Int32)) fun x8 =>
      f_X5_layByStep_L14 fu p0 K4  n v1 x7 v3 x8 S5
theorem f_X5_layByStep_L14_s (fu : Nat) (p0 : Int32) (K4 : Int32 → Int32 → Int32 → St → Option (Int32 × St))  (n : Nat) (v1 : Int32) (v2 : Int32) (v3 : Int32) (v4 : Int32) (S : St) : f_X5_layByStep_L14 fu p0 K4  (n + 1) v1 v2 v3 v4 S =
    if (v3 < 0 ∨ 256 ≤ v3.toNatClampNeg) then none else
    if (S 12 v3.toNatClampNeg) ≤ v4 then
      pin (v3 + (1 : Int32)) fun x4 =>
      K4 v1 v2 x4 S
    else
      if (v2 < 0 ∨ 4096 ≤ v2.toNatClampNeg) then none else
      pin (puS S 10 v2.toNatClampNeg v3) fun S5 =>
      pin ((v2 + v1) &&& ((S5 9 7) - (1 : Int32))) fun x7 =>
      pin (v4 + (1 : Int32)) fun x8 =>
      f_X5_layByStep_L14 fu p0 K4  n v1 x7 v3 x8 S5 := rfl
def f_X5_layByStep_L4 (fu : Nat) (p0 : Int32)   : Nat → Int32 → Int32 → Int32 → St → Option (Int32 × St)
  | 0, _, _, _, _ => none
  | n + 1, v1, v2, v3, S =>
    if (256 : Int32) ≤ v3 then
      some ((0 : Int32), S)
    else
      f_X5_layByStep_L14 fu p0 (f_X5_layByStep_L4 fu p0   n)  fu v1 v2 v3 (0 : Int32) S
theorem f_X5_layByStep_L4_s (fu : Nat) (p0 : Int32)   (n : Nat) (v1 : Int32) (v2 : Int32) (v3 : Int32) (S : St) : f_X5_layByStep_L4 fu p0   (n + 1) v1 v2 v3 S =
    if (256 : Int32) ≤ v3 then
      some ((0 : Int32), S)
    else
      f_X5_layByStep_L14 fu p0 (f_X5_layByStep_L4 fu p0   n)  fu v1 v2 v3 (0 : Int32) S := rfl
def f_X5_layByStep (fu : Nat) (p0 : Int32) (S : St) : Option (Int32 × St) :=
  f_X5_layByStep_L4 fu p0   fu p0 (0 : Int32) (0 : Int32) S
def f_X5_isAhead (p0 : Int32) (p1 : Int32) (S : St) : Option (Int32 × St) :=
  if (p0 < 0 ∨ 256 ≤ p0.toNatClampNeg) then none else
  if (p1 < 0 ∨ 256 ≤ p1.toNatClampNeg) then none else
  pin ((((2 : Int32) * (S 14 p0.toNatClampNeg)) + (1 : Int32)) * (S 12 p1.toNatClampNeg)) fun x3 =>
  if (p1 < 0 ∨ 256 ≤ p1.toNatClampNeg) then none else
  if (p0 < 0 ∨ 256 ≤ p0.toNatClampNeg) then none else
  pin ((((2 : Int32) * (S 14 p1.toNatClampNeg)) + (1 : Int32)) * (S 12 p0.toNatClampNeg)) fun x6 =>
  if x3 < x6 then
    some ((1 : Int32), S)
  else
    if x3 = x6 then
      if p1 ≤ p0 then
        some ((0 : Int32), S)
      else
        some ((1 : Int32), S)
    else
      some ((0 : Int32), S)
def f_X5_sink_L66 (fu : Nat) (p0 : Int32) (K4 : Int32 → Int32 → St → Option (Int32 × St))  (v2 : Int32) (v3 : Int32) (v4 : Int32) (S : St) : Option (Int32 × St) :=
  if (v4 < 0 ∨ 256 ≤ v4.toNatClampNeg) then none else
  if (v2 < 0 ∨ 256 ≤ v2.toNatClampNeg) then none else
  bnd (f_X5_isAhead (S 15 v4.toNatClampNeg) (S 15 v2.toNatClampNeg) S) fun r7 S8 =>
  if r7 = 0 then
    some ((0 : Int32), S8)
  else
    if (v2 < 0 ∨ 256 ≤ v2.toNatClampNeg) then none else
    pin (S8 15 v2.toNatClampNeg) fun x12 =>
    if (v4 < 0 ∨ 256 ≤ v4.toNatClampNeg) then none else
    if (v2 < 0 ∨ 256 ≤ v2.toNatClampNeg) then none else
    pin (puS S8 15 v2.toNatClampNeg (S8 15 v4.toNatClampNeg)) fun S14 =>
    if (v4 < 0 ∨ 256 ≤ v4.toNatClampNeg) then none else
    pin (puS S14 15 v4.toNatClampNeg x12) fun S16 =>
    pin (v3 + (1 : Int32)) fun x18 =>
    K4 v4 x18 S16
def f_X5_sink_L4 (fu : Nat) (p0 : Int32)   : Nat → Int32 → Int32 → St → Option (Int32 × St)
  | 0, _, _, _ => none
  | n + 1, v2, v3, S =>
    if (8 : Int32) ≤ v3 then
      some ((0 : Int32), S)
    else
      if (S 9 6) ≤ (((2 : Int32) * v2) + (1 : Int32)) then
        some ((0 : Int32), S)
      else
        pin (((2 : Int32) * v2) + (1 : Int32)) fun x3 =>
        if (S 9 6) ≤ (x3 + (1 : Int32)) then
          f_X5_sink_L66 fu p0 (f_X5_sink_L4 fu p0   n)  v2 v3 x3 S
        else
          if ((x3 + (1 : Int32)) < 0 ∨ 256 ≤ (x3 + (1 : Int32)).toNatClampNeg) then none else
          if (x3 < 0 ∨ 256 ≤ x3.toNatClampNeg) then none else
          bnd (f_X5_isAhead (S 15 (x3 + (1 : Int32)).toNatClampNeg) (S 15 x3.toNatClampNeg) S) fun r21 S22 =>
          if r21 = 0 then
            f_X5_sink_L66 fu p0 (f_X5_sink_L4 fu p0   n)  v2 v3 x3 S22
          else
            pin (x3 + (1 : Int32)) fun x25 =>
            f_X5_sink_L66 fu p0 (f_X5_sink_L4 fu p0   n)  v2 v3 x25 S22
theorem f_X5_sink_L4_s (fu : Nat) (p0 : Int32)   (n : Nat) (v2 : Int32) (v3 : Int32) (S : St) : f_X5_sink_L4 fu p0   (n + 1) v2 v3 S =
    if (8 : Int32) ≤ v3 then
      some ((0 : Int32), S)
    else
      if (S 9 6) ≤ (((2 : Int32) * v2) + (1 : Int32)) then
        some ((0 : Int32), S)
      else
        pin (((2 : Int32) * v2) + (1 : Int32)) fun x3 =>
        if (S 9 6) ≤ (x3 + (1 : Int32)) then
          f_X5_sink_L66 fu p0 (f_X5_sink_L4 fu p0   n)  v2 v3 x3 S
        else
          if ((x3 + (1 : Int32)) < 0 ∨ 256 ≤ (x3 + (1 : Int32)).toNatClampNeg) then none else
          if (x3 < 0 ∨ 256 ≤ x3.toNatClampNeg) then none else
          bnd (f_X5_isAhead (S 15 (x3 + (1 : Int32)).toNatClampNeg) (S 15 x3.toNatClampNeg) S) fun r21 S22 =>
          if r21 = 0 then
            f_X5_sink_L66 fu p0 (f_X5_sink_L4 fu p0   n)  v2 v3 x3 S22
          else
            pin (x3 + (1 : Int32)) fun x25 =>
            f_X5_sink_L66 fu p0 (f_X5_sink_L4 fu p0   n)  v2 v3 x25 S22 := rfl
def f_X5_sink (fu : Nat) (p0 : Int32) (S : St) : Option (Int32 × St) :=
  f_X5_sink_L4 fu p0   fu p0 (0 : Int32) S
def f_X5_layEven_L161 (fu : Nat)  (K81 : Int32 → St → Option (Int32 × St))  (v1 : Int32) (S : St) : Option (Int32 × St) :=
  bnd (f_X5_sink fu (0 : Int32) S) fun r18 S19 =>
  pin (v1 + (1 : Int32)) fun x21 =>
  K81 x21 S19
def f_X5_layEven_L81 (fu : Nat)    : Nat → Int32 → St → Option (Int32 × St)
  | 0, _, _ => none
  | n + 1, v1, S =>
    if (S 9 7) ≤ v1 then
      some ((0 : Int32), S)
    else
      pin (S 15 0) fun x9 =>
      if (v1 < 0 ∨ 4096 ≤ v1.toNatClampNeg) then none else
      pin (puS S 10 v1.toNatClampNeg x9) fun S10 =>
      if (x9 < 0 ∨ 256 ≤ x9.toNatClampNeg) then none else
      if (x9 < 0 ∨ 256 ≤ x9.toNatClampNeg) then none else
      pin (puS S10 14 x9.toNatClampNeg ((S10 14 x9.toNatClampNeg) + (1 : Int32))) fun S13 =>
      if (x9 < 0 ∨ 256 ≤ x9.toNatClampNeg) then none else
      if (x9 < 0 ∨ 256 ≤ x9.toNatClampNeg) then none else
      if (S13 14 x9.toNatClampNeg) = (S13 12 x9.toNatClampNeg) then
        if (S13 9 6) ≤ (1 : Int32) then
          f_X5_layEven_L161 fu  (f_X5_layEven_L81 fu    n)  v1 S13
        else
          pin (puS S13 9 6 ((S13 9 6) - (1 : Int32))) fun S23 =>
          if ((S23 9 6) < 0 ∨ 256 ≤ (S23 9 6).toNatClampNeg) then none else
          pin (puS S23 15 0 (S23 15 (S23 9 6).toNatClampNeg)) fun S25 =>
          f_X5_layEven_L161 fu  (f_X5_layEven_L81 fu    n)  v1 S25
      else
        f_X5_layEven_L161 fu  (f_X5_layEven_L81 fu    n)  v1 S13
theorem f_X5_layEven_L81_s (fu : Nat)    (n : Nat) (v1 : Int32) (S : St) : f_X5_layEven_L81 fu    (n + 1) v1 S =
    if (S 9 7) ≤ v1 then
      some ((0 : Int32), S)
    else
      pin (S 15 0) fun x9 =>
      if (v1 < 0 ∨ 4096 ≤ v1.toNatClampNeg) then none else
      pin (puS S 10 v1.toNatClampNeg x9) fun S10 =>
      if (x9 < 0 ∨ 256 ≤ x9.toNatClampNeg) then none else
      if (x9 < 0 ∨ 256 ≤ x9.toNatClampNeg) then none else
      pin (puS S10 14 x9.toNatClampNeg ((S10 14 x9.toNatClampNeg) + (1 : Int32))) fun S13 =>
      if (x9 < 0 ∨ 256 ≤ x9.toNatClampNeg) then none else
      if (x9 < 0 ∨ 256 ≤ x9.toNatClampNeg) then none else
      if (S13 14 x9.toNatClampNeg) = (S13 12 x9.toNatClampNeg) then
        if (S13 9 6) ≤ (1 : Int32) then
          f_X5_layEven_L161 fu  (f_X5_layEven_L81 fu    n)  v1 S13
        else
          pin (puS S13 9 6 ((S13 9 6) - (1 : Int32))) fun S23 =>
          if ((S23 9 6) < 0 ∨ 256 ≤ (S23 9 6).toNatClampNeg) then none else
          pin (puS S23 15 0 (S23 15 (S23 9 6).toNatClampNeg)) fun S25 =>
          f_X5_layEven_L161 fu  (f_X5_layEven_L81 fu    n)  v1 S25
      else
        f_X5_layEven_L161 fu  (f_X5_layEven_L81 fu    n)  v1 S13 := rfl
def f_X5_layEven_L64 (fu : Nat)    : Nat → Int32 → St → Option (Int32 × St)
  | 0, _, _ => none
  | n + 1, v1, S =>
    if v1 < 0 then
      f_X5_layEven_L81 fu    fu (0 : Int32) S
    else
      bnd (f_X5_sink fu v1 S) fun r26 S27 =>
      pin (v1 + (-1 : Int32)) fun x29 =>
      f_X5_layEven_L64 fu    n x29 S27
theorem f_X5_layEven_L64_s (fu : Nat)    (n : Nat) (v1 : Int32) (S : St) : f_X5_layEven_L64 fu    (n + 1) v1 S =
    if v1 < 0 then
      f_X5_layEven_L81 fu    fu (0 : Int32) S
    else
      bnd (f_X5_sink fu v1 S) fun r26 S27 =>
      pin (v1 + (-1 : Int32)) fun x29 =>
      f_X5_layEven_L64 fu    n x29 S27 := rfl
def f_X5_layEven_L51 (fu : Nat)  (K15 : Int32 → St → Option (Int32 × St))  (v1 : Int32) (S : St) : Option (Int32 × St) :=
  pin (v1 + (1 : Int32)) fun x32 =>
  K15 x32 S
def f_X5_layEven_L15 (fu : Nat)    : Nat → Int32 → St → Option (Int32 × St)
  | 0, _, _ => none
  | n + 1, v1, S =>
    if (256 : Int32) ≤ v1 then
      pin ((S 9 6) / (2 : Int32)) fun x6 =>
      f_X5_layEven_L64 fu    fu x6 S
    else
      if (v1 < 0 ∨ 256 ≤ v1.toNatClampNeg) then none else
      if (S 12 v1.toNatClampNeg) ≤ 0 then
        f_X5_layEven_L51 fu  (f_X5_layEven_L15 fu    n)  v1 S
      else
        if ((S 9 6) < 0 ∨ 256 ≤ (S 9 6).toNatClampNeg) then none else
        pin (puS S 15 (S 9 6).toNatClampNeg v1) fun S33 =>
        pin (puS S33 9 6 ((S33 9 6) + (1 : Int32))) fun S35 =>
        f_X5_layEven_L51 fu  (f_X5_layEven_L15 fu    n)  v1 S35
theorem f_X5_layEven_L15_s (fu : Nat)    (n : Nat) (v1 : Int32) (S : St) : f_X5_layEven_L15 fu    (n + 1) v1 S =
    if (256 : Int32) ≤ v1 then
      pin ((S 9 6) / (2 : Int32)) fun x6 =>
      f_X5_layEven_L64 fu    fu x6 S
    else
      if (v1 < 0 ∨ 256 ≤ v1.toNatClampNeg) then none else
      if (S 12 v1.toNatClampNeg) ≤ 0 then
        f_X5_layEven_L51 fu  (f_X5_layEven_L15 fu    n)  v1 S
      else
        if ((S 9 6) < 0 ∨ 256 ≤ (S 9 6).toNatClampNeg) then none else
        pin (puS S 15 (S 9 6).toNatClampNeg v1) fun S33 =>
        pin (puS S33 9 6 ((S33 9 6) + (1 : Int32))) fun S35 =>
        f_X5_layEven_L51 fu  (f_X5_layEven_L15 fu    n)  v1 S35 := rfl
def f_X5_layEven (fu : Nat)  (S : St) : Option (Int32 × St) :=
  bnd (f_J7_fill_53178 fu 14 (0 : Int32) S) fun r1 S2 =>
  pin (puS S2 9 6 (0 : Int32)) fun S4 =>
  f_X5_layEven_L15 fu    fu (0 : Int32) S4
def f_X6_shareOf (k : Nat) (p0 : Int32) (S : St) : Option (Int32 × St) :=
  bnd (f_X8_isSymbol p0 S) fun r1 S2 =>
  if r1 = 0 then
    some ((0 : Int32), S2)
  else
    if (p0 < 0 ∨ 256 ≤ p0.toNatClampNeg) then none else
    some ((S2 (k + 1) p0.toNatClampNeg), S2)
def f_X5_takeShares_L4 (fu : Nat) (k0 : Nat)   : Nat → Int32 → Int32 → St → Option (Int32 × St)
  | 0, _, _, _ => none
  | n + 1, v2, v3, S =>
    if (256 : Int32) ≤ v3 then
      some ((0 : Int32), S)
    else
      bnd (f_X6_shareOf k0 v3 S) fun r2 S3 =>
      if (v3 < 0 ∨ 256 ≤ v3.toNatClampNeg) then none else
      pin (puS S3 12 v3.toNatClampNeg r2) fun S5 =>
      if (v3 < 0 ∨ 256 ≤ v3.toNatClampNeg) then none else
      pin (puS S5 13 v3.toNatClampNeg v2) fun S7 =>
      if (v3 < 0 ∨ 256 ≤ v3.toNatClampNeg) then none else
      pin (v2 + (S7 12 v3.toNatClampNeg)) fun x10 =>
      pin (v3 + (1 : Int32)) fun x11 =>
      f_X5_takeShares_L4 fu k0   n x10 x11 S7
theorem f_X5_takeShares_L4_s (fu : Nat) (k0 : Nat)   (n : Nat) (v2 : Int32) (v3 : Int32) (S : St) : f_X5_takeShares_L4 fu k0   (n + 1) v2 v3 S =
    if (256 : Int32) ≤ v3 then
      some ((0 : Int32), S)
    else
      bnd (f_X6_shareOf k0 v3 S) fun r2 S3 =>
      if (v3 < 0 ∨ 256 ≤ v3.toNatClampNeg) then none else
      pin (puS S3 12 v3.toNatClampNeg r2) fun S5 =>
      if (v3 < 0 ∨ 256 ≤ v3.toNatClampNeg) then none else
      pin (puS S5 13 v3.toNatClampNeg v2) fun S7 =>
      if (v3 < 0 ∨ 256 ≤ v3.toNatClampNeg) then none else
      pin (v2 + (S7 12 v3.toNatClampNeg)) fun x10 =>
      pin (v3 + (1 : Int32)) fun x11 =>
      f_X5_takeShares_L4 fu k0   n x10 x11 S7 := rfl
def f_X5_takeShares (fu : Nat) (k0 : Nat) (S : St) : Option (Int32 × St) :=
  f_X5_takeShares_L4 fu k0   fu (0 : Int32) (0 : Int32) S
def f_X6_places (k : Nat) (S : St) : Option (Int32 × St) :=
  some (((1 : Int32) <<< ((S k 1) &&& 31)), S)
def f_X5_lay_L92 (fu : Nat) (k0 : Nat) (p1 : Int32)   (t0 : Int32) (S : St) : Option (Int32 × St) :=
  bnd (f_X5_layByStep fu t0 S) fun r14 S15 =>
  bnd (f_X5_giveRanks fu  S15) fun r17 S18 =>
  some ((0 : Int32), S18)
def f_X5_lay_L17 (fu : Nat) (k0 : Nat) (p1 : Int32)   (v2 : Int32) (S : St) : Option (Int32 × St) :=
  pin (puS S 9 9 (nI k0)) fun S3 =>
  pin (puS S3 9 8 v2) fun S4 =>
  bnd (f_X6_places k0 S4) fun r5 S6 =>
  pin (puS S6 9 7 (if (4096 : Int32) < r5 then (4096 : Int32) else r5)) fun S8 =>
  bnd (f_X5_takeShares fu k0 S8) fun r9 S10 =>
  if (S10 9 8) = (2 : Int32) then
    bnd (f_X5_layEven fu  S10) fun r20 S21 =>
    bnd (f_X5_giveRanks fu  S21) fun r23 S24 =>
    some ((0 : Int32), S24)
  else
    if (S10 9 8) = (1 : Int32) then
      f_X5_lay_L92 fu k0 p1   (((((S10 9 7) / (2 : Int32)) + ((S10 9 7) / (8 : Int32))) + (3 : Int32)) ||| (1 : Int32)) S10
    else
      f_X5_lay_L92 fu k0 p1   (1 : Int32) S10
def f_X5_lay (fu : Nat) (k0 : Nat) (p1 : Int32) (S : St) : Option (Int32 × St) :=
  if (S 9 9).toNatClampNeg < 62 then
  if (S 9 9).toNatClampNeg = k0 then
    if p1 = (S 9 8) then
      some ((0 : Int32), S)
    else
      f_X5_lay_L17 fu k0 p1   p1 S
  else
    f_X5_lay_L17 fu k0 p1   p1 S
  else none
def f_X0_prepare_L41 (fu : Nat) (k0 : Nat) (p1 : Int32) (p2 : Int32)   (t0 : Int32) (S : St) : Option (Int32 × St) :=
  pin (puS S 8 3 t0) fun S10 =>
  bnd (f_X0_isByTable  S10) fun r11 S12 =>
  if r11 = 0 then
    pin (puS S12 8 4 (8 : Int32)) fun S15 =>
    some ((0 : Int32), S15)
  else
    pin (puS S12 8 4 (1 : Int32)) fun S16 =>
    some ((0 : Int32), S16)
def f_X0_prepare (fu : Nat) (k0 : Nat) (p1 : Int32) (p2 : Int32) (S : St) : Option (Int32 × St) :=
  bnd (f_X5_lay fu k0 p2 S) fun r1 S2 =>
  pin (puS S2 8 1 p1) fun S4 =>
  pin (puS S4 8 2 (S4 k0 1)) fun S5 =>
  bnd (f_X0_isByTable  S5) fun r6 S7 =>
  if r6 = 0 then
    f_X0_prepare_L41 fu k0 p1 p2   (8388608 : Int32) S7
  else
    f_X0_prepare_L41 fu k0 p1 p2   ((1 : Int32) <<< ((S7 8 2) &&& 31)) S7
def f_X0_stateBase  (S : St) : Option (Int32 × St) :=
  bnd (f_X0_isByTable  S) fun r1 S2 =>
  if r1 = 0 then
    some ((0 : Int32), S2)
  else
    some ((S2 8 3), S2)
def f_X0_stateBytes  (S : St) : Option (Int32 × St) :=
  bnd (f_X0_isByTable  S) fun r1 S2 =>
  if r1 = 0 then
    some ((4 : Int32), S2)
  else
    some ((2 : Int32), S2)
def f_X0_stateCount  (S : St) : Option (Int32 × St) :=
  if (S 8 1) = (2 : Int32) then
    some ((2 : Int32), S)
  else
    some ((1 : Int32), S)
def f_X0_turnOf (p0 : Int32) (S : St) : Option (Int32 × St) :=
  if (S 8 1) = (2 : Int32) then
    some ((p0 &&& (1 : Int32)), S)
  else
    some ((0 : Int32), S)
def f_X4_byteAt (k : Nat) (p0 : Int32) (S : St) : Option (Int32 × St) :=
  if p0 < 0 then
    some ((-1 : Int32), S)
  else
    if (S k 1) ≤ p0 then
      some ((-1 : Int32), S)
    else
      if p0 < (4000 : Int32) then
        if (p0 < 0 ∨ 4000 ≤ p0.toNatClampNeg) then none else
        some (((S (k + 1) p0.toNatClampNeg) &&& (255 : Int32)), S)
      else
        some ((-1 : Int32), S)
def f_X1_byteAt (p0 : Int32) (S : St) : Option (Int32 × St) :=
  if (S 7 5) = 0 then
    some ((-1 : Int32), S)
  else if (S 7 5) = 1 then
    if (S 7 5) = 0 then
      none
    else if (S 7 5) = 1 then
      bnd (f_X4_byteAt 1 p0 S) fun r5 S6 =>
      some (r5, S6)
    else none
  else none
def f_X1_byteCount  (S : St) : Option (Int32 × St) :=
  if (S 7 5) = 0 then
    some ((0 : Int32), S)
  else if (S 7 5) = 1 then
    if (S 7 5) = 0 then
      none
    else if (S 7 5) = 1 then
      some ((S 1 1), S)
    else none
  else none
def f_X1_isWhole  (S : St) : Option (Int32 × St) :=
  if (S 7 6) = 0 then
    some ((1 : Int32), S)
  else
    some ((0 : Int32), S)
def f_X1_demand (p0 : Int32) (p1 : Int32) (p2 : Int32) (S : St) : Option (Int32 × St) :=
  if p0 = 0 then
    bnd (f_X1_isWhole  S) fun r2 S3 =>
    if r2 = 0 then
      some ((0 : Int32), S3)
    else
      pin (puS S3 7 6 p1) fun S6 =>
      pin (puS S6 7 7 p2) fun S7 =>
      some ((0 : Int32), S7)
  else
    some ((0 : Int32), S)
def f_X1_checkPayloadEnd_L75    (v1 : Int32) (t0 : Int32) (S : St) : Option (Int32 × St) :=
  bnd (f_X1_demand t0 (6 : Int32) ((S 7 13) + v1) S) fun r5 S6 =>
  some ((0 : Int32), S6)
def f_X1_checkPayloadEnd_L61    (v1 : Int32) (S : St) : Option (Int32 × St) :=
  if v1 < (S 7 14) then
    f_X1_checkPayloadEnd_L75    v1 (0 : Int32) S
  else
    f_X1_checkPayloadEnd_L75    v1 (1 : Int32) S
def f_X1_checkPayloadEnd_L47    (v1 : Int32) (t0 : Int32) (S : St) : Option (Int32 × St) :=
  bnd (f_X1_demand t0 (6 : Int32) ((S 7 13) + v1) S) fun r13 S14 =>
  pin (v1 + (1 : Int32)) fun x16 =>
  f_X1_checkPayloadEnd_L61    x16 S14
def f_X1_checkPayloadEnd  (S : St) : Option (Int32 × St) :=
  pin ((S 7 15) / (8 : Int32)) fun x1 =>
  pin ((S 7 15) - (S 7 15) / (8 : Int32) * (8 : Int32)) fun x2 =>
  if x2 ≤ 0 then
    f_X1_checkPayloadEnd_L61    x1 S
  else
    bnd (f_X1_byteAt ((S 7 13) + x1) S) fun r8 S9 =>
    pin ((r8 <<< (x2 &&& 31)) &&& (255 : Int32)) fun x11 =>
    if x11 = 0 then
      f_X1_checkPayloadEnd_L47    x1 (1 : Int32) S9
    else
      f_X1_checkPayloadEnd_L47    x1 (0 : Int32) S9
def f_X1_checkStates_L35 (fu : Nat)  (K2 : Int32 → St → Option (Int32 × St))  (v1 : Int32) (t0 : Int32) (S : St) : Option (Int32 × St) :=
  bnd (f_X0_stateBytes  S) fun r7 S8 =>
  bnd (f_X1_demand t0 (7 : Int32) ((S 7 12) + (v1 * r7)) S8) fun r10 S11 =>
  pin (v1 + (1 : Int32)) fun x13 =>
  K2 x13 S11
def f_X1_checkStates_L2 (fu : Nat)    : Nat → Int32 → St → Option (Int32 × St)
  | 0, _, _ => none
  | n + 1, v1, S =>
    bnd (f_X0_stateCount  S) fun r1 S2 =>
    if r1 ≤ v1 then
      some ((0 : Int32), S2)
    else
      if (v1 < 0 ∨ 2 ≤ v1.toNatClampNeg) then none else
      if (S2 18 v1.toNatClampNeg) = (S2 8 3) then
        f_X1_checkStates_L35 fu  (f_X1_checkStates_L2 fu    n)  v1 (1 : Int32) S2
      else
        f_X1_checkStates_L35 fu  (f_X1_checkStates_L2 fu    n)  v1 (0 : Int32) S2
theorem f_X1_checkStates_L2_s (fu : Nat)    (n : Nat) (v1 : Int32) (S : St) : f_X1_checkStates_L2 fu    (n + 1) v1 S =
    bnd (f_X0_stateCount  S) fun r1 S2 =>
    if r1 ≤ v1 then
      some ((0 : Int32), S2)
    else
      if (v1 < 0 ∨ 2 ≤ v1.toNatClampNeg) then none else
      if (S2 18 v1.toNatClampNeg) = (S2 8 3) then
        f_X1_checkStates_L35 fu  (f_X1_checkStates_L2 fu    n)  v1 (1 : Int32) S2
      else
        f_X1_checkStates_L35 fu  (f_X1_checkStates_L2 fu    n)  v1 (0 : Int32) S2 := rfl
def f_X1_checkStates (fu : Nat)  (S : St) : Option (Int32 × St) :=
  f_X1_checkStates_L2 fu    fu (0 : Int32) S
def f_X1_exchangeTable (k0 : Nat) (S : St) : Option (Int32 × St) :=
  pin (S 7 4).toNatClampNeg fun kt2 =>
  if zx_tab kt2 = true then
    pin (puS S 7 4 (nI k0)) fun S3 =>
    some (nI kt2, S3)
  else none
def f_X1_findPayload_L65    (t0 : Int32) (S : St) : Option (Int32 × St) :=
  bnd (f_X1_demand t0 (8 : Int32) ((S 7 8) + (S 7 14)) S) fun r17 S18 =>
  some ((0 : Int32), S18)
def f_X1_findPayload_L35    (t0 : Int32) (S : St) : Option (Int32 × St) :=
  bnd (f_X1_byteCount  S) fun r7 S8 =>
  bnd (f_X1_demand t0 (1 : Int32) r7 S8) fun r10 S11 =>
  bnd (f_X1_byteCount  S11) fun r13 S14 =>
  if ((S11 7 8) + (S11 7 14)) = r13 then
    f_X1_findPayload_L65    (1 : Int32) S14
  else
    f_X1_findPayload_L65    (0 : Int32) S14
def f_X1_findPayload  (S : St) : Option (Int32 × St) :=
  pin (puS S 7 13 (S 7 8)) fun S1 =>
  pin (puS S1 7 15 (0 : Int32)) fun S2 =>
  bnd (f_X1_byteCount  S2) fun r3 S4 =>
  if r3 < ((S2 7 8) + (S2 7 14)) then
    f_X1_findPayload_L35    (0 : Int32) S4
  else
    f_X1_findPayload_L35    (1 : Int32) S4
def f_X1_readNumber_L40 (fu : Nat) (p0 : Int32)   : Nat → Int32 → Int32 → Int32 → St → Option (Int32 × St)
  | 0, _, _, _, _ => none
  | n + 1, v1, v2, v3, S =>
    if v1 ≤ v3 then
      some (v2, S)
    else
      bnd (f_X1_byteAt (S 7 8) S) fun r16 S17 =>
      pin ((v2 <<< ((8 : Int32) &&& 31)) ||| r16) fun x19 =>
      pin (puS S17 7 8 ((S17 7 8) + (1 : Int32))) fun S20 =>
      pin (v3 + (1 : Int32)) fun x21 =>
      f_X1_readNumber_L40 fu p0   n v1 x19 x21 S20
theorem f_X1_readNumber_L40_s (fu : Nat) (p0 : Int32)   (n : Nat) (v1 : Int32) (v2 : Int32) (v3 : Int32) (S : St) : f_X1_readNumber_L40 fu p0   (n + 1) v1 v2 v3 S =
    if v1 ≤ v3 then
      some (v2, S)
    else
      bnd (f_X1_byteAt (S 7 8) S) fun r16 S17 =>
      pin ((v2 <<< ((8 : Int32) &&& 31)) ||| r16) fun x19 =>
      pin (puS S17 7 8 ((S17 7 8) + (1 : Int32))) fun S20 =>
      pin (v3 + (1 : Int32)) fun x21 =>
      f_X1_readNumber_L40 fu p0   n v1 x19 x21 S20 := rfl
def f_X1_readNumber_L19 (fu : Nat) (p0 : Int32)   (v1 : Int32) (t0 : Int32) (S : St) : Option (Int32 × St) :=
  bnd (f_X1_byteCount  S) fun r5 S6 =>
  bnd (f_X1_demand t0 (1 : Int32) r5 S6) fun r8 S9 =>
  bnd (f_X1_isWhole  S9) fun r11 S12 =>
  if r11 = 0 then
    some ((0 : Int32), S12)
  else
    f_X1_readNumber_L40 fu p0   fu v1 (0 : Int32) (0 : Int32) S12
def f_X1_readNumber (fu : Nat) (p0 : Int32) (S : St) : Option (Int32 × St) :=
  bnd (f_X1_byteCount  S) fun r1 S2 =>
  if r1 < ((S 7 8) + p0) then
    f_X1_readNumber_L19 fu p0   p0 (0 : Int32) S2
  else
    f_X1_readNumber_L19 fu p0   p0 (1 : Int32) S2
def f_X5_forget  (S : St) : Option (Int32 × St) :=
  pin (puS S 9 9 (0 : Int32)) fun S1 =>
  some ((0 : Int32), S1)
def f_X6_clear (fu : Nat) (k : Nat) (p0 : Int32) (S : St) : Option (Int32 × St) :=
  pin (puS S k 1 p0) fun S1 =>
  bnd (f_J7_fill_53178 fu (k + 1) (0 : Int32) S1) fun r2 S3 =>
  some ((0 : Int32), S3)
def f_X8_isSpread (p0 : Int32) (S : St) : Option (Int32 × St) :=
  if p0 < 0 then
    some ((0 : Int32), S)
  else
    if (2 : Int32) < p0 then
      some ((0 : Int32), S)
    else
      some ((1 : Int32), S)
def f_X8_isCoding_L19 (p0 : Int32) (p1 : Int32)   (v1 : Int32) (S : St) : Option (Int32 × St) :=
  if v1 = 0 then
    some ((1 : Int32), S)
  else
    some ((0 : Int32), S)
def f_X8_isCoding (p0 : Int32) (p1 : Int32) (S : St) : Option (Int32 × St) :=
  if p0 = 0 then
    bnd (f_X8_isSpread p1 S) fun r5 S6 =>
    if (r5 = 0 ∨ r5 = 1) then some (r5, S6) else none
  else
    if p0 = (1 : Int32) then
      f_X8_isCoding_L19 p0 p1   p1 S
    else
      if p0 = (2 : Int32) then
        f_X8_isCoding_L19 p0 p1   p1 S
      else
        some ((0 : Int32), S)
def f_X8_isLog (p0 : Int32) (S : St) : Option (Int32 × St) :=
  if p0 < (1 : Int32) then
    some ((0 : Int32), S)
  else
    if (12 : Int32) < p0 then
      some ((0 : Int32), S)
    else
      some ((1 : Int32), S)
def f_X1_readHead_L16 (fu : Nat)    (t0 : Int32) (S : St) : Option (Int32 × St) :=
  bnd (f_X1_demand t0 (2 : Int32) (0 : Int32) S) fun r5 S6 =>
  bnd (f_X1_readNumber fu (1 : Int32) S6) fun r8 S9 =>
  pin (puS S9 7 9 (r8 >>> ((2 : Int32) &&& 31))) fun S11 =>
  pin (puS S11 7 10 (r8 &&& (3 : Int32))) fun S12 =>
  bnd (f_X8_isCoding (S12 7 9) (S12 7 10) S12) fun r13 S14 =>
  bnd (f_X1_demand r13 (2 : Int32) (1 : Int32) S14) fun r16 S17 =>
  bnd (f_X1_readNumber fu (1 : Int32) S17) fun r19 S20 =>
  bnd (f_X8_isLog r19 S20) fun r22 S23 =>
  bnd (f_X1_demand r22 (2 : Int32) (2 : Int32) S23) fun r25 S26 =>
  bnd (f_X5_forget  S26) fun r28 S29 =>
  pin (S29 7 4).toNatClampNeg fun kt32 =>
  if zx_tab kt32 = true then
    bnd (f_X8_isLog r19 S29) fun r33 S34 =>
    if r33 = 0 then
      bnd (f_X6_clear fu kt32 (1 : Int32) S34) fun r37 S38 =>
      some ((0 : Int32), S38)
    else
      bnd (f_X6_clear fu kt32 r19 S34) fun r40 S41 =>
      some ((0 : Int32), S41)
  else none
def f_X1_readHead (fu : Nat)  (S : St) : Option (Int32 × St) :=
  bnd (f_X1_readNumber fu (1 : Int32) S) fun r1 S2 =>
  if r1 = (83 : Int32) then
    f_X1_readHead_L16 fu    (1 : Int32) S2
  else
    f_X1_readHead_L16 fu    (0 : Int32) S2
def f_X1_readUnit_L30    (v1 : Int32) (t0 : Int32) (S : St) : Option (Int32 × St) :=
  bnd (f_X1_demand t0 (5 : Int32) ((S 7 13) + (S 7 14)) S) fun r3 S4 =>
  bnd (f_X1_isWhole  S4) fun r6 S7 =>
  if r6 = 0 then
    some ((0 : Int32), S7)
  else
    pin (((8 : Int32) - v1) - ((S7 7 15) - (S7 7 15) / (8 : Int32) * (8 : Int32))) fun x10 =>
    bnd (f_X1_byteAt ((S7 7 13) + ((S7 7 15) / (8 : Int32))) S7) fun r11 S12 =>
    pin ((r11 >>> (x10 &&& 31)) &&& (((1 : Int32) <<< (v1 &&& 31)) - (1 : Int32))) fun x14 =>
    pin (puS S12 7 15 ((S12 7 15) + v1)) fun S15 =>
    some (x14, S15)
def f_X1_readUnit  (S : St) : Option (Int32 × St) :=
  pin (S 8 4) fun x1 =>
  if ((8 : Int32) * (S 7 14)) < ((S 7 15) + x1) then
    f_X1_readUnit_L30    x1 (0 : Int32) S
  else
    f_X1_readUnit_L30    x1 (1 : Int32) S
def f_X7_meet (k : Nat) (p0 : Int32) (S : St) : Option (Int32 × St) :=
  pin (puS S (k + 1) 0 (if p0 < (S (k + 1) 0) then p0 else (S (k + 1) 0))) fun S1 =>
  pin (puS S1 (k + 1) 1 (if (S1 (k + 1) 1) < p0 then p0 else (S1 (k + 1) 1))) fun S2 =>
  some ((0 : Int32), S2)
def f_X7_addSymbol (k : Nat) (p0 : Int32) (p1 : Int32) (S : St) : Option (Int32 × St) :=
  bnd (f_X7_meet k p0 S) fun r1 S2 =>
  pin (puS S2 (k + 1) 2 ((S2 (k + 1) 2) + (1 : Int32))) fun S4 =>
  pin (puS S4 (k + 1) 3 ((S4 (k + 1) 3) + p1)) fun S5 =>
  pin (puS S5 (k + 1) 5 (if (S5 (k + 1) 5) < p1 then p1 else (S5 (k + 1) 5))) fun S6 =>
  some ((0 : Int32), S6)
def f_X1_readSymbol_L88 (fu : Nat) (p0 : Int32)   (v2 : Int32) (v3 : Int32) (v4 : Int32) (S : St) : Option (Int32 × St) :=
  if (v2 < 0 ∨ 2 ≤ v2.toNatClampNeg) then none else
  pin (puS S 18 v2.toNatClampNeg v3) fun S15 =>
  bnd (f_X7_addSymbol 16 v3 v4 S15) fun r17 S18 =>
  some ((0 : Int32), S18)
def f_X1_readSymbol_L46 (fu : Nat) (p0 : Int32)   : Nat → Int32 → Int32 → Int32 → Int32 → St → Option (Int32 × St)
  | 0, _, _, _, _, _ => none
  | n + 1, v2, v3, v4, v5, S =>
    if (12 : Int32) ≤ v5 then
      f_X1_readSymbol_L88 fu p0   v2 v3 v4 S
    else
      if (S 8 3) ≤ v3 then
        f_X1_readSymbol_L88 fu p0   v2 v3 v4 S
      else
        bnd (f_X1_readUnit  S) fun r21 S22 =>
        pin ((v3 <<< ((S 8 4) &&& 31)) ||| r21) fun x24 =>
        pin (v4 + (1 : Int32)) fun x25 =>
        pin (v5 + (1 : Int32)) fun x26 =>
        f_X1_readSymbol_L46 fu p0   n v2 x24 x25 x26 S22
theorem f_X1_readSymbol_L46_s (fu : Nat) (p0 : Int32)   (n : Nat) (v2 : Int32) (v3 : Int32) (v4 : Int32) (v5 : Int32) (S : St) : f_X1_readSymbol_L46 fu p0   (n + 1) v2 v3 v4 v5 S =
    if (12 : Int32) ≤ v5 then
      f_X1_readSymbol_L88 fu p0   v2 v3 v4 S
    else
      if (S 8 3) ≤ v3 then
        f_X1_readSymbol_L88 fu p0   v2 v3 v4 S
      else
        bnd (f_X1_readUnit  S) fun r21 S22 =>
        pin ((v3 <<< ((S 8 4) &&& 31)) ||| r21) fun x24 =>
        pin (v4 + (1 : Int32)) fun x25 =>
        pin (v5 + (1 : Int32)) fun x26 =>
        f_X1_readSymbol_L46 fu p0   n v2 x24 x25 x26 S22 := rfl
def f_X1_readSymbol (fu : Nat) (p0 : Int32) (S : St) : Option (Int32 × St) :=
  bnd (f_X0_turnOf p0 S) fun r1 S2 =>
  if (r1 < 0 ∨ 2 ≤ r1.toNatClampNeg) then none else
  pin (S2 18 r1.toNatClampNeg) fun x5 =>
  bnd (f_X0_symbolOf x5 S2) fun r6 S7 =>
  if (p0 < 0 ∨ 1400 ≤ p0.toNatClampNeg) then none else
  pin (puS S7 19 p0.toNatClampNeg (vp_nar .byte ((r6).toInt8.toInt32))) fun S9 =>
  bnd (f_X0_behindSymbol x5 S9) fun r11 S12 =>
  f_X1_readSymbol_L46 fu p0   fu r1 r11 (0 : Int32) (0 : Int32) S12
def f_X7_begin (fu : Nat) (k : Nat) (p0 : Int32) (S : St) : Option (Int32 × St) :=
  bnd (f_J7_fill_53178 fu (k + 1) (0 : Int32) S) fun r1 S2 =>
  pin (puS S2 (k + 1) 0 p0) fun S4 =>
  pin (puS S4 (k + 1) 1 p0) fun S5 =>
  some ((0 : Int32), S5)
def f_X7_setBytes (k : Nat) (p0 : Int32) (S : St) : Option (Int32 × St) :=
  pin (puS S (k + 1) 4 ((((S (k + 1) 3) * p0) + (7 : Int32)) / (8 : Int32))) fun S1 =>
  some ((0 : Int32), S1)
def f_X1_readMessage_L77 (fu : Nat)     (S : St) : Option (Int32 × St) :=
  bnd (f_X7_setBytes 16 (S 8 4) S) fun r16 S17 =>
  some ((0 : Int32), S17)
def f_X1_readMessage_L44 (fu : Nat)    : Nat → Int32 → St → Option (Int32 × St)
  | 0, _, _ => none
  | n + 1, v1, S =>
    if (S 7 11) ≤ v1 then
      f_X1_readMessage_L77 fu     S
    else
      if (1400 : Int32) ≤ v1 then
        f_X1_readMessage_L77 fu     S
      else
        bnd (f_X1_isWhole  S) fun r20 S21 =>
        if r20 = 0 then
          f_X1_readMessage_L77 fu     S21
        else
          bnd (f_X1_readSymbol fu v1 S21) fun r24 S25 =>
          pin (v1 + (1 : Int32)) fun x27 =>
          f_X1_readMessage_L44 fu    n x27 S25
theorem f_X1_readMessage_L44_s (fu : Nat)    (n : Nat) (v1 : Int32) (S : St) : f_X1_readMessage_L44 fu    (n + 1) v1 S =
    if (S 7 11) ≤ v1 then
      f_X1_readMessage_L77 fu     S
    else
      if (1400 : Int32) ≤ v1 then
        f_X1_readMessage_L77 fu     S
      else
        bnd (f_X1_isWhole  S) fun r20 S21 =>
        if r20 = 0 then
          f_X1_readMessage_L77 fu     S21
        else
          bnd (f_X1_readSymbol fu v1 S21) fun r24 S25 =>
          pin (v1 + (1 : Int32)) fun x27 =>
          f_X1_readMessage_L44 fu    n x27 S25 := rfl
def f_X1_readMessage (fu : Nat)  (S : St) : Option (Int32 × St) :=
  bnd (f_X1_isWhole  S) fun r1 S2 =>
  if r1 = 0 then
    some ((0 : Int32), S2)
  else
    bnd (f_X7_begin fu 16 (S2 18 0) S2) fun r5 S6 =>
    bnd (f_X0_stateCount  S6) fun r8 S9 =>
    if ((r8 - (1 : Int32)) < 0 ∨ 2 ≤ (r8 - (1 : Int32)).toNatClampNeg) then none else
    bnd (f_X7_meet 16 (S9 18 (r8 - (1 : Int32)).toNatClampNeg) S9) fun r12 S13 =>
    f_X1_readMessage_L44 fu    fu (0 : Int32) S13
def f_X6_change (k : Nat) (p0 : Int32) (p1 : Int32) (S : St) : Option (Int32 × St) :=
  bnd (f_X8_isSymbol p0 S) fun r1 S2 =>
  if r1 = 0 then
    some ((0 : Int32), S2)
  else
    if (p0 < 0 ∨ 256 ≤ p0.toNatClampNeg) then none else
    if (p0 < 0 ∨ 256 ≤ p0.toNatClampNeg) then none else
    pin (puS S2 (k + 1) p0.toNatClampNeg ((S2 (k + 1) p0.toNatClampNeg) + p1)) fun S6 =>
    some ((0 : Int32), S6)
def f_X1_readShares_L150 (fu : Nat)    (v4 : Int32) (t0 : Int32) (S : St) : Option (Int32 × St) :=
  bnd (f_X1_demand t0 (3 : Int32) v4 S) fun r13 S14 =>
  some ((0 : Int32), S14)
def f_X1_readShares_L133 (fu : Nat)    (v3 : Int32) (v4 : Int32) (S : St) : Option (Int32 × St) :=
  pin (S 7 4).toNatClampNeg fun kt8 =>
  if zx_tab kt8 = true then
    bnd (f_X6_places kt8 S) fun r9 S10 =>
    if v3 = r9 then
      f_X1_readShares_L150 fu    v4 (1 : Int32) S10
    else
      f_X1_readShares_L150 fu    v4 (0 : Int32) S10
  else none
def f_X1_readShares_L102 (fu : Nat)  (K21 : Int32 → Int32 → Int32 → Int32 → Int32 → St → Option (Int32 × St))  (v1 : Int32) (v3 : Int32) (v4 : Int32) (v5 : Int32) (v7 : Int32) (v8 : Int32) (t0 : Int32) (S : St) : Option (Int32 × St) :=
  bnd (f_X1_demand t0 (2 : Int32) v4 S) fun r33 S34 =>
  pin (S34 7 4).toNatClampNeg fun kt37 =>
  if zx_tab kt37 = true then
    bnd (f_X6_change kt37 v7 v8 S34) fun r38 S39 =>
    pin (v3 + v8) fun x41 =>
    pin (v5 + (1 : Int32)) fun x42 =>
    K21 v1 v7 x41 v4 x42 S39
  else none
def f_X1_readShares_L101 (fu : Nat)  (K21 : Int32 → Int32 → Int32 → Int32 → Int32 → St → Option (Int32 × St))  (v1 : Int32) (v3 : Int32) (v4 : Int32) (v5 : Int32) (v7 : Int32) (v8 : Int32) (S : St) : Option (Int32 × St) :=
  f_X1_readShares_L102 fu  K21  v1 v3 v4 v5 v7 v8 (0 : Int32) S
def f_X1_readShares_L59 (fu : Nat)  (K21 : Int32 → Int32 → Int32 → Int32 → Int32 → St → Option (Int32 × St))  (v1 : Int32) (v3 : Int32) (v5 : Int32) (v6 : Int32) (v7 : Int32) (t0 : Int32) (S : St) : Option (Int32 × St) :=
  bnd (f_X1_demand t0 (2 : Int32) v6 S) fun r25 S26 =>
  pin (S26 7 8) fun x28 =>
  bnd (f_X1_readNumber fu (2 : Int32) S26) fun r29 S30 =>
  if r29 < (1 : Int32) then
    f_X1_readShares_L101 fu  K21  v1 v3 x28 v5 v7 r29 S30
  else
    pin (S30 7 4).toNatClampNeg fun kt44 =>
    if zx_tab kt44 = true then
      bnd (f_X6_places kt44 S30) fun r45 S46 =>
      if r45 < r29 then
        f_X1_readShares_L101 fu  K21  v1 v3 x28 v5 v7 r29 S46
      else
        f_X1_readShares_L102 fu  K21  v1 v3 x28 v5 v7 r29 (1 : Int32) S46
    else none
def f_X1_readShares_L21 (fu : Nat)    : Nat → Int32 → Int32 → Int32 → Int32 → Int32 → St → Option (Int32 × St)
  | 0, _, _, _, _, _, _ => none
  | n + 1, v1, v2, v3, v4, v5, S =>
    if v1 ≤ v5 then
      f_X1_readShares_L133 fu    v3 v4 S
    else
      bnd (f_X1_isWhole  S) fun r16 S17 =>
      if r16 = 0 then
        f_X1_readShares_L133 fu    v3 v4 S17
      else
        pin (S17 7 8) fun x20 =>
        bnd (f_X1_readNumber fu (1 : Int32) S17) fun r21 S22 =>
        if r21 ≤ v2 then
          f_X1_readShares_L59 fu  (f_X1_readShares_L21 fu    n)  v1 v3 v5 x20 r21 (0 : Int32) S22
        else
          f_X1_readShares_L59 fu  (f_X1_readShares_L21 fu    n)  v1 v3 v5 x20 r21 (1 : Int32) S22
theorem f_X1_readShares_L21_s (fu : Nat)    (n : Nat) (v1 : Int32) (v2 : Int32) (v3 : Int32) (v4 : Int32) (v5 : Int32) (S : St) : f_X1_readShares_L21 fu    (n + 1) v1 v2 v3 v4 v5 S =
    if v1 ≤ v5 then
      f_X1_readShares_L133 fu    v3 v4 S
    else
      bnd (f_X1_isWhole  S) fun r16 S17 =>
      if r16 = 0 then
        f_X1_readShares_L133 fu    v3 v4 S17
      else
        pin (S17 7 8) fun x20 =>
        bnd (f_X1_readNumber fu (1 : Int32) S17) fun r21 S22 =>
        if r21 ≤ v2 then
          f_X1_readShares_L59 fu  (f_X1_readShares_L21 fu    n)  v1 v3 v5 x20 r21 (0 : Int32) S22
        else
          f_X1_readShares_L59 fu  (f_X1_readShares_L21 fu    n)  v1 v3 v5 x20 r21 (1 : Int32) S22 := rfl
def f_X1_readShares (fu : Nat)  (S : St) : Option (Int32 × St) :=
  bnd (f_X1_readNumber fu (1 : Int32) S) fun r1 S2 =>
  pin (r1 + (1 : Int32)) fun x4 =>
  pin (S2 7 8) fun x5 =>
  f_X1_readShares_L21 fu    fu x4 (-1 : Int32) (0 : Int32) x5 (0 : Int32) S2
def f_X1_readSizes_L30 (fu : Nat)    (v1 : Int32) (t0 : Int32) (S : St) : Option (Int32 × St) :=
  bnd (f_X1_demand t0 (2 : Int32) v1 S) fun r7 S8 =>
  bnd (f_X1_readNumber fu (2 : Int32) S8) fun r10 S11 =>
  pin (puS S11 7 14 r10) fun S13 =>
  some ((0 : Int32), S13)
def f_X1_readSizes (fu : Nat)  (S : St) : Option (Int32 × St) :=
  pin (S 7 8) fun x1 =>
  bnd (f_X1_readNumber fu (2 : Int32) S) fun r2 S3 =>
  pin (puS S3 7 11 r2) fun S5 =>
  if (1400 : Int32) < (S5 7 11) then
    f_X1_readSizes_L30 fu    x1 (0 : Int32) S5
  else
    f_X1_readSizes_L30 fu    x1 (1 : Int32) S5
def f_X1_readStates_L10 (fu : Nat)    : Nat → Int32 → St → Option (Int32 × St)
  | 0, _, _ => none
  | n + 1, v1, S =>
    bnd (f_X0_stateCount  S) fun r2 S3 =>
    if r2 ≤ v1 then
      some ((0 : Int32), S3)
    else
      pin (S3 7 8) fun x6 =>
      bnd (f_X0_stateBase  S3) fun r7 S8 =>
      bnd (f_X0_stateBytes  S8) fun r10 S11 =>
      bnd (f_X1_readNumber fu r10 S11) fun r13 S14 =>
      if (v1 < 0 ∨ 2 ≤ v1.toNatClampNeg) then none else
      pin (puS S14 18 v1.toNatClampNeg (r7 + r13)) fun S16 =>
      if (v1 < 0 ∨ 2 ≤ v1.toNatClampNeg) then none else
      bnd (f_X0_isState (S16 18 v1.toNatClampNeg) S16) fun r19 S20 =>
      bnd (f_X1_demand r19 (4 : Int32) x6 S20) fun r22 S23 =>
      pin (v1 + (1 : Int32)) fun x25 =>
      f_X1_readStates_L10 fu    n x25 S23
theorem f_X1_readStates_L10_s (fu : Nat)    (n : Nat) (v1 : Int32) (S : St) : f_X1_readStates_L10 fu    (n + 1) v1 S =
    bnd (f_X0_stateCount  S) fun r2 S3 =>
    if r2 ≤ v1 then
      some ((0 : Int32), S3)
    else
      pin (S3 7 8) fun x6 =>
      bnd (f_X0_stateBase  S3) fun r7 S8 =>
      bnd (f_X0_stateBytes  S8) fun r10 S11 =>
      bnd (f_X1_readNumber fu r10 S11) fun r13 S14 =>
      if (v1 < 0 ∨ 2 ≤ v1.toNatClampNeg) then none else
      pin (puS S14 18 v1.toNatClampNeg (r7 + r13)) fun S16 =>
      if (v1 < 0 ∨ 2 ≤ v1.toNatClampNeg) then none else
      bnd (f_X0_isState (S16 18 v1.toNatClampNeg) S16) fun r19 S20 =>
      bnd (f_X1_demand r19 (4 : Int32) x6 S20) fun r22 S23 =>
      pin (v1 + (1 : Int32)) fun x25 =>
      f_X1_readStates_L10 fu    n x25 S23 := rfl
def f_X1_readStates (fu : Nat)  (S : St) : Option (Int32 × St) :=
  pin (puS S 7 12 (S 7 8)) fun S1 =>
  f_X1_readStates_L10 fu    fu (0 : Int32) S1
def f_X1_readPacket_L62 (fu : Nat)     (S : St) : Option (Int32 × St) :=
  bnd (f_X1_findPayload  S) fun r18 S19 =>
  bnd (f_X1_readMessage fu  S19) fun r21 S22 =>
  bnd (f_X1_checkPayloadEnd  S22) fun r24 S25 =>
  bnd (f_X1_checkStates fu  S25) fun r27 S28 =>
  pin (puS S28 7 5 (0 : Int32)) fun S30 =>
  bnd (f_X1_isWhole  S30) fun r31 S32 =>
  if (r31 = 0 ∨ r31 = 1) then some (r31, S32) else none
def f_X1_readPacket (fu : Nat)  (S : St) : Option (Int32 × St) :=
  pin (puS S 7 5 (1 : Int32)) fun S1 =>
  pin (puS S1 7 6 (0 : Int32)) fun S2 =>
  pin (puS S2 7 7 (-1 : Int32)) fun S3 =>
  pin (puS S3 7 8 (0 : Int32)) fun S4 =>
  bnd (f_X1_readHead fu  S4) fun r5 S6 =>
  bnd (f_X1_readShares fu  S6) fun r8 S9 =>
  bnd (f_X1_readSizes fu  S9) fun r11 S12 =>
  bnd (f_X1_isWhole  S12) fun r14 S15 =>
  if r14 = 0 then
    f_X1_readPacket_L62 fu     S15
  else
    pin (S15 7 4).toNatClampNeg fun kt36 =>
    if zx_tab kt36 = true then
      bnd (f_X0_prepare fu kt36 (S15 7 9) (S15 7 10) S15) fun r37 S38 =>
      bnd (f_X1_readStates fu  S38) fun r40 S41 =>
      f_X1_readPacket_L62 fu     S41
    else none
def f_X4_add (k : Nat) (p0 : Int32) (S : St) : Option (Int32 × St) :=
  if (S k 1) < 0 then
    some ((0 : Int32), S)
  else
    if (4000 : Int32) ≤ (S k 1) then
      some ((0 : Int32), S)
    else
      if ((S k 1) < 0 ∨ 4000 ≤ (S k 1).toNatClampNeg) then none else
      pin (puS S (k + 1) (S k 1).toNatClampNeg (vp_nar .byte ((p0).toInt8.toInt32))) fun S3 =>
      pin (puS S3 k 1 ((S3 k 1) + (1 : Int32))) fun S5 =>
      some ((0 : Int32), S5)
def f_X1_writeMessage_L7 (fu : Nat) (k0 : Nat)   : Nat → Int32 → St → Option (Int32 × St)
  | 0, _, _ => none
  | n + 1, v2, S =>
    if (S 7 11) ≤ v2 then
      some ((0 : Int32), S)
    else
      if (1400 : Int32) ≤ v2 then
        some ((0 : Int32), S)
      else
        if (v2 < 0 ∨ 1400 ≤ v2.toNatClampNeg) then none else
        bnd (f_X4_add k0 (S 19 v2.toNatClampNeg) S) fun r5 S6 =>
        pin (v2 + (1 : Int32)) fun x8 =>
        f_X1_writeMessage_L7 fu k0   n x8 S6
theorem f_X1_writeMessage_L7_s (fu : Nat) (k0 : Nat)   (n : Nat) (v2 : Int32) (S : St) : f_X1_writeMessage_L7 fu k0   (n + 1) v2 S =
    if (S 7 11) ≤ v2 then
      some ((0 : Int32), S)
    else
      if (1400 : Int32) ≤ v2 then
        some ((0 : Int32), S)
      else
        if (v2 < 0 ∨ 1400 ≤ v2.toNatClampNeg) then none else
        bnd (f_X4_add k0 (S 19 v2.toNatClampNeg) S) fun r5 S6 =>
        pin (v2 + (1 : Int32)) fun x8 =>
        f_X1_writeMessage_L7 fu k0   n x8 S6 := rfl
def f_X1_writeMessage (fu : Nat) (k0 : Nat) (S : St) : Option (Int32 × St) :=
  pin (puS S k0 1 (0 : Int32)) fun S1 =>
  f_X1_writeMessage_L7 fu k0   fu (0 : Int32) S1
def f_X2_codeMessage_L35 (fu : Nat) (k1 : Nat)   : Nat → Int32 → St → Option (Int32 × St)
  | 0, _, _ => none
  | n + 1, v3, S =>
    if v3 < 0 then
      bnd (f_X7_setBytes 35 (S 8 4) S) fun r9 S10 =>
      some ((0 : Int32), S10)
    else
      bnd (f_X0_turnOf v3 S) fun r12 S13 =>
      if (r12 < 0 ∨ 2 ≤ r12.toNatClampNeg) then none else
      bnd (f_X4_byteAt k1 v3 S13) fun r16 S17 =>
      bnd (f_X0_advance fu (S13 37 r12.toNatClampNeg) r16 S17) fun r19 S20 =>
      if (r12 < 0 ∨ 2 ≤ r12.toNatClampNeg) then none else
      pin (puS S20 37 r12.toNatClampNeg (S20 8 5)) fun S22 =>
      if (v3 < 0 ∨ 1400 ≤ v3.toNatClampNeg) then none else
      pin (puS S22 38 v3.toNatClampNeg (((S22 8 6) <<< ((16 : Int32) &&& 31)) ||| (S22 8 7))) fun S24 =>
      bnd (f_X7_addSymbol 35 (S24 8 5) (S24 8 6) S24) fun r26 S27 =>
      pin (v3 + (-1 : Int32)) fun x29 =>
      f_X2_codeMessage_L35 fu k1   n x29 S27
theorem f_X2_codeMessage_L35_s (fu : Nat) (k1 : Nat)   (n : Nat) (v3 : Int32) (S : St) : f_X2_codeMessage_L35 fu k1   (n + 1) v3 S =
    if v3 < 0 then
      bnd (f_X7_setBytes 35 (S 8 4) S) fun r9 S10 =>
      some ((0 : Int32), S10)
    else
      bnd (f_X0_turnOf v3 S) fun r12 S13 =>
      if (r12 < 0 ∨ 2 ≤ r12.toNatClampNeg) then none else
      bnd (f_X4_byteAt k1 v3 S13) fun r16 S17 =>
      bnd (f_X0_advance fu (S13 37 r12.toNatClampNeg) r16 S17) fun r19 S20 =>
      if (r12 < 0 ∨ 2 ≤ r12.toNatClampNeg) then none else
      pin (puS S20 37 r12.toNatClampNeg (S20 8 5)) fun S22 =>
      if (v3 < 0 ∨ 1400 ≤ v3.toNatClampNeg) then none else
      pin (puS S22 38 v3.toNatClampNeg (((S22 8 6) <<< ((16 : Int32) &&& 31)) ||| (S22 8 7))) fun S24 =>
      bnd (f_X7_addSymbol 35 (S24 8 5) (S24 8 6) S24) fun r26 S27 =>
      pin (v3 + (-1 : Int32)) fun x29 =>
      f_X2_codeMessage_L35 fu k1   n x29 S27 := rfl
def f_X2_codeMessage (fu : Nat) (k1 : Nat) (S : St) : Option (Int32 × St) :=
  bnd (f_J7_fill_53178 fu 37 (S 8 3) S) fun r1 S2 =>
  bnd (f_X7_begin fu 35 (S2 8 3) S2) fun r4 S5 =>
  pin ((if (1400 : Int32) < (S5 k1 1) then (1400 : Int32) else (S5 k1 1)) - (1 : Int32)) fun x7 =>
  f_X2_codeMessage_L35 fu k1   fu x7 S5
def f_X2_writePayload_L114 (fu : Nat) (p0 : Int32) (k1 : Nat)   (v4 : Int32) (v5 : Int32) (S : St) : Option (Int32 × St) :=
  if v5 ≤ 0 then
    some ((0 : Int32), S)
  else
    bnd (f_X4_add k1 (v4 <<< (((8 : Int32) - v5) &&& 31)) S) fun r4 S5 =>
    some ((0 : Int32), S5)
def f_X2_writePayload_L102 (fu : Nat) (p0 : Int32) (k1 : Nat) (K51 : Int32 → Int32 → Int32 → Int32 → Int32 → Int32 → St → Option (Int32 × St))  (v1 : Int32) (v3 : Int32) (v4 : Int32) (v5 : Int32) (v6 : Int32) (v7 : Int32) (S : St) : Option (Int32 × St) :=
  pin (v7 + (-1 : Int32)) fun x16 =>
  K51 v1 v3 v4 v5 v6 x16 S
def f_X2_writePayload_L51 (fu : Nat) (p0 : Int32) (k1 : Nat) (K15 : Int32 → Int32 → Int32 → Int32 → Int32 → St → Option (Int32 × St))  : Nat → Int32 → Int32 → Int32 → Int32 → Int32 → Int32 → St → Option (Int32 × St)
  | 0, _, _, _, _, _, _, _ => none
  | n + 1, v1, v3, v4, v5, v6, v7, S =>
    if v7 < 0 then
      pin (v6 + (1 : Int32)) fun x11 =>
      K15 v1 v3 v4 v5 x11 S
    else
      if (v6 < 0 ∨ 1400 ≤ v6.toNatClampNeg) then none else
      pin ((v4 <<< (v1 &&& 31)) ||| (((S 38 v6.toNatClampNeg) >>> ((v7 * v1) &&& 31)) &&& v3)) fun x13 =>
      pin (v5 + v1) fun x14 =>
      if x14 = (8 : Int32) then
        bnd (f_X4_add k1 x13 S) fun r17 S18 =>
        f_X2_writePayload_L102 fu p0 k1 (f_X2_writePayload_L51 fu p0 k1 K15  n)  v1 v3 (0 : Int32) (0 : Int32) v6 v7 S18
      else
        f_X2_writePayload_L102 fu p0 k1 (f_X2_writePayload_L51 fu p0 k1 K15  n)  v1 v3 x13 x14 v6 v7 S
theorem f_X2_writePayload_L51_s (fu : Nat) (p0 : Int32) (k1 : Nat) (K15 : Int32 → Int32 → Int32 → Int32 → Int32 → St → Option (Int32 × St))  (n : Nat) (v1 : Int32) (v3 : Int32) (v4 : Int32) (v5 : Int32) (v6 : Int32) (v7 : Int32) (S : St) : f_X2_writePayload_L51 fu p0 k1 K15  (n + 1) v1 v3 v4 v5 v6 v7 S =
    if v7 < 0 then
      pin (v6 + (1 : Int32)) fun x11 =>
      K15 v1 v3 v4 v5 x11 S
    else
      if (v6 < 0 ∨ 1400 ≤ v6.toNatClampNeg) then none else
      pin ((v4 <<< (v1 &&& 31)) ||| (((S 38 v6.toNatClampNeg) >>> ((v7 * v1) &&& 31)) &&& v3)) fun x13 =>
      pin (v5 + v1) fun x14 =>
      if x14 = (8 : Int32) then
        bnd (f_X4_add k1 x13 S) fun r17 S18 =>
        f_X2_writePayload_L102 fu p0 k1 (f_X2_writePayload_L51 fu p0 k1 K15  n)  v1 v3 (0 : Int32) (0 : Int32) v6 v7 S18
      else
        f_X2_writePayload_L102 fu p0 k1 (f_X2_writePayload_L51 fu p0 k1 K15  n)  v1 v3 x13 x14 v6 v7 S := rfl
def f_X2_writePayload_L15 (fu : Nat) (p0 : Int32) (k1 : Nat)   : Nat → Int32 → Int32 → Int32 → Int32 → Int32 → St → Option (Int32 × St)
  | 0, _, _, _, _, _, _ => none
  | n + 1, v1, v3, v4, v5, v6, S =>
    if (S 36 2) ≤ v6 then
      f_X2_writePayload_L114 fu p0 k1   v4 v5 S
    else
      if (1400 : Int32) ≤ v6 then
        f_X2_writePayload_L114 fu p0 k1   v4 v5 S
      else
        if (v6 < 0 ∨ 1400 ≤ v6.toNatClampNeg) then none else
        pin (((S 38 v6.toNatClampNeg) >>> ((16 : Int32) &&& 31)) - (1 : Int32)) fun x9 =>
        f_X2_writePayload_L51 fu p0 k1 (f_X2_writePayload_L15 fu p0 k1   n)  fu v1 v3 v4 v5 v6 x9 S
theorem f_X2_writePayload_L15_s (fu : Nat) (p0 : Int32) (k1 : Nat)   (n : Nat) (v1 : Int32) (v3 : Int32) (v4 : Int32) (v5 : Int32) (v6 : Int32) (S : St) : f_X2_writePayload_L15 fu p0 k1   (n + 1) v1 v3 v4 v5 v6 S =
    if (S 36 2) ≤ v6 then
      f_X2_writePayload_L114 fu p0 k1   v4 v5 S
    else
      if (1400 : Int32) ≤ v6 then
        f_X2_writePayload_L114 fu p0 k1   v4 v5 S
      else
        if (v6 < 0 ∨ 1400 ≤ v6.toNatClampNeg) then none else
        pin (((S 38 v6.toNatClampNeg) >>> ((16 : Int32) &&& 31)) - (1 : Int32)) fun x9 =>
        f_X2_writePayload_L51 fu p0 k1 (f_X2_writePayload_L15 fu p0 k1   n)  fu v1 v3 v4 v5 v6 x9 S := rfl
def f_X2_writePayload (fu : Nat) (p0 : Int32) (k1 : Nat) (S : St) : Option (Int32 × St) :=
  pin (((1 : Int32) <<< (p0 &&& 31)) - (1 : Int32)) fun x1 =>
  f_X2_writePayload_L15 fu p0 k1   fu p0 x1 (0 : Int32) (0 : Int32) (0 : Int32) S
def f_X4_addNumber_L4 (fu : Nat) (k : Nat) (p0 : Int32) (p1 : Int32)   : Nat → Int32 → Int32 → St → Option (Int32 × St)
  | 0, _, _, _ => none
  | n + 1, v1, v3, S =>
    if v3 < 0 then
      some ((0 : Int32), S)
    else
      bnd (f_X4_add k (((v1).toUInt32 >>> ((((8 : Int32) * v3)).toUInt32 &&& Int32.toUInt32 31)).toInt32) S) fun r3 S4 =>
      pin (v3 + (-1 : Int32)) fun x6 =>
      f_X4_addNumber_L4 fu k p0 p1   n v1 x6 S4
theorem f_X4_addNumber_L4_s (fu : Nat) (k : Nat) (p0 : Int32) (p1 : Int32)   (n : Nat) (v1 : Int32) (v3 : Int32) (S : St) : f_X4_addNumber_L4 fu k p0 p1   (n + 1) v1 v3 S =
    if v3 < 0 then
      some ((0 : Int32), S)
    else
      bnd (f_X4_add k (((v1).toUInt32 >>> ((((8 : Int32) * v3)).toUInt32 &&& Int32.toUInt32 31)).toInt32) S) fun r3 S4 =>
      pin (v3 + (-1 : Int32)) fun x6 =>
      f_X4_addNumber_L4 fu k p0 p1   n v1 x6 S4 := rfl
def f_X4_addNumber (fu : Nat) (k : Nat) (p0 : Int32) (p1 : Int32) (S : St) : Option (Int32 × St) :=
  pin (p1 - (1 : Int32)) fun x1 =>
  f_X4_addNumber_L4 fu k p0 p1   fu p0 x1 S
def f_X6_different_L23 (fu : Nat) (k : Nat) (K4 : Int32 → Int32 → St → Option (Int32 × St))  (v1 : Int32) (v2 : Int32) (S : St) : Option (Int32 × St) :=
  pin (v2 + (1 : Int32)) fun x4 =>
  K4 v1 x4 S
def f_X6_different_L4 (fu : Nat) (k : Nat)   : Nat → Int32 → Int32 → St → Option (Int32 × St)
  | 0, _, _, _ => none
  | n + 1, v1, v2, S =>
    if (256 : Int32) ≤ v2 then
      some (v1, S)
    else
      if (v2 < 0 ∨ 256 ≤ v2.toNatClampNeg) then none else
      if (S (k + 1) v2.toNatClampNeg) ≤ 0 then
        f_X6_different_L23 fu k (f_X6_different_L4 fu k   n)  v1 v2 S
      else
        pin (v1 + (1 : Int32)) fun x5 =>
        f_X6_different_L23 fu k (f_X6_different_L4 fu k   n)  x5 v2 S
theorem f_X6_different_L4_s (fu : Nat) (k : Nat)   (n : Nat) (v1 : Int32) (v2 : Int32) (S : St) : f_X6_different_L4 fu k   (n + 1) v1 v2 S =
    if (256 : Int32) ≤ v2 then
      some (v1, S)
    else
      if (v2 < 0 ∨ 256 ≤ v2.toNatClampNeg) then none else
      if (S (k + 1) v2.toNatClampNeg) ≤ 0 then
        f_X6_different_L23 fu k (f_X6_different_L4 fu k   n)  v1 v2 S
      else
        pin (v1 + (1 : Int32)) fun x5 =>
        f_X6_different_L23 fu k (f_X6_different_L4 fu k   n)  x5 v2 S := rfl
def f_X6_different (fu : Nat) (k : Nat) (S : St) : Option (Int32 × St) :=
  f_X6_different_L4 fu k   fu (0 : Int32) (0 : Int32) S
def f_X2_writePacket_L121 (fu : Nat) (k1 : Nat) (k2 : Nat)   : Nat → Int32 → St → Option (Int32 × St)
  | 0, _, _ => none
  | n + 1, v4, S =>
    bnd (f_X0_stateCount  S) fun r24 S25 =>
    if r24 ≤ v4 then
      bnd (f_X2_writePayload fu (S25 8 4) k2 S25) fun r28 S29 =>
      some ((0 : Int32), S29)
    else
      if (v4 < 0 ∨ 2 ≤ v4.toNatClampNeg) then none else
      bnd (f_X0_stateBase  S25) fun r32 S33 =>
      bnd (f_X0_stateBytes  S33) fun r35 S36 =>
      bnd (f_X4_addNumber fu k2 ((S25 37 v4.toNatClampNeg) - r32) r35 S36) fun r38 S39 =>
      pin (v4 + (1 : Int32)) fun x41 =>
      f_X2_writePacket_L121 fu k1 k2   n x41 S39
theorem f_X2_writePacket_L121_s (fu : Nat) (k1 : Nat) (k2 : Nat)   (n : Nat) (v4 : Int32) (S : St) : f_X2_writePacket_L121 fu k1 k2   (n + 1) v4 S =
    bnd (f_X0_stateCount  S) fun r24 S25 =>
    if r24 ≤ v4 then
      bnd (f_X2_writePayload fu (S25 8 4) k2 S25) fun r28 S29 =>
      some ((0 : Int32), S29)
    else
      if (v4 < 0 ∨ 2 ≤ v4.toNatClampNeg) then none else
      bnd (f_X0_stateBase  S25) fun r32 S33 =>
      bnd (f_X0_stateBytes  S33) fun r35 S36 =>
      bnd (f_X4_addNumber fu k2 ((S25 37 v4.toNatClampNeg) - r32) r35 S36) fun r38 S39 =>
      pin (v4 + (1 : Int32)) fun x41 =>
      f_X2_writePacket_L121 fu k1 k2   n x41 S39 := rfl
def f_X2_writePacket_L84 (fu : Nat) (k1 : Nat) (k2 : Nat) (K50 : Int32 → St → Option (Int32 × St))  (v4 : Int32) (S : St) : Option (Int32 × St) :=
  pin (v4 + (1 : Int32)) fun x46 =>
  K50 x46 S
def f_X2_writePacket_L50 (fu : Nat) (k1 : Nat) (k2 : Nat)   : Nat → Int32 → St → Option (Int32 × St)
  | 0, _, _ => none
  | n + 1, v4, S =>
    if (256 : Int32) ≤ v4 then
      bnd (f_X4_addNumber fu k2 (S 36 2) (2 : Int32) S) fun r18 S19 =>
      bnd (f_X4_addNumber fu k2 (S19 36 4) (2 : Int32) S19) fun r21 S22 =>
      f_X2_writePacket_L121 fu k1 k2   fu (0 : Int32) S22
    else
      bnd (f_X6_shareOf k1 v4 S) fun r42 S43 =>
      if r42 ≤ 0 then
        f_X2_writePacket_L84 fu k1 k2 (f_X2_writePacket_L50 fu k1 k2   n)  v4 S43
      else
        bnd (f_X4_add k2 v4 S43) fun r47 S48 =>
        bnd (f_X6_shareOf k1 v4 S48) fun r50 S51 =>
        bnd (f_X4_addNumber fu k2 r50 (2 : Int32) S51) fun r53 S54 =>
        f_X2_writePacket_L84 fu k1 k2 (f_X2_writePacket_L50 fu k1 k2   n)  v4 S54
theorem f_X2_writePacket_L50_s (fu : Nat) (k1 : Nat) (k2 : Nat)   (n : Nat) (v4 : Int32) (S : St) : f_X2_writePacket_L50 fu k1 k2   (n + 1) v4 S =
    if (256 : Int32) ≤ v4 then
      bnd (f_X4_addNumber fu k2 (S 36 2) (2 : Int32) S) fun r18 S19 =>
      bnd (f_X4_addNumber fu k2 (S19 36 4) (2 : Int32) S19) fun r21 S22 =>
      f_X2_writePacket_L121 fu k1 k2   fu (0 : Int32) S22
    else
      bnd (f_X6_shareOf k1 v4 S) fun r42 S43 =>
      if r42 ≤ 0 then
        f_X2_writePacket_L84 fu k1 k2 (f_X2_writePacket_L50 fu k1 k2   n)  v4 S43
      else
        bnd (f_X4_add k2 v4 S43) fun r47 S48 =>
        bnd (f_X6_shareOf k1 v4 S48) fun r50 S51 =>
        bnd (f_X4_addNumber fu k2 r50 (2 : Int32) S51) fun r53 S54 =>
        f_X2_writePacket_L84 fu k1 k2 (f_X2_writePacket_L50 fu k1 k2   n)  v4 S54 := rfl
def f_X2_writePacket (fu : Nat) (k1 : Nat) (k2 : Nat) (S : St) : Option (Int32 × St) :=
  pin (puS S k2 1 (0 : Int32)) fun S1 =>
  bnd (f_X4_add k2 (83 : Int32) S1) fun r2 S3 =>
  bnd (f_X4_add k2 (((4 : Int32) * (S3 8 1)) + (S3 9 8)) S3) fun r5 S6 =>
  bnd (f_X4_add k2 (S6 k1 1) S6) fun r8 S9 =>
  bnd (f_X6_different fu k1 S9) fun r11 S12 =>
  bnd (f_X4_add k2 (r11 - (1 : Int32)) S12) fun r14 S15 =>
  f_X2_writePacket_L50 fu k1 k2   fu (0 : Int32) S15
def f_X3_clear  (S : St) : Option (Int32 × St) :=
  pin (puS S 42 0 (1 : Int32)) fun S1 =>
  pin (puS S1 41 1 (1 : Int32)) fun S2 =>
  pin (puS S2 41 2 (1 : Int32)) fun S3 =>
  some ((0 : Int32), S3)
def f_X3_multiply_L91 (fu : Nat)     (S : St) : Option (Int32 × St) :=
  pin (puS S 41 2 (1 : Int32)) fun S3 =>
  some ((0 : Int32), S3)
def f_X3_multiply_L4 (fu : Nat)    : Nat → Int64 → Int32 → St → Option (Int32 × St)
  | 0, _, _, _ => none
  | n + 1, v1, v3, S =>
    if (S 41 1) ≤ v3 then
      if (lg_cmp v1 (0 : Int64)) ≤ 0 then
        f_X3_multiply_L91 fu     S
      else
        if (562 : Int32) ≤ (S 41 1) then
          f_X3_multiply_L91 fu     S
        else
          if ((S 41 1) < 0 ∨ 562 ≤ (S 41 1).toNatClampNeg) then none else
          pin (puS S 42 (S 41 1).toNatClampNeg ((v1).toInt32)) fun S5 =>
          pin (puS S5 41 1 ((S5 41 1) + (1 : Int32))) fun S7 =>
          f_X3_multiply_L91 fu     S7
    else
      if (v3 < 0 ∨ 562 ≤ v3.toNatClampNeg) then none else
      pin (((((S 42 v3.toNatClampNeg)).toInt64) * (((S 41 2)).toInt64)) + v1) fun x9 =>
      if (v3 < 0 ∨ 562 ≤ v3.toNatClampNeg) then none else
      pin (puS S 42 v3.toNatClampNeg (((x9 &&& (1073741823 : Int64))).toInt32)) fun S10 =>
      pin (x9 >>> (((30 : Int32)).toInt64 &&& 63)) fun x12 =>
      pin (v3 + (1 : Int32)) fun x13 =>
      f_X3_multiply_L4 fu    n x12 x13 S10
theorem f_X3_multiply_L4_s (fu : Nat)    (n : Nat) (v1 : Int64) (v3 : Int32) (S : St) : f_X3_multiply_L4 fu    (n + 1) v1 v3 S =
    if (S 41 1) ≤ v3 then
      if (lg_cmp v1 (0 : Int64)) ≤ 0 then
        f_X3_multiply_L91 fu     S
      else
        if (562 : Int32) ≤ (S 41 1) then
          f_X3_multiply_L91 fu     S
        else
          if ((S 41 1) < 0 ∨ 562 ≤ (S 41 1).toNatClampNeg) then none else
          pin (puS S 42 (S 41 1).toNatClampNeg ((v1).toInt32)) fun S5 =>
          pin (puS S5 41 1 ((S5 41 1) + (1 : Int32))) fun S7 =>
          f_X3_multiply_L91 fu     S7
    else
      if (v3 < 0 ∨ 562 ≤ v3.toNatClampNeg) then none else
      pin (((((S 42 v3.toNatClampNeg)).toInt64) * (((S 41 2)).toInt64)) + v1) fun x9 =>
      if (v3 < 0 ∨ 562 ≤ v3.toNatClampNeg) then none else
      pin (puS S 42 v3.toNatClampNeg (((x9 &&& (1073741823 : Int64))).toInt32)) fun S10 =>
      pin (x9 >>> (((30 : Int32)).toInt64 &&& 63)) fun x12 =>
      pin (v3 + (1 : Int32)) fun x13 =>
      f_X3_multiply_L4 fu    n x12 x13 S10 := rfl
def f_X3_multiply (fu : Nat)  (S : St) : Option (Int32 × St) :=
  f_X3_multiply_L4 fu    fu (0 : Int64) (0 : Int32) S
def f_X3_highestBit (fu : Nat)  (S : St) : Option (Int32 × St) :=
  bnd (f_X3_multiply fu  S) fun r1 S2 =>
  if (((S2 41 1) - (1 : Int32)) < 0 ∨ 562 ≤ ((S2 41 1) - (1 : Int32)).toNatClampNeg) then none else
  pin (S2 42 ((S2 41 1) - (1 : Int32)).toNatClampNeg) fun x5 =>
  bnd (f_J6_numberOfLeadingZeros_0f7a4 x5 S2) fun r6 S7 =>
  some (((((30 : Int32) * ((S2 41 1) - (1 : Int32))) + (31 : Int32)) - r6), S7)
def f_X3_times_L19 (fu : Nat) (p0 : Int32)   (v1 : Int32) (S : St) : Option (Int32 × St) :=
  pin (puS S 41 2 ((S 41 2) * v1)) fun S2 =>
  some ((0 : Int32), S2)
def f_X3_times (fu : Nat) (p0 : Int32) (S : St) : Option (Int32 × St) :=
  if (lg_cmp ((((S 41 2)).toInt64) * ((p0).toInt64)) (1073741823 : Int64)) ≤ 0 then
    f_X3_times_L19 fu p0   p0 S
  else
    bnd (f_X3_multiply fu  S) fun r3 S4 =>
    f_X3_times_L19 fu p0   p0 S4
def f_X4_copy (k : Nat) (k0 : Nat) (S : St) : Option (Int32 × St) :=
  if (∀ i, i < 4000 → fits .byte (.int (S (k0 + 1) i)) = true) then
  pin (upS S (k + 1) (va_cpy (S (k0 + 1)) (S (k + 1)) 0 0 4000)) fun S2 =>
    pin (puS S2 k 1 (S2 k0 1)) fun S3 =>
    some ((0 : Int32), S3)
  else none
def f_X6_lack (k : Nat) (p0 : Int32) (p2 : Int32) (S : St) : Option (Int32 × St) :=
  if (p0 < 0 ∨ 256 ≤ p0.toNatClampNeg) then none else
  bnd (f_X6_places k S) fun r2 S3 =>
  if (p0 < 0 ∨ 256 ≤ p0.toNatClampNeg) then none else
  some ((((S 6 p0.toNatClampNeg) * r2) - ((S3 (k + 1) p0.toNatClampNeg) * p2)), S3)
def f_X6_leastLacking_L58 (fu : Nat) (k : Nat) (p1 : Int32) (K8 : Int32 → Int32 → Int32 → Int32 → St → Option (Int32 × St))  (v2 : Int32) (v3 : Int32) (v4 : Int32) (v5 : Int32) (S : St) : Option (Int32 × St) :=
  pin (v5 + (1 : Int32)) fun x4 =>
  K8 v2 v3 v4 x4 S
def f_X6_leastLacking_L45 (fu : Nat) (k : Nat) (p1 : Int32) (K8 : Int32 → Int32 → Int32 → Int32 → St → Option (Int32 × St))  (v2 : Int32) (v5 : Int32) (S : St) : Option (Int32 × St) :=
  bnd (f_X6_lack k v5 v2 S) fun r6 S7 =>
  f_X6_leastLacking_L58 fu k p1 K8  v2 v5 r6 v5 S7
def f_X6_leastLacking_L8 (fu : Nat) (k : Nat) (p1 : Int32)   : Nat → Int32 → Int32 → Int32 → Int32 → St → Option (Int32 × St)
  | 0, _, _, _, _, _ => none
  | n + 1, v2, v3, v4, v5, S =>
    if (256 : Int32) ≤ v5 then
      some (v3, S)
    else
      if (v5 < 0 ∨ 256 ≤ v5.toNatClampNeg) then none else
      if (S (k + 1) v5.toNatClampNeg) ≤ (1 : Int32) then
        f_X6_leastLacking_L58 fu k p1 (f_X6_leastLacking_L8 fu k p1   n)  v2 v3 v4 v5 S
      else
        if v3 = (-1 : Int32) then
          f_X6_leastLacking_L45 fu k p1 (f_X6_leastLacking_L8 fu k p1   n)  v2 v5 S
        else
          bnd (f_X6_lack k v5 v2 S) fun r9 S10 =>
          if v4 < r9 then
            f_X6_leastLacking_L58 fu k p1 (f_X6_leastLacking_L8 fu k p1   n)  v2 v3 v4 v5 S10
          else
            f_X6_leastLacking_L45 fu k p1 (f_X6_leastLacking_L8 fu k p1   n)  v2 v5 S10
theorem f_X6_leastLacking_L8_s (fu : Nat) (k : Nat) (p1 : Int32)   (n : Nat) (v2 : Int32) (v3 : Int32) (v4 : Int32) (v5 : Int32) (S : St) : f_X6_leastLacking_L8 fu k p1   (n + 1) v2 v3 v4 v5 S =
    if (256 : Int32) ≤ v5 then
      some (v3, S)
    else
      if (v5 < 0 ∨ 256 ≤ v5.toNatClampNeg) then none else
      if (S (k + 1) v5.toNatClampNeg) ≤ (1 : Int32) then
        f_X6_leastLacking_L58 fu k p1 (f_X6_leastLacking_L8 fu k p1   n)  v2 v3 v4 v5 S
      else
        if v3 = (-1 : Int32) then
          f_X6_leastLacking_L45 fu k p1 (f_X6_leastLacking_L8 fu k p1   n)  v2 v5 S
        else
          bnd (f_X6_lack k v5 v2 S) fun r9 S10 =>
          if v4 < r9 then
            f_X6_leastLacking_L58 fu k p1 (f_X6_leastLacking_L8 fu k p1   n)  v2 v3 v4 v5 S10
          else
            f_X6_leastLacking_L45 fu k p1 (f_X6_leastLacking_L8 fu k p1   n)  v2 v5 S10 := rfl
def f_X6_leastLacking (fu : Nat) (k : Nat) (p1 : Int32) (S : St) : Option (Int32 × St) :=
  f_X6_leastLacking_L8 fu k p1   fu p1 (-1 : Int32) (0 : Int32) (0 : Int32) S
def f_X6_mostLacking_L54 (fu : Nat) (k : Nat) (p1 : Int32) (K8 : Int32 → Int32 → Int32 → Int32 → St → Option (Int32 × St))  (v2 : Int32) (v3 : Int32) (v4 : Int32) (v5 : Int32) (S : St) : Option (Int32 × St) :=
  pin (v5 + (1 : Int32)) fun x4 =>
  K8 v2 v3 v4 x4 S
def f_X6_mostLacking_L41 (fu : Nat) (k : Nat) (p1 : Int32) (K8 : Int32 → Int32 → Int32 → Int32 → St → Option (Int32 × St))  (v2 : Int32) (v5 : Int32) (S : St) : Option (Int32 × St) :=
  bnd (f_X6_lack k v5 v2 S) fun r6 S7 =>
  f_X6_mostLacking_L54 fu k p1 K8  v2 v5 r6 v5 S7
def f_X6_mostLacking_L8 (fu : Nat) (k : Nat) (p1 : Int32)   : Nat → Int32 → Int32 → Int32 → Int32 → St → Option (Int32 × St)
  | 0, _, _, _, _, _ => none
  | n + 1, v2, v3, v4, v5, S =>
    if (256 : Int32) ≤ v5 then
      some (v3, S)
    else
      if (v5 < 0 ∨ 256 ≤ v5.toNatClampNeg) then none else
      if (S 6 v5.toNatClampNeg) ≤ 0 then
        f_X6_mostLacking_L54 fu k p1 (f_X6_mostLacking_L8 fu k p1   n)  v2 v3 v4 v5 S
      else
        if v3 = (-1 : Int32) then
          f_X6_mostLacking_L41 fu k p1 (f_X6_mostLacking_L8 fu k p1   n)  v2 v5 S
        else
          bnd (f_X6_lack k v5 v2 S) fun r9 S10 =>
          if r9 ≤ v4 then
            f_X6_mostLacking_L54 fu k p1 (f_X6_mostLacking_L8 fu k p1   n)  v2 v3 v4 v5 S10
          else
            f_X6_mostLacking_L41 fu k p1 (f_X6_mostLacking_L8 fu k p1   n)  v2 v5 S10
theorem f_X6_mostLacking_L8_s (fu : Nat) (k : Nat) (p1 : Int32)   (n : Nat) (v2 : Int32) (v3 : Int32) (v4 : Int32) (v5 : Int32) (S : St) : f_X6_mostLacking_L8 fu k p1   (n + 1) v2 v3 v4 v5 S =
    if (256 : Int32) ≤ v5 then
      some (v3, S)
    else
      if (v5 < 0 ∨ 256 ≤ v5.toNatClampNeg) then none else
      if (S 6 v5.toNatClampNeg) ≤ 0 then
        f_X6_mostLacking_L54 fu k p1 (f_X6_mostLacking_L8 fu k p1   n)  v2 v3 v4 v5 S
      else
        if v3 = (-1 : Int32) then
          f_X6_mostLacking_L41 fu k p1 (f_X6_mostLacking_L8 fu k p1   n)  v2 v5 S
        else
          bnd (f_X6_lack k v5 v2 S) fun r9 S10 =>
          if r9 ≤ v4 then
            f_X6_mostLacking_L54 fu k p1 (f_X6_mostLacking_L8 fu k p1   n)  v2 v3 v4 v5 S10
          else
            f_X6_mostLacking_L41 fu k p1 (f_X6_mostLacking_L8 fu k p1   n)  v2 v5 S10 := rfl
def f_X6_mostLacking (fu : Nat) (k : Nat) (p1 : Int32) (S : St) : Option (Int32 × St) :=
  f_X6_mostLacking_L8 fu k p1   fu p1 (-1 : Int32) (0 : Int32) (0 : Int32) S
def f_X6_fit_L110 (fu : Nat) (k : Nat) (p1 : Int32) (p2 : Int32)   : Nat → Int32 → Int32 → St → Option (Int32 × St)
  | 0, _, _, _ => none
  | n + 1, v2, v5, S =>
    if v5 ≤ 0 then
      some ((0 : Int32), S)
    else
      bnd (f_X6_leastLacking fu k v2 S) fun r15 S16 =>
      bnd (f_X6_change k r15 (-1 : Int32) S16) fun r18 S19 =>
      pin (v5 + (-1 : Int32)) fun x21 =>
      f_X6_fit_L110 fu k p1 p2   n v2 x21 S19
theorem f_X6_fit_L110_s (fu : Nat) (k : Nat) (p1 : Int32) (p2 : Int32)   (n : Nat) (v2 : Int32) (v5 : Int32) (S : St) : f_X6_fit_L110 fu k p1 p2   (n + 1) v2 v5 S =
    if v5 ≤ 0 then
      some ((0 : Int32), S)
    else
      bnd (f_X6_leastLacking fu k v2 S) fun r15 S16 =>
      bnd (f_X6_change k r15 (-1 : Int32) S16) fun r18 S19 =>
      pin (v5 + (-1 : Int32)) fun x21 =>
      f_X6_fit_L110 fu k p1 p2   n v2 x21 S19 := rfl
def f_X6_fit_L79 (fu : Nat) (k : Nat) (p1 : Int32) (p2 : Int32)   : Nat → Int32 → Int32 → Int32 → St → Option (Int32 × St)
  | 0, _, _, _, _ => none
  | n + 1, v2, v4, v5, S =>
    if v5 ≤ 0 then
      bnd (f_X6_places k S) fun r10 S11 =>
      pin (v4 - r10) fun x13 =>
      f_X6_fit_L110 fu k p1 p2   fu v2 x13 S11
    else
      bnd (f_X6_mostLacking fu k v2 S) fun r22 S23 =>
      bnd (f_X6_change k r22 (1 : Int32) S23) fun r25 S26 =>
      pin (v5 + (-1 : Int32)) fun x28 =>
      f_X6_fit_L79 fu k p1 p2   n v2 v4 x28 S26
theorem f_X6_fit_L79_s (fu : Nat) (k : Nat) (p1 : Int32) (p2 : Int32)   (n : Nat) (v2 : Int32) (v4 : Int32) (v5 : Int32) (S : St) : f_X6_fit_L79 fu k p1 p2   (n + 1) v2 v4 v5 S =
    if v5 ≤ 0 then
      bnd (f_X6_places k S) fun r10 S11 =>
      pin (v4 - r10) fun x13 =>
      f_X6_fit_L110 fu k p1 p2   fu v2 x13 S11
    else
      bnd (f_X6_mostLacking fu k v2 S) fun r22 S23 =>
      bnd (f_X6_change k r22 (1 : Int32) S23) fun r25 S26 =>
      pin (v5 + (-1 : Int32)) fun x28 =>
      f_X6_fit_L79 fu k p1 p2   n v2 v4 x28 S26 := rfl
def f_X6_fit_L64 (fu : Nat) (k : Nat) (p1 : Int32) (p2 : Int32) (K11 : Int32 → Int32 → Int32 → St → Option (Int32 × St))  (v2 : Int32) (v4 : Int32) (v5 : Int32) (S : St) : Option (Int32 × St) :=
  pin (v5 + (1 : Int32)) fun x31 =>
  K11 v2 v4 x31 S
def f_X6_fit_L11 (fu : Nat) (k : Nat) (p1 : Int32) (p2 : Int32)   : Nat → Int32 → Int32 → Int32 → St → Option (Int32 × St)
  | 0, _, _, _, _ => none
  | n + 1, v2, v4, v5, S =>
    if (256 : Int32) ≤ v5 then
      bnd (f_X6_places k S) fun r5 S6 =>
      pin (r5 - v4) fun x8 =>
      f_X6_fit_L79 fu k p1 p2   fu v2 v4 x8 S6
    else
      if (v5 < 0 ∨ 256 ≤ v5.toNatClampNeg) then none else
      if (S 6 v5.toNatClampNeg) ≤ 0 then
        f_X6_fit_L64 fu k p1 p2 (f_X6_fit_L11 fu k p1 p2   n)  v2 v4 v5 S
      else
        if v2 ≤ 0 then
          f_X6_fit_L64 fu k p1 p2 (f_X6_fit_L11 fu k p1 p2   n)  v2 v4 v5 S
        else
          if (v5 < 0 ∨ 256 ≤ v5.toNatClampNeg) then none else
          bnd (f_X6_places k S) fun r34 S35 =>
          if v2 = 0 then none else
          if (v5 < 0 ∨ 256 ≤ v5.toNatClampNeg) then none else
          pin (puS S35 (k + 1) v5.toNatClampNeg (if (1 : Int32) < (((S 6 v5.toNatClampNeg) * r34) / v2) then (((S 6 v5.toNatClampNeg) * r34) / v2) else (1 : Int32))) fun S38 =>
          if (v5 < 0 ∨ 256 ≤ v5.toNatClampNeg) then none else
          pin (v4 + (S38 (k + 1) v5.toNatClampNeg)) fun x41 =>
          f_X6_fit_L64 fu k p1 p2 (f_X6_fit_L11 fu k p1 p2   n)  v2 x41 v5 S38
theorem f_X6_fit_L11_s (fu : Nat) (k : Nat) (p1 : Int32) (p2 : Int32)   (n : Nat) (v2 : Int32) (v4 : Int32) (v5 : Int32) (S : St) : f_X6_fit_L11 fu k p1 p2   (n + 1) v2 v4 v5 S =
    if (256 : Int32) ≤ v5 then
      bnd (f_X6_places k S) fun r5 S6 =>
      pin (r5 - v4) fun x8 =>
      f_X6_fit_L79 fu k p1 p2   fu v2 v4 x8 S6
    else
      if (v5 < 0 ∨ 256 ≤ v5.toNatClampNeg) then none else
      if (S 6 v5.toNatClampNeg) ≤ 0 then
        f_X6_fit_L64 fu k p1 p2 (f_X6_fit_L11 fu k p1 p2   n)  v2 v4 v5 S
      else
        if v2 ≤ 0 then
          f_X6_fit_L64 fu k p1 p2 (f_X6_fit_L11 fu k p1 p2   n)  v2 v4 v5 S
        else
          if (v5 < 0 ∨ 256 ≤ v5.toNatClampNeg) then none else
          bnd (f_X6_places k S) fun r34 S35 =>
          if v2 = 0 then none else
          if (v5 < 0 ∨ 256 ≤ v5.toNatClampNeg) then none else
          pin (puS S35 (k + 1) v5.toNatClampNeg (if (1 : Int32) < (((S 6 v5.toNatClampNeg) * r34) / v2) then (((S 6 v5.toNatClampNeg) * r34) / v2) else (1 : Int32))) fun S38 =>
          if (v5 < 0 ∨ 256 ≤ v5.toNatClampNeg) then none else
          pin (v4 + (S38 (k + 1) v5.toNatClampNeg)) fun x41 =>
          f_X6_fit_L64 fu k p1 p2 (f_X6_fit_L11 fu k p1 p2   n)  v2 x41 v5 S38 := rfl
def f_X6_fit (fu : Nat) (k : Nat) (p1 : Int32) (p2 : Int32) (S : St) : Option (Int32 × St) :=
  bnd (f_X6_clear fu k p2 S) fun r1 S2 =>
  f_X6_fit_L11 fu k p1 p2   fu p1 (0 : Int32) (0 : Int32) S2
def f_X6_isThere (k : Nat) (S : St) : Option (Int32 × St) :=
  if (S k 1) ≤ 0 then
    some ((0 : Int32), S)
  else
    some ((1 : Int32), S)
def f_X6_startOf_L4 (fu : Nat) (k : Nat) (p0 : Int32)   : Nat → Int32 → Int32 → Int32 → St → Option (Int32 × St)
  | 0, _, _, _, _ => none
  | n + 1, v1, v2, v3, S =>
    if v1 ≤ v3 then
      some (v2, S)
    else
      if (256 : Int32) ≤ v3 then
        some (v2, S)
      else
        if (v3 < 0 ∨ 256 ≤ v3.toNatClampNeg) then none else
        pin (v2 + (S (k + 1) v3.toNatClampNeg)) fun x4 =>
        pin (v3 + (1 : Int32)) fun x5 =>
        f_X6_startOf_L4 fu k p0   n v1 x4 x5 S
theorem f_X6_startOf_L4_s (fu : Nat) (k : Nat) (p0 : Int32)   (n : Nat) (v1 : Int32) (v2 : Int32) (v3 : Int32) (S : St) : f_X6_startOf_L4 fu k p0   (n + 1) v1 v2 v3 S =
    if v1 ≤ v3 then
      some (v2, S)
    else
      if (256 : Int32) ≤ v3 then
        some (v2, S)
      else
        if (v3 < 0 ∨ 256 ≤ v3.toNatClampNeg) then none else
        pin (v2 + (S (k + 1) v3.toNatClampNeg)) fun x4 =>
        pin (v3 + (1 : Int32)) fun x5 =>
        f_X6_startOf_L4 fu k p0   n v1 x4 x5 S := rfl
def f_X6_startOf (fu : Nat) (k : Nat) (p0 : Int32) (S : St) : Option (Int32 × St) :=
  f_X6_startOf_L4 fu k p0   fu p0 (0 : Int32) (0 : Int32) S
def f_X7_copy (k : Nat) (k0 : Nat) (S : St) : Option (Int32 × St) :=
  pin (upS S (k + 1) (va_cpy (S (k0 + 1)) (S (k + 1)) 0 0 6)) fun S1 =>
  some ((0 : Int32), S1)
def f_X7_figure (k : Nat) (p0 : Int32) (S : St) : Option (Int32 × St) :=
  if p0 < 0 then
    some ((-1 : Int32), S)
  else
    if (6 : Int32) ≤ p0 then
      some ((-1 : Int32), S)
    else
      if (p0 < 0 ∨ 6 ≤ p0.toNatClampNeg) then none else
      some ((S (k + 1) p0.toNatClampNeg), S)
def f_X8_isTableNumber (p0 : Int32) (S : St) : Option (Int32 × St) :=
  if p0 < 0 then
    some ((0 : Int32), S)
  else
    if (6 : Int32) ≤ p0 then
      some ((0 : Int32), S)
    else
      some ((1 : Int32), S)
def f_X8_tableOrNull (p0 : Int32) (S : St) : Option (Int32 × St) :=
  bnd (f_X8_isTableNumber p0 S) fun r1 S2 =>
  if r1 = 0 then
    some ((0 : Int32), S2)
  else
    if (p0 < 0 ∨ 6 ≤ p0.toNatClampNeg) then none else
    pin (S2 5 p0.toNatClampNeg).toNatClampNeg fun kt7 =>
    if zx_tab kt7 = true then
      bnd (f_X6_isThere kt7 S2) fun r8 S9 =>
      if r8 = 0 then
        some ((0 : Int32), S9)
      else
        some (nI kt7, S9)
    else none
def f_X8_prepareForState (fu : Nat) (p0 : Int32) (p1 : Int32) (p2 : Int32) (p3 : Int32) (S : St) : Option (Int32 × St) :=
  bnd (f_X8_tableOrNull p0 S) fun r1 S2 =>
  if r1 = 0 then
    some ((0 : Int32), S2)
  else pin r1.toNatClampNeg fun kt5 =>
  if zx_tab kt5 = true then
    bnd (f_X8_isCoding p1 p2 S2) fun r7 S8 =>
    if r7 = 0 then
      some ((0 : Int32), S8)
    else
      bnd (f_X0_prepare fu kt5 p1 p2 S8) fun r11 S12 =>
      bnd (f_X0_isState p3 S12) fun r14 S15 =>
      if (r14 = 0 ∨ r14 = 1) then some (r14, S15) else none
  else none
def f_X8_code (fu : Nat) (p0 : Int32) (p1 : Int32) (p2 : Int32) (p3 : Int32) (p4 : Int32) (S : St) : Option (Int32 × St) :=
  bnd (f_X8_prepareForState fu p0 p1 p2 p3 S) fun r1 S2 =>
  if r1 = 0 then
    some ((-1 : Int32), S2)
  else
    bnd (f_X5_shareOf p4 S2) fun r5 S6 =>
    if r5 = 0 then
      some ((-1 : Int32), S6)
    else
      bnd (f_X0_advance fu p3 p4 S6) fun r9 S10 =>
      pin (puS S10 0 9 (S10 8 6)) fun S12 =>
      pin (puS S12 0 10 (S12 8 7)) fun S13 =>
      some ((S13 8 5), S13)
def f_X8_countTape_L61 (fu : Nat)  (K12 : Int32 → Int32 → St → Option (Int32 × St))  (v1 : Int32) (v2 : Int32) (S : St) : Option (Int32 × St) :=
  pin (v2 + (1 : Int32)) fun x12 =>
  K12 v1 x12 S
def f_X8_countTape_L51 (fu : Nat)  (K12 : Int32 → Int32 → St → Option (Int32 × St))  (v1 : Int32) (v2 : Int32) (v3 : Int32) (S : St) : Option (Int32 × St) :=
  if (v3 < 0 ∨ 256 ≤ v3.toNatClampNeg) then none else
  if (v3 < 0 ∨ 256 ≤ v3.toNatClampNeg) then none else
  pin (puS S 6 v3.toNatClampNeg ((S 6 v3.toNatClampNeg) + (1 : Int32))) fun S16 =>
  f_X8_countTape_L61 fu  K12  v1 v2 S16
def f_X8_countTape_L12 (fu : Nat)    : Nat → Int32 → Int32 → St → Option (Int32 × St)
  | 0, _, _, _ => none
  | n + 1, v1, v2, S =>
    if (S 1 1) ≤ v2 then
      some (v1, S)
    else
      bnd (f_X4_byteAt 1 v2 S) fun r5 S6 =>
      bnd (f_X8_isSymbol r5 S6) fun r8 S9 =>
      if r8 = 0 then
        f_X8_countTape_L61 fu  (f_X8_countTape_L12 fu    n)  v1 v2 S9
      else
        if (r5 < 0 ∨ 256 ≤ r5.toNatClampNeg) then none else
        if (S9 6 r5.toNatClampNeg) = 0 then
          pin (v1 + (1 : Int32)) fun x18 =>
          f_X8_countTape_L51 fu  (f_X8_countTape_L12 fu    n)  x18 v2 r5 S9
        else
          f_X8_countTape_L51 fu  (f_X8_countTape_L12 fu    n)  v1 v2 r5 S9
theorem f_X8_countTape_L12_s (fu : Nat)    (n : Nat) (v1 : Int32) (v2 : Int32) (S : St) : f_X8_countTape_L12 fu    (n + 1) v1 v2 S =
    if (S 1 1) ≤ v2 then
      some (v1, S)
    else
      bnd (f_X4_byteAt 1 v2 S) fun r5 S6 =>
      bnd (f_X8_isSymbol r5 S6) fun r8 S9 =>
      if r8 = 0 then
        f_X8_countTape_L61 fu  (f_X8_countTape_L12 fu    n)  v1 v2 S9
      else
        if (r5 < 0 ∨ 256 ≤ r5.toNatClampNeg) then none else
        if (S9 6 r5.toNatClampNeg) = 0 then
          pin (v1 + (1 : Int32)) fun x18 =>
          f_X8_countTape_L51 fu  (f_X8_countTape_L12 fu    n)  x18 v2 r5 S9
        else
          f_X8_countTape_L51 fu  (f_X8_countTape_L12 fu    n)  v1 v2 r5 S9 := rfl
def f_X8_countTape (fu : Nat)  (S : St) : Option (Int32 × St) :=
  bnd (f_J7_fill_53178 fu 6 (0 : Int32) S) fun r1 S2 =>
  f_X8_countTape_L12 fu    fu (0 : Int32) (0 : Int32) S2
def f_X8_end (p0 : Int32) (S : St) : Option (Int32 × St) :=
  if p0 < 0 then
    some ((-1 : Int32), S)
  else
    if p0 ≤ (S 1 1) then
      pin (puS S 1 1 p0) fun S3 =>
      some (p0, S3)
    else
      some ((-1 : Int32), S)
def f_X8_fault (p0 : Int32) (S : St) : Option (Int32 × St) :=
  if p0 = 0 then
    some ((S 7 6), S)
  else
    if p0 = (1 : Int32) then
      some ((S 7 7), S)
    else
      some ((-1 : Int32), S)
def f_X8_feed (fu : Nat) (p0 : Int32) (p1 : Int32) (p2 : Int32) (p3 : Int32) (p4 : Int32) (S : St) : Option (Int32 × St) :=
  if ((S 1 1) + (20 : Int32)) ≤ (4000 : Int32) then
    bnd (f_X4_addNumber fu 1 p0 (4 : Int32) S) fun r2 S3 =>
    bnd (f_X4_addNumber fu 1 p1 (4 : Int32) S3) fun r5 S6 =>
    bnd (f_X4_addNumber fu 1 p2 (4 : Int32) S6) fun r8 S9 =>
    bnd (f_X4_addNumber fu 1 p3 (4 : Int32) S9) fun r11 S12 =>
    bnd (f_X4_addNumber fu 1 p4 (4 : Int32) S12) fun r14 S15 =>
    some ((S15 1 1), S15)
  else
    some ((-1 : Int32), S)
def f_X8_gone (p0 : Int32) (S : St) : Option (Int32 × St) :=
  if p0 = 0 then
    some ((S 0 9), S)
  else
    if p0 = (1 : Int32) then
      some ((S 0 10), S)
    else
      some ((-1 : Int32), S)
def f_X8_refusalOfTape_L18 (fu : Nat) (k0 : Nat)   : Nat → Int32 → St → Option (Int32 × St)
  | 0, _, _ => none
  | n + 1, v2, S =>
    if (S 1 1) ≤ v2 then
      some ((0 : Int32), S)
    else
      bnd (f_X4_byteAt 1 v2 S) fun r3 S4 =>
      bnd (f_X6_shareOf k0 r3 S4) fun r6 S7 =>
      if r6 = 0 then
        some ((-3 : Int32), S7)
      else
        pin (v2 + (1 : Int32)) fun x10 =>
        f_X8_refusalOfTape_L18 fu k0   n x10 S7
theorem f_X8_refusalOfTape_L18_s (fu : Nat) (k0 : Nat)   (n : Nat) (v2 : Int32) (S : St) : f_X8_refusalOfTape_L18 fu k0   (n + 1) v2 S =
    if (S 1 1) ≤ v2 then
      some ((0 : Int32), S)
    else
      bnd (f_X4_byteAt 1 v2 S) fun r3 S4 =>
      bnd (f_X6_shareOf k0 r3 S4) fun r6 S7 =>
      if r6 = 0 then
        some ((-3 : Int32), S7)
      else
        pin (v2 + (1 : Int32)) fun x10 =>
        f_X8_refusalOfTape_L18 fu k0   n x10 S7 := rfl
def f_X8_refusalOfTape (fu : Nat) (k0 : Nat) (S : St) : Option (Int32 × St) :=
  if (S 1 1) ≤ (1400 : Int32) then
    f_X8_refusalOfTape_L18 fu k0   fu (0 : Int32) S
  else
    some ((-2 : Int32), S)
def f_X8_ideal_L34 (fu : Nat) (p0 : Int32)  (kt2 : Nat) : Nat → Int32 → St → Option (Int32 × St)
  | 0, _, _ => none
  | n + 1, v4, S =>
    if (S 1 1) ≤ v4 then
      bnd (f_X3_highestBit fu  S) fun r15 S16 =>
      some ((((S kt2 1) * (S 1 1)) - r15), S16)
    else
      bnd (f_X4_byteAt 1 v4 S) fun r18 S19 =>
      bnd (f_X6_shareOf kt2 r18 S19) fun r21 S22 =>
      bnd (f_X3_times fu r21 S22) fun r24 S25 =>
      pin (v4 + (1 : Int32)) fun x27 =>
      f_X8_ideal_L34 fu p0  kt2 n x27 S25
theorem f_X8_ideal_L34_s (fu : Nat) (p0 : Int32)  (kt2 : Nat) (n : Nat) (v4 : Int32) (S : St) : f_X8_ideal_L34 fu p0  kt2 (n + 1) v4 S =
    if (S 1 1) ≤ v4 then
      bnd (f_X3_highestBit fu  S) fun r15 S16 =>
      some ((((S kt2 1) * (S 1 1)) - r15), S16)
    else
      bnd (f_X4_byteAt 1 v4 S) fun r18 S19 =>
      bnd (f_X6_shareOf kt2 r18 S19) fun r21 S22 =>
      bnd (f_X3_times fu r21 S22) fun r24 S25 =>
      pin (v4 + (1 : Int32)) fun x27 =>
      f_X8_ideal_L34 fu p0  kt2 n x27 S25 := rfl
def f_X8_ideal (fu : Nat) (p0 : Int32) (S : St) : Option (Int32 × St) :=
  bnd (f_X8_tableOrNull p0 S) fun r1 S2 =>
  if r1 = 0 then
    some ((-1 : Int32), S2)
  else pin r1.toNatClampNeg fun kt5 =>
  if zx_tab kt5 = true then
    bnd (f_X8_refusalOfTape fu kt5 S2) fun r7 S8 =>
    if r7 = 0 then
      bnd (f_X3_clear  S8) fun r11 S12 =>
      f_X8_ideal_L34 fu p0  kt5 fu (0 : Int32) S12
    else
      some (r7, S8)
  else none
def f_X8_layForPlace (fu : Nat) (p0 : Int32) (p1 : Int32) (p2 : Int32) (S : St) : Option (Int32 × St) :=
  bnd (f_X8_tableOrNull p0 S) fun r1 S2 =>
  if r1 = 0 then
    some ((0 : Int32), S2)
  else pin r1.toNatClampNeg fun kt5 =>
  if zx_tab kt5 = true then
    bnd (f_X8_isSpread p1 S2) fun r7 S8 =>
    if r7 = 0 then
      some ((0 : Int32), S8)
    else
      if p2 < 0 then
        some ((0 : Int32), S8)
      else
        bnd (f_X6_places kt5 S8) fun r12 S13 =>
        if p2 < r12 then
          bnd (f_X5_lay fu kt5 p1 S13) fun r16 S17 =>
          some ((1 : Int32), S17)
        else
          some ((0 : Int32), S13)
  else none
def f_X8_learn (fu : Nat) (p0 : Int32) (p1 : Int32) (S : St) : Option (Int32 × St) :=
  bnd (f_X8_isTableNumber p0 S) fun r1 S2 =>
  if r1 = 0 then
    some ((-1 : Int32), S2)
  else
    bnd (f_X8_isLog p1 S2) fun r5 S6 =>
    if r5 = 0 then
      some ((-1 : Int32), S6)
    else
      if (S6 1 1) = 0 then
        some ((-2 : Int32), S6)
      else
        bnd (f_X8_countTape fu  S6) fun r10 S11 =>
        if r10 ≤ ((1 : Int32) <<< (p1 &&& 31)) then
          if (p0 < 0 ∨ 6 ≤ p0.toNatClampNeg) then none else
          pin (S11 5 p0.toNatClampNeg).toNatClampNeg fun kt16 =>
          if zx_tab kt16 = true then
            bnd (f_X6_fit fu kt16 (S11 1 1) p1 S11) fun r17 S18 =>
            bnd (f_X5_forget  S18) fun r20 S21 =>
            some (r10, S21)
          else none
        else
          some ((-3 : Int32), S11)
def f_X8_left (fu : Nat) (p0 : Int32) (p1 : Int32) (p2 : Int32) (p3 : Int32) (S : St) : Option (Int32 × St) :=
  bnd (f_X8_prepareForState fu p0 p1 p2 p3 S) fun r1 S2 =>
  if r1 = 0 then
    some ((-1 : Int32), S2)
  else
    bnd (f_X0_behindSymbol p3 S2) fun r5 S6 =>
    some (r5, S6)
def f_X8_log (p0 : Int32) (S : St) : Option (Int32 × St) :=
  bnd (f_X8_tableOrNull p0 S) fun r1 S2 =>
  if r1 = 0 then
    some ((-1 : Int32), S2)
  else pin r1.toNatClampNeg fun kt5 =>
  if zx_tab kt5 = true then
    some ((S2 kt5 1), S2)
  else none
def f_X8_look (p0 : Int32) (S : St) : Option (Int32 × St) :=
  bnd (f_X7_figure 39 p0 S) fun r1 S2 =>
  some (r1, S2)
def f_X8_pack (fu : Nat) (p0 : Int32) (p1 : Int32) (p2 : Int32) (S : St) : Option (Int32 × St) :=
  bnd (f_X8_tableOrNull p0 S) fun r1 S2 =>
  if r1 = 0 then
    some ((-1 : Int32), S2)
  else pin r1.toNatClampNeg fun kt5 =>
  if zx_tab kt5 = true then
    bnd (f_X8_isCoding p1 p2 S2) fun r7 S8 =>
    if r7 = 0 then
      some ((-1 : Int32), S8)
    else
      bnd (f_X8_refusalOfTape fu kt5 S8) fun r11 S12 =>
      if r11 = 0 then
        bnd (f_X0_prepare fu kt5 p1 p2 S12) fun r15 S16 =>
        bnd (f_X2_codeMessage fu 1 S16) fun r18 S19 =>
        bnd (f_X2_writePacket fu kt5 3 S19) fun r21 S22 =>
        bnd (f_X7_copy 39 35 S22) fun r24 S25 =>
        some ((S25 3 1), S25)
      else
        some (r11, S12)
  else none
def f_X8_place (fu : Nat) (p0 : Int32) (p1 : Int32) (p2 : Int32) (S : St) : Option (Int32 × St) :=
  bnd (f_X8_layForPlace fu p0 p1 p2 S) fun r1 S2 =>
  if r1 = 0 then
    some ((-1 : Int32), S2)
  else
    bnd (f_X5_symbolAt p2 S2) fun r5 S6 =>
    some (r5, S6)
def f_X8_rank (fu : Nat) (p0 : Int32) (p1 : Int32) (p2 : Int32) (S : St) : Option (Int32 × St) :=
  bnd (f_X8_layForPlace fu p0 p1 p2 S) fun r1 S2 =>
  if r1 = 0 then
    some ((-1 : Int32), S2)
  else
    bnd (f_X5_rankAt p2 S2) fun r5 S6 =>
    some (r5, S6)
def f_X8_share (p0 : Int32) (p1 : Int32) (S : St) : Option (Int32 × St) :=
  bnd (f_X8_tableOrNull p0 S) fun r1 S2 =>
  if r1 = 0 then
    some ((-1 : Int32), S2)
  else pin r1.toNatClampNeg fun kt5 =>
  if zx_tab kt5 = true then
    bnd (f_X8_isSymbol p1 S2) fun r7 S8 =>
    if r7 = 0 then
      some ((-1 : Int32), S8)
    else
      bnd (f_X6_shareOf kt5 p1 S8) fun r11 S12 =>
      some (r11, S12)
  else none
def f_X8_start (fu : Nat) (p0 : Int32) (p1 : Int32) (S : St) : Option (Int32 × St) :=
  bnd (f_X8_tableOrNull p0 S) fun r1 S2 =>
  if r1 = 0 then
    some ((-1 : Int32), S2)
  else pin r1.toNatClampNeg fun kt5 =>
  if zx_tab kt5 = true then
    bnd (f_X8_isSymbol p1 S2) fun r7 S8 =>
    if r7 = 0 then
      some ((-1 : Int32), S8)
    else
      bnd (f_X6_startOf fu kt5 p1 S8) fun r11 S12 =>
      some (r11, S12)
  else none
def f_X8_symbol (fu : Nat) (p0 : Int32) (p1 : Int32) (p2 : Int32) (p3 : Int32) (S : St) : Option (Int32 × St) :=
  bnd (f_X8_prepareForState fu p0 p1 p2 p3 S) fun r1 S2 =>
  if r1 = 0 then
    some ((-1 : Int32), S2)
  else
    bnd (f_X0_symbolOf p3 S2) fun r5 S6 =>
    some (r5, S6)
def f_X8_take  (S : St) : Option (Int32 × St) :=
  bnd (f_X4_copy 1 3 S) fun r1 S2 =>
  some ((S2 1 1), S2)
def f_X8_unpack (fu : Nat) (p0 : Int32) (S : St) : Option (Int32 × St) :=
  bnd (f_X8_isTableNumber p0 S) fun r1 S2 =>
  if r1 = 0 then
    some ((-1 : Int32), S2)
  else
    bnd (f_X1_readPacket fu  S2) fun r5 S6 =>
    pin (puS S6 1 1 (0 : Int32)) fun S8 =>
    if r5 = 0 then
      some ((-1 : Int32), S8)
    else
      if (p0 < 0 ∨ 6 ≤ p0.toNatClampNeg) then none else
      pin (S8 5 p0.toNatClampNeg).toNatClampNeg fun kt12 =>
      if zx_tab kt12 = true then
        bnd (f_X1_exchangeTable kt12 S8) fun r13 S14 =>
        if r13 = 0 then
          none
        else pin r13.toNatClampNeg fun kt17 =>
        if zx_tab kt17 = true then
          if (p0 < 0 ∨ 6 ≤ p0.toNatClampNeg) then none else
          pin (puS S14 5 p0.toNatClampNeg (nI kt17)) fun S20 =>
          bnd (f_X1_writeMessage fu 3 S20) fun r21 S22 =>
          bnd (f_X7_copy 39 16 S22) fun r24 S25 =>
          some ((S25 3 1), S25)
        else none
      else none
def f_X8_written (p0 : Int32) (S : St) : Option (Int32 × St) :=
  bnd (f_X4_byteAt 3 p0 S) fun r1 S2 =>
  some (r1, S2)
def f_X9_begin_L47 (fu : Nat) (p0 : Int32)   : Nat → Int32 → Int32 → St → Option (Int32 × St)
  | 0, _, _, _ => none
  | n + 1, v1, v3, S =>
    if (3 : Int32) ≤ v3 then
      some ((0 : Int32), S)
    else
      if ((((3 : Int32) * v1) + v3) < 0 ∨ 21 ≤ (((3 : Int32) * v1) + v3).toNatClampNeg) then none else
      pin (puS S 49 (((3 : Int32) * v1) + v3).toNatClampNeg (vp_nar .boolean (0 : Int32))) fun S3 =>
      pin (v3 + (1 : Int32)) fun x5 =>
      f_X9_begin_L47 fu p0   n v1 x5 S3
theorem f_X9_begin_L47_s (fu : Nat) (p0 : Int32)   (n : Nat) (v1 : Int32) (v3 : Int32) (S : St) : f_X9_begin_L47 fu p0   (n + 1) v1 v3 S =
    if (3 : Int32) ≤ v3 then
      some ((0 : Int32), S)
    else
      if ((((3 : Int32) * v1) + v3) < 0 ∨ 21 ≤ (((3 : Int32) * v1) + v3).toNatClampNeg) then none else
      pin (puS S 49 (((3 : Int32) * v1) + v3).toNatClampNeg (vp_nar .boolean (0 : Int32))) fun S3 =>
      pin (v3 + (1 : Int32)) fun x5 =>
      f_X9_begin_L47 fu p0   n v1 x5 S3 := rfl
def f_X9_begin_L4 (fu : Nat) (p0 : Int32)   : Nat → Int32 → Int32 → Int32 → St → Option (Int32 × St)
  | 0, _, _, _, _ => none
  | n + 1, v1, v2, v3, S =>
    if (256 : Int32) ≤ v3 then
      f_X9_begin_L47 fu p0   fu v1 (0 : Int32) S
    else
      if ((((256 : Int32) * v1) + v3) < 0 ∨ 1792 ≤ (((256 : Int32) * v1) + v3).toNatClampNeg) then none else
      pin (puS S 48 (((256 : Int32) * v1) + v3).toNatClampNeg v2) fun S6 =>
      if ((((256 : Int32) * v1) + v3) < 0 ∨ 1792 ≤ (((256 : Int32) * v1) + v3).toNatClampNeg) then none else
      pin (v2 + (S6 47 (((256 : Int32) * v1) + v3).toNatClampNeg)) fun x9 =>
      pin (v3 + (1 : Int32)) fun x10 =>
      f_X9_begin_L4 fu p0   n v1 x9 x10 S6
theorem f_X9_begin_L4_s (fu : Nat) (p0 : Int32)   (n : Nat) (v1 : Int32) (v2 : Int32) (v3 : Int32) (S : St) : f_X9_begin_L4 fu p0   (n + 1) v1 v2 v3 S =
    if (256 : Int32) ≤ v3 then
      f_X9_begin_L47 fu p0   fu v1 (0 : Int32) S
    else
      if ((((256 : Int32) * v1) + v3) < 0 ∨ 1792 ≤ (((256 : Int32) * v1) + v3).toNatClampNeg) then none else
      pin (puS S 48 (((256 : Int32) * v1) + v3).toNatClampNeg v2) fun S6 =>
      if ((((256 : Int32) * v1) + v3) < 0 ∨ 1792 ≤ (((256 : Int32) * v1) + v3).toNatClampNeg) then none else
      pin (v2 + (S6 47 (((256 : Int32) * v1) + v3).toNatClampNeg)) fun x9 =>
      pin (v3 + (1 : Int32)) fun x10 =>
      f_X9_begin_L4 fu p0   n v1 x9 x10 S6 := rfl
def f_X9_begin (fu : Nat) (p0 : Int32) (S : St) : Option (Int32 × St) :=
  f_X9_begin_L4 fu p0   fu p0 (0 : Int32) (0 : Int32) S
def f_X9_behind (p0 : Int32) (p1 : Int32) (p2 : Int32) (p3 : Int32) (p4 : Int32) (S : St) : Option (Int32 × St) :=
  if (p0 < 0 ∨ 7 ≤ p0.toNatClampNeg) then none else
  pin ((1 : Int32) <<< ((S 46 p0.toNatClampNeg) &&& 31)) fun x2 =>
  if p1 = 0 then
    if (((((4096 : Int32) * (((3 : Int32) * p0) + p2)) + p3) - x2) < 0 ∨ 86016 ≤ ((((4096 : Int32) * (((3 : Int32) * p0) + p2)) + p3) - x2).toNatClampNeg) then none else
    some ((S 51 ((((4096 : Int32) * (((3 : Int32) * p0) + p2)) + p3) - x2).toNatClampNeg), S)
  else
    if ((((256 : Int32) * p0) + p4) < 0 ∨ 1792 ≤ (((256 : Int32) * p0) + p4).toNatClampNeg) then none else
    if (p0 < 0 ∨ 7 ≤ p0.toNatClampNeg) then none else
    if ((((256 : Int32) * p0) + p4) < 0 ∨ 1792 ≤ (((256 : Int32) * p0) + p4).toNatClampNeg) then none else
    some (((((S 47 (((256 : Int32) * p0) + p4).toNatClampNeg) * (p3 >>> ((S 46 p0.toNatClampNeg) &&& 31))) + (p3 &&& (x2 - (1 : Int32)))) - (S 48 (((256 : Int32) * p0) + p4).toNatClampNeg)), S)
def f_X9_isState (p0 : Int32) (p1 : Int32) (p2 : Int32) (S : St) : Option (Int32 × St) :=
  if p1 = 0 then
    if (p0 < 0 ∨ 7 ≤ p0.toNatClampNeg) then none else
    if p2 < ((1 : Int32) <<< ((S 46 p0.toNatClampNeg) &&& 31)) then
      some ((0 : Int32), S)
    else
      if (p0 < 0 ∨ 7 ≤ p0.toNatClampNeg) then none else
      if ((2 : Int32) <<< ((S 46 p0.toNatClampNeg) &&& 31)) ≤ p2 then
        some ((0 : Int32), S)
      else
        some ((1 : Int32), S)
  else
    if p2 < (8388608 : Int32) then
      some ((0 : Int32), S)
    else
      some ((1 : Int32), S)
def f_X9_isTable (p0 : Int32) (S : St) : Option (Int32 × St) :=
  if p0 < 0 then
    some ((0 : Int32), S)
  else
    if (6 : Int32) ≤ p0 then
      some ((0 : Int32), S)
    else
      if (p0 < 0 ∨ 7 ≤ p0.toNatClampNeg) then none else
      if (S 46 p0.toNatClampNeg) ≤ 0 then
        some ((0 : Int32), S)
      else
        some ((1 : Int32), S)
def f_X9_isWay_L31 (p0 : Int32) (p1 : Int32)   (v1 : Int32) (S : St) : Option (Int32 × St) :=
  if v1 = 0 then
    some ((1 : Int32), S)
  else
    some ((0 : Int32), S)
def f_X9_isWay (p0 : Int32) (p1 : Int32) (S : St) : Option (Int32 × St) :=
  if p0 = 0 then
    if p1 < 0 then
      some ((0 : Int32), S)
    else
      if (3 : Int32) ≤ p1 then
        some ((0 : Int32), S)
      else
        some ((1 : Int32), S)
  else
    if p0 = (1 : Int32) then
      f_X9_isWay_L31 p0 p1   p1 S
    else
      if p0 = (2 : Int32) then
        f_X9_isWay_L31 p0 p1   p1 S
      else
        some ((0 : Int32), S)
def f_X9_isAhead (p0 : Int32) (p1 : Int32) (p2 : Int32) (S : St) : Option (Int32 × St) :=
  if (p1 < 0 ∨ 256 ≤ p1.toNatClampNeg) then none else
  if ((((256 : Int32) * p0) + p2) < 0 ∨ 1792 ≤ (((256 : Int32) * p0) + p2).toNatClampNeg) then none else
  pin ((((2 : Int32) * (S 55 p1.toNatClampNeg)) + (1 : Int32)) * (S 47 (((256 : Int32) * p0) + p2).toNatClampNeg)) fun x3 =>
  if (p2 < 0 ∨ 256 ≤ p2.toNatClampNeg) then none else
  if ((((256 : Int32) * p0) + p1) < 0 ∨ 1792 ≤ (((256 : Int32) * p0) + p1).toNatClampNeg) then none else
  pin ((((2 : Int32) * (S 55 p2.toNatClampNeg)) + (1 : Int32)) * (S 47 (((256 : Int32) * p0) + p1).toNatClampNeg)) fun x6 =>
  if x3 < x6 then
    some ((1 : Int32), S)
  else
    if x3 = x6 then
      if p2 ≤ p1 then
        some ((0 : Int32), S)
      else
        some ((1 : Int32), S)
    else
      some ((0 : Int32), S)
def f_X9_sink_L59 (fu : Nat) (p0 : Int32) (p1 : Int32) (K2 : Int32 → Int32 → St → Option (Int32 × St))  (v1 : Int32) (v3 : Int32) (v4 : Int32) (S : St) : Option (Int32 × St) :=
  if (v4 < 0 ∨ 256 ≤ v4.toNatClampNeg) then none else
  if (v3 < 0 ∨ 256 ≤ v3.toNatClampNeg) then none else
  bnd (f_X9_isAhead v1 (S 54 v4.toNatClampNeg) (S 54 v3.toNatClampNeg) S) fun r6 S7 =>
  if r6 = 0 then
    some ((0 : Int32), S7)
  else
    if (v4 < 0 ∨ 256 ≤ v4.toNatClampNeg) then none else
    pin (S7 54 v4.toNatClampNeg) fun x11 =>
    if (v3 < 0 ∨ 256 ≤ v3.toNatClampNeg) then none else
    if (v4 < 0 ∨ 256 ≤ v4.toNatClampNeg) then none else
    pin (puS S7 54 v4.toNatClampNeg (S7 54 v3.toNatClampNeg)) fun S13 =>
    if (v3 < 0 ∨ 256 ≤ v3.toNatClampNeg) then none else
    pin (puS S13 54 v3.toNatClampNeg x11) fun S15 =>
    K2 v1 v4 S15
def f_X9_sink_L2 (fu : Nat) (p0 : Int32) (p1 : Int32)   : Nat → Int32 → Int32 → St → Option (Int32 × St)
  | 0, _, _, _ => none
  | n + 1, v1, v3, S =>
    if (S 43 13) ≤ (((2 : Int32) * v3) + (1 : Int32)) then
      some ((0 : Int32), S)
    else
      pin (((2 : Int32) * v3) + (1 : Int32)) fun x2 =>
      if (S 43 13) ≤ (x2 + (1 : Int32)) then
        f_X9_sink_L59 fu p0 p1 (f_X9_sink_L2 fu p0 p1   n)  v1 v3 x2 S
      else
        if ((x2 + (1 : Int32)) < 0 ∨ 256 ≤ (x2 + (1 : Int32)).toNatClampNeg) then none else
        if (x2 < 0 ∨ 256 ≤ x2.toNatClampNeg) then none else
        bnd (f_X9_isAhead v1 (S 54 (x2 + (1 : Int32)).toNatClampNeg) (S 54 x2.toNatClampNeg) S) fun r19 S20 =>
        if r19 = 0 then
          f_X9_sink_L59 fu p0 p1 (f_X9_sink_L2 fu p0 p1   n)  v1 v3 x2 S20
        else
          pin (x2 + (1 : Int32)) fun x23 =>
          f_X9_sink_L59 fu p0 p1 (f_X9_sink_L2 fu p0 p1   n)  v1 v3 x23 S20
theorem f_X9_sink_L2_s (fu : Nat) (p0 : Int32) (p1 : Int32)   (n : Nat) (v1 : Int32) (v3 : Int32) (S : St) : f_X9_sink_L2 fu p0 p1   (n + 1) v1 v3 S =
    if (S 43 13) ≤ (((2 : Int32) * v3) + (1 : Int32)) then
      some ((0 : Int32), S)
    else
      pin (((2 : Int32) * v3) + (1 : Int32)) fun x2 =>
      if (S 43 13) ≤ (x2 + (1 : Int32)) then
        f_X9_sink_L59 fu p0 p1 (f_X9_sink_L2 fu p0 p1   n)  v1 v3 x2 S
      else
        if ((x2 + (1 : Int32)) < 0 ∨ 256 ≤ (x2 + (1 : Int32)).toNatClampNeg) then none else
        if (x2 < 0 ∨ 256 ≤ x2.toNatClampNeg) then none else
        bnd (f_X9_isAhead v1 (S 54 (x2 + (1 : Int32)).toNatClampNeg) (S 54 x2.toNatClampNeg) S) fun r19 S20 =>
        if r19 = 0 then
          f_X9_sink_L59 fu p0 p1 (f_X9_sink_L2 fu p0 p1   n)  v1 v3 x2 S20
        else
          pin (x2 + (1 : Int32)) fun x23 =>
          f_X9_sink_L59 fu p0 p1 (f_X9_sink_L2 fu p0 p1   n)  v1 v3 x23 S20 := rfl
def f_X9_sink (fu : Nat) (p0 : Int32) (p1 : Int32) (S : St) : Option (Int32 × St) :=
  f_X9_sink_L2 fu p0 p1   fu p0 p1 S
def f_X9_even_L180 (fu : Nat) (p0 : Int32) (p1 : Int32) (p2 : Int32) (K96 : Int32 → Int32 → Int32 → Int32 → St → Option (Int32 × St))  (v1 : Int32) (v2 : Int32) (v3 : Int32) (v4 : Int32) (S : St) : Option (Int32 × St) :=
  bnd (f_X9_sink fu v1 (0 : Int32) S) fun r15 S16 =>
  pin (v4 + (1 : Int32)) fun x18 =>
  K96 v1 v2 v3 x18 S16
def f_X9_even_L96 (fu : Nat) (p0 : Int32) (p1 : Int32) (p2 : Int32)   : Nat → Int32 → Int32 → Int32 → Int32 → St → Option (Int32 × St)
  | 0, _, _, _, _, _ => none
  | n + 1, v1, v2, v3, v4, S =>
    if v3 ≤ v4 then
      some ((0 : Int32), S)
    else
      pin (S 54 0) fun x6 =>
      if ((v2 + v4) < 0 ∨ 86016 ≤ (v2 + v4).toNatClampNeg) then none else
      pin (puS S 50 (v2 + v4).toNatClampNeg x6) fun S7 =>
      if (x6 < 0 ∨ 256 ≤ x6.toNatClampNeg) then none else
      if (x6 < 0 ∨ 256 ≤ x6.toNatClampNeg) then none else
      pin (puS S7 55 x6.toNatClampNeg ((S7 55 x6.toNatClampNeg) + (1 : Int32))) fun S10 =>
      if (x6 < 0 ∨ 256 ≤ x6.toNatClampNeg) then none else
      if ((((256 : Int32) * v1) + x6) < 0 ∨ 1792 ≤ (((256 : Int32) * v1) + x6).toNatClampNeg) then none else
      if (S10 55 x6.toNatClampNeg) = (S10 47 (((256 : Int32) * v1) + x6).toNatClampNeg) then
        pin (puS S10 43 13 ((S10 43 13) - (1 : Int32))) fun S19 =>
        if ((S19 43 13) < 0 ∨ 256 ≤ (S19 43 13).toNatClampNeg) then none else
        pin (puS S19 54 0 (S19 54 (S19 43 13).toNatClampNeg)) fun S21 =>
        f_X9_even_L180 fu p0 p1 p2 (f_X9_even_L96 fu p0 p1 p2   n)  v1 v2 v3 v4 S21
      else
        f_X9_even_L180 fu p0 p1 p2 (f_X9_even_L96 fu p0 p1 p2   n)  v1 v2 v3 v4 S10
theorem f_X9_even_L96_s (fu : Nat) (p0 : Int32) (p1 : Int32) (p2 : Int32)   (n : Nat) (v1 : Int32) (v2 : Int32) (v3 : Int32) (v4 : Int32) (S : St) : f_X9_even_L96 fu p0 p1 p2   (n + 1) v1 v2 v3 v4 S =
    if v3 ≤ v4 then
      some ((0 : Int32), S)
    else
      pin (S 54 0) fun x6 =>
      if ((v2 + v4) < 0 ∨ 86016 ≤ (v2 + v4).toNatClampNeg) then none else
      pin (puS S 50 (v2 + v4).toNatClampNeg x6) fun S7 =>
      if (x6 < 0 ∨ 256 ≤ x6.toNatClampNeg) then none else
      if (x6 < 0 ∨ 256 ≤ x6.toNatClampNeg) then none else
      pin (puS S7 55 x6.toNatClampNeg ((S7 55 x6.toNatClampNeg) + (1 : Int32))) fun S10 =>
      if (x6 < 0 ∨ 256 ≤ x6.toNatClampNeg) then none else
      if ((((256 : Int32) * v1) + x6) < 0 ∨ 1792 ≤ (((256 : Int32) * v1) + x6).toNatClampNeg) then none else
      if (S10 55 x6.toNatClampNeg) = (S10 47 (((256 : Int32) * v1) + x6).toNatClampNeg) then
        pin (puS S10 43 13 ((S10 43 13) - (1 : Int32))) fun S19 =>
        if ((S19 43 13) < 0 ∨ 256 ≤ (S19 43 13).toNatClampNeg) then none else
        pin (puS S19 54 0 (S19 54 (S19 43 13).toNatClampNeg)) fun S21 =>
        f_X9_even_L180 fu p0 p1 p2 (f_X9_even_L96 fu p0 p1 p2   n)  v1 v2 v3 v4 S21
      else
        f_X9_even_L180 fu p0 p1 p2 (f_X9_even_L96 fu p0 p1 p2   n)  v1 v2 v3 v4 S10 := rfl
def f_X9_even_L75 (fu : Nat) (p0 : Int32) (p1 : Int32) (p2 : Int32)   : Nat → Int32 → Int32 → Int32 → Int32 → St → Option (Int32 × St)
  | 0, _, _, _, _, _ => none
  | n + 1, v1, v2, v3, v4, S =>
    if v4 < 0 then
      f_X9_even_L96 fu p0 p1 p2   fu v1 v2 v3 (0 : Int32) S
    else
      bnd (f_X9_sink fu v1 v4 S) fun r22 S23 =>
      pin (v4 + (-1 : Int32)) fun x25 =>
      f_X9_even_L75 fu p0 p1 p2   n v1 v2 v3 x25 S23
theorem f_X9_even_L75_s (fu : Nat) (p0 : Int32) (p1 : Int32) (p2 : Int32)   (n : Nat) (v1 : Int32) (v2 : Int32) (v3 : Int32) (v4 : Int32) (S : St) : f_X9_even_L75 fu p0 p1 p2   (n + 1) v1 v2 v3 v4 S =
    if v4 < 0 then
      f_X9_even_L96 fu p0 p1 p2   fu v1 v2 v3 (0 : Int32) S
    else
      bnd (f_X9_sink fu v1 v4 S) fun r22 S23 =>
      pin (v4 + (-1 : Int32)) fun x25 =>
      f_X9_even_L75 fu p0 p1 p2   n v1 v2 v3 x25 S23 := rfl
def f_X9_even_L61 (fu : Nat) (p0 : Int32) (p1 : Int32) (p2 : Int32) (K8 : Int32 → Int32 → Int32 → Int32 → St → Option (Int32 × St))  (v1 : Int32) (v2 : Int32) (v3 : Int32) (v4 : Int32) (S : St) : Option (Int32 × St) :=
  pin (v4 + (1 : Int32)) fun x30 =>
  K8 v1 v2 v3 x30 S
def f_X9_even_L8 (fu : Nat) (p0 : Int32) (p1 : Int32) (p2 : Int32)   : Nat → Int32 → Int32 → Int32 → Int32 → St → Option (Int32 × St)
  | 0, _, _, _, _, _ => none
  | n + 1, v1, v2, v3, v4, S =>
    if (256 : Int32) ≤ v4 then
      pin ((S 43 13) / (2 : Int32)) fun x3 =>
      f_X9_even_L75 fu p0 p1 p2   fu v1 v2 v3 x3 S
    else
      if (v4 < 0 ∨ 256 ≤ v4.toNatClampNeg) then none else
      pin (puS S 55 v4.toNatClampNeg (0 : Int32)) fun S26 =>
      if ((((256 : Int32) * v1) + v4) < 0 ∨ 1792 ≤ (((256 : Int32) * v1) + v4).toNatClampNeg) then none else
      if (S26 47 (((256 : Int32) * v1) + v4).toNatClampNeg) ≤ 0 then
        f_X9_even_L61 fu p0 p1 p2 (f_X9_even_L8 fu p0 p1 p2   n)  v1 v2 v3 v4 S26
      else
        if ((S26 43 13) < 0 ∨ 256 ≤ (S26 43 13).toNatClampNeg) then none else
        pin (puS S26 54 (S26 43 13).toNatClampNeg v4) fun S31 =>
        pin (puS S31 43 13 ((S31 43 13) + (1 : Int32))) fun S33 =>
        f_X9_even_L61 fu p0 p1 p2 (f_X9_even_L8 fu p0 p1 p2   n)  v1 v2 v3 v4 S33
theorem f_X9_even_L8_s (fu : Nat) (p0 : Int32) (p1 : Int32) (p2 : Int32)   (n : Nat) (v1 : Int32) (v2 : Int32) (v3 : Int32) (v4 : Int32) (S : St) : f_X9_even_L8 fu p0 p1 p2   (n + 1) v1 v2 v3 v4 S =
    if (256 : Int32) ≤ v4 then
      pin ((S 43 13) / (2 : Int32)) fun x3 =>
      f_X9_even_L75 fu p0 p1 p2   fu v1 v2 v3 x3 S
    else
      if (v4 < 0 ∨ 256 ≤ v4.toNatClampNeg) then none else
      pin (puS S 55 v4.toNatClampNeg (0 : Int32)) fun S26 =>
      if ((((256 : Int32) * v1) + v4) < 0 ∨ 1792 ≤ (((256 : Int32) * v1) + v4).toNatClampNeg) then none else
      if (S26 47 (((256 : Int32) * v1) + v4).toNatClampNeg) ≤ 0 then
        f_X9_even_L61 fu p0 p1 p2 (f_X9_even_L8 fu p0 p1 p2   n)  v1 v2 v3 v4 S26
      else
        if ((S26 43 13) < 0 ∨ 256 ≤ (S26 43 13).toNatClampNeg) then none else
        pin (puS S26 54 (S26 43 13).toNatClampNeg v4) fun S31 =>
        pin (puS S31 43 13 ((S31 43 13) + (1 : Int32))) fun S33 =>
        f_X9_even_L61 fu p0 p1 p2 (f_X9_even_L8 fu p0 p1 p2   n)  v1 v2 v3 v4 S33 := rfl
def f_X9_even (fu : Nat) (p0 : Int32) (p1 : Int32) (p2 : Int32) (S : St) : Option (Int32 × St) :=
  pin (puS S 43 13 (0 : Int32)) fun S1 =>
  f_X9_even_L8 fu p0 p1 p2   fu p0 p1 p2 (0 : Int32) S1
def f_X9_lay_L194 (fu : Nat) (p0 : Int32) (p1 : Int32)   : Nat → Int32 → Int32 → Int32 → Int32 → St → Option (Int32 × St)
  | 0, _, _, _, _, _ => none
  | n + 1, v1, v3, v4, v5, S =>
    if v4 ≤ v5 then
      some ((0 : Int32), S)
    else
      if ((v3 + v5) < 0 ∨ 86016 ≤ (v3 + v5).toNatClampNeg) then none else
      pin (S 50 (v3 + v5).toNatClampNeg) fun x15 =>
      if ((((256 : Int32) * v1) + x15) < 0 ∨ 1792 ≤ (((256 : Int32) * v1) + x15).toNatClampNeg) then none else
      if (x15 < 0 ∨ 256 ≤ x15.toNatClampNeg) then none else
      if ((v3 + v5) < 0 ∨ 86016 ≤ (v3 + v5).toNatClampNeg) then none else
      pin (puS S 51 (v3 + v5).toNatClampNeg ((S 47 (((256 : Int32) * v1) + x15).toNatClampNeg) + (S 55 x15.toNatClampNeg))) fun S18 =>
      if ((((256 : Int32) * v1) + x15) < 0 ∨ 1792 ≤ (((256 : Int32) * v1) + x15).toNatClampNeg) then none else
      if (x15 < 0 ∨ 256 ≤ x15.toNatClampNeg) then none else
      if (((v3 + (S18 48 (((256 : Int32) * v1) + x15).toNatClampNeg)) + (S18 55 x15.toNatClampNeg)) < 0 ∨ 86016 ≤ ((v3 + (S18 48 (((256 : Int32) * v1) + x15).toNatClampNeg)) + (S18 55 x15.toNatClampNeg)).toNatClampNeg) then none else
      pin (puS S18 52 ((v3 + (S18 48 (((256 : Int32) * v1) + x15).toNatClampNeg)) + (S18 55 x15.toNatClampNeg)).toNatClampNeg v5) fun S22 =>
      if (x15 < 0 ∨ 256 ≤ x15.toNatClampNeg) then none else
      if (x15 < 0 ∨ 256 ≤ x15.toNatClampNeg) then none else
      pin (puS S22 55 x15.toNatClampNeg ((S22 55 x15.toNatClampNeg) + (1 : Int32))) fun S25 =>
      pin (v5 + (1 : Int32)) fun x27 =>
      f_X9_lay_L194 fu p0 p1   n v1 v3 v4 x27 S25
theorem f_X9_lay_L194_s (fu : Nat) (p0 : Int32) (p1 : Int32)   (n : Nat) (v1 : Int32) (v3 : Int32) (v4 : Int32) (v5 : Int32) (S : St) : f_X9_lay_L194 fu p0 p1   (n + 1) v1 v3 v4 v5 S =
    if v4 ≤ v5 then
      some ((0 : Int32), S)
    else
      if ((v3 + v5) < 0 ∨ 86016 ≤ (v3 + v5).toNatClampNeg) then none else
      pin (S 50 (v3 + v5).toNatClampNeg) fun x15 =>
      if ((((256 : Int32) * v1) + x15) < 0 ∨ 1792 ≤ (((256 : Int32) * v1) + x15).toNatClampNeg) then none else
      if (x15 < 0 ∨ 256 ≤ x15.toNatClampNeg) then none else
      if ((v3 + v5) < 0 ∨ 86016 ≤ (v3 + v5).toNatClampNeg) then none else
      pin (puS S 51 (v3 + v5).toNatClampNeg ((S 47 (((256 : Int32) * v1) + x15).toNatClampNeg) + (S 55 x15.toNatClampNeg))) fun S18 =>
      if ((((256 : Int32) * v1) + x15) < 0 ∨ 1792 ≤ (((256 : Int32) * v1) + x15).toNatClampNeg) then none else
      if (x15 < 0 ∨ 256 ≤ x15.toNatClampNeg) then none else
      if (((v3 + (S18 48 (((256 : Int32) * v1) + x15).toNatClampNeg)) + (S18 55 x15.toNatClampNeg)) < 0 ∨ 86016 ≤ ((v3 + (S18 48 (((256 : Int32) * v1) + x15).toNatClampNeg)) + (S18 55 x15.toNatClampNeg)).toNatClampNeg) then none else
      pin (puS S18 52 ((v3 + (S18 48 (((256 : Int32) * v1) + x15).toNatClampNeg)) + (S18 55 x15.toNatClampNeg)).toNatClampNeg v5) fun S22 =>
      if (x15 < 0 ∨ 256 ≤ x15.toNatClampNeg) then none else
      if (x15 < 0 ∨ 256 ≤ x15.toNatClampNeg) then none else
      pin (puS S22 55 x15.toNatClampNeg ((S22 55 x15.toNatClampNeg) + (1 : Int32))) fun S25 =>
      pin (v5 + (1 : Int32)) fun x27 =>
      f_X9_lay_L194 fu p0 p1   n v1 v3 v4 x27 S25 := rfl
def f_X9_lay_L169 (fu : Nat) (p0 : Int32) (p1 : Int32)   : Nat → Int32 → Int32 → Int32 → Int32 → St → Option (Int32 × St)
  | 0, _, _, _, _, _ => none
  | n + 1, v1, v3, v4, v5, S =>
    if (256 : Int32) ≤ v5 then
      f_X9_lay_L194 fu p0 p1   fu v1 v3 v4 (0 : Int32) S
    else
      if (v5 < 0 ∨ 256 ≤ v5.toNatClampNeg) then none else
      pin (puS S 55 v5.toNatClampNeg (0 : Int32)) fun S28 =>
      pin (v5 + (1 : Int32)) fun x30 =>
      f_X9_lay_L169 fu p0 p1   n v1 v3 v4 x30 S28
theorem f_X9_lay_L169_s (fu : Nat) (p0 : Int32) (p1 : Int32)   (n : Nat) (v1 : Int32) (v3 : Int32) (v4 : Int32) (v5 : Int32) (S : St) : f_X9_lay_L169 fu p0 p1   (n + 1) v1 v3 v4 v5 S =
    if (256 : Int32) ≤ v5 then
      f_X9_lay_L194 fu p0 p1   fu v1 v3 v4 (0 : Int32) S
    else
      if (v5 < 0 ∨ 256 ≤ v5.toNatClampNeg) then none else
      pin (puS S 55 v5.toNatClampNeg (0 : Int32)) fun S28 =>
      pin (v5 + (1 : Int32)) fun x30 =>
      f_X9_lay_L169 fu p0 p1   n v1 v3 v4 x30 S28 := rfl
def f_X9_lay_L166 (fu : Nat) (p0 : Int32) (p1 : Int32)   (v1 : Int32) (v3 : Int32) (v4 : Int32) (S : St) : Option (Int32 × St) :=
  f_X9_lay_L169 fu p0 p1   fu v1 v3 v4 (0 : Int32) S
def f_X9_lay_L115 (fu : Nat) (p0 : Int32) (p1 : Int32) (K104 : Int32 → Int32 → Int32 → Int32 → Int32 → Int32 → St → Option (Int32 × St))  : Nat → Int32 → Int32 → Int32 → Int32 → Int32 → Int32 → Int32 → St → Option (Int32 × St)
  | 0, _, _, _, _, _, _, _, _ => none
  | n + 1, v1, v3, v4, v5, v6, v7, v8, S =>
    if ((((256 : Int32) * v1) + v7) < 0 ∨ 1792 ≤ (((256 : Int32) * v1) + v7).toNatClampNeg) then none else
    if (S 47 (((256 : Int32) * v1) + v7).toNatClampNeg) ≤ v8 then
      pin (v7 + (1 : Int32)) fun x33 =>
      K104 v1 v3 v4 v5 v6 x33 S
    else
      if ((v3 + v6) < 0 ∨ 86016 ≤ (v3 + v6).toNatClampNeg) then none else
      pin (puS S 50 (v3 + v6).toNatClampNeg v7) fun S34 =>
      if v4 = 0 then none else
      pin ((v6 + v5) - (v6 + v5) / v4 * v4) fun x37 =>
      pin (v8 + (1 : Int32)) fun x38 =>
      f_X9_lay_L115 fu p0 p1 K104  n v1 v3 v4 v5 x37 v7 x38 S34
theorem f_X9_lay_L115_s (fu : Nat) (p0 : Int32) (p1 : Int32) (K104 : Int32 → Int32 → Int32 → Int32 → Int32 → Int32 → St → Option (Int32 × St))  (n : Nat) (v1 : Int32) (v3 : Int32) (v4 : Int32) (v5 : Int32) (v6 : Int32) (v7 : Int32) (v8 : Int32) (S : St) : f_X9_lay_L115 fu p0 p1 K104  (n + 1) v1 v3 v4 v5 v6 v7 v8 S =
    if ((((256 : Int32) * v1) + v7) < 0 ∨ 1792 ≤ (((256 : Int32) * v1) + v7).toNatClampNeg) then none else
    if (S 47 (((256 : Int32) * v1) + v7).toNatClampNeg) ≤ v8 then
      pin (v7 + (1 : Int32)) fun x33 =>
      K104 v1 v3 v4 v5 v6 x33 S
    else
      if ((v3 + v6) < 0 ∨ 86016 ≤ (v3 + v6).toNatClampNeg) then none else
      pin (puS S 50 (v3 + v6).toNatClampNeg v7) fun S34 =>
      if v4 = 0 then none else
      pin ((v6 + v5) - (v6 + v5) / v4 * v4) fun x37 =>
      pin (v8 + (1 : Int32)) fun x38 =>
      f_X9_lay_L115 fu p0 p1 K104  n v1 v3 v4 v5 x37 v7 x38 S34 := rfl
def f_X9_lay_L104 (fu : Nat) (p0 : Int32) (p1 : Int32)   : Nat → Int32 → Int32 → Int32 → Int32 → Int32 → Int32 → St → Option (Int32 × St)
  | 0, _, _, _, _, _, _, _ => none
  | n + 1, v1, v3, v4, v5, v6, v7, S =>
    if (256 : Int32) ≤ v7 then
      f_X9_lay_L166 fu p0 p1   v1 v3 v4 S
    else
      f_X9_lay_L115 fu p0 p1 (f_X9_lay_L104 fu p0 p1   n)  fu v1 v3 v4 v5 v6 v7 (0 : Int32) S
theorem f_X9_lay_L104_s (fu : Nat) (p0 : Int32) (p1 : Int32)   (n : Nat) (v1 : Int32) (v3 : Int32) (v4 : Int32) (v5 : Int32) (v6 : Int32) (v7 : Int32) (S : St) : f_X9_lay_L104 fu p0 p1   (n + 1) v1 v3 v4 v5 v6 v7 S =
    if (256 : Int32) ≤ v7 then
      f_X9_lay_L166 fu p0 p1   v1 v3 v4 S
    else
      f_X9_lay_L115 fu p0 p1 (f_X9_lay_L104 fu p0 p1   n)  fu v1 v3 v4 v5 v6 v7 (0 : Int32) S := rfl
def f_X9_lay_L98 (fu : Nat) (p0 : Int32) (p1 : Int32)   (v1 : Int32) (v3 : Int32) (v4 : Int32) (v5 : Int32) (S : St) : Option (Int32 × St) :=
  f_X9_lay_L104 fu p0 p1   fu v1 v3 v4 v5 (0 : Int32) (0 : Int32) S
def f_X9_lay_L81 (fu : Nat) (p0 : Int32) (p1 : Int32)   (v1 : Int32) (v2 : Int32) (v3 : Int32) (v4 : Int32) (t0 : Int32) (S : St) : Option (Int32 × St) :=
  if v2 = (1 : Int32) then
    if (t0 - t0 / (2 : Int32) * (2 : Int32)) = 0 then
      pin (t0 + (1 : Int32)) fun x40 =>
      f_X9_lay_L98 fu p0 p1   v1 v3 v4 x40 S
    else
      f_X9_lay_L98 fu p0 p1   v1 v3 v4 t0 S
  else
    f_X9_lay_L98 fu p0 p1   v1 v3 v4 t0 S
def f_X9_lay (fu : Nat) (p0 : Int32) (p1 : Int32) (S : St) : Option (Int32 × St) :=
  if ((((3 : Int32) * p0) + p1) < 0 ∨ 21 ≤ (((3 : Int32) * p0) + p1).toNatClampNeg) then none else
  if (S 49 (((3 : Int32) * p0) + p1).toNatClampNeg) = 0 then
    if ((((3 : Int32) * p0) + p1) < 0 ∨ 21 ≤ (((3 : Int32) * p0) + p1).toNatClampNeg) then none else
    pin (puS S 49 (((3 : Int32) * p0) + p1).toNatClampNeg (vp_nar .boolean (1 : Int32))) fun S3 =>
    pin ((4096 : Int32) * (((3 : Int32) * p0) + p1)) fun x5 =>
    if (p0 < 0 ∨ 7 ≤ p0.toNatClampNeg) then none else
    pin ((1 : Int32) <<< ((S3 46 p0.toNatClampNeg) &&& 31)) fun x7 =>
    if p1 = (2 : Int32) then
      bnd (f_X9_even fu p0 x5 x7 S3) fun r41 S42 =>
      f_X9_lay_L166 fu p0 p1   p0 x5 x7 S42
    else
      if p1 = 0 then
        f_X9_lay_L81 fu p0 p1   p0 p1 x5 x7 (1 : Int32) S3
      else
        f_X9_lay_L81 fu p0 p1   p0 p1 x5 x7 (((x7 / (2 : Int32)) + (x7 / (8 : Int32))) + (3 : Int32)) S3
  else
    some ((0 : Int32), S)
def f_X9_isAsked (fu : Nat) (p0 : Int32) (p1 : Int32) (p2 : Int32) (p3 : Int32) (S : St) : Option (Int32 × St) :=
  bnd (f_X9_isTable p0 S) fun r1 S2 =>
  if r1 = 0 then
    some ((0 : Int32), S2)
  else
    bnd (f_X9_isWay p1 p2 S2) fun r5 S6 =>
    if r5 = 0 then
      some ((0 : Int32), S6)
    else
      bnd (f_X9_isState p0 p1 p3 S6) fun r9 S10 =>
      if r9 = 0 then
        some ((0 : Int32), S10)
      else
        bnd (f_X9_lay fu p0 p2 S10) fun r13 S14 =>
        some ((1 : Int32), S14)
def f_X9_step_L142 (fu : Nat) (p0 : Int32) (p1 : Int32) (p2 : Int32) (p3 : Int32) (p4 : Int32)   : Nat → Int32 → Int32 → Int32 → Int32 → Int32 → Int64 → Int32 → St → Option (Int32 × St)
  | 0, _, _, _, _, _, _, _, _ => none
  | n + 1, v1, v4, v5, v6, v7, v8, v10, S =>
    if (lg_cmp ((v10).toInt64) v8) < 0 then
      pin (puS S 43 21 (v4 &&& (((1 : Int32) <<< (((8 : Int32) * (S 43 20)) &&& 31)) - (1 : Int32)))) fun S9 =>
      if v6 = 0 then none else
      if v6 = 0 then none else
      if ((((256 : Int32) * v1) + v5) < 0 ∨ 1792 ≤ (((256 : Int32) * v1) + v5).toNatClampNeg) then none else
      pin (puS S9 43 22 ((((v10 / v6) <<< (v7 &&& 31)) + (v10 - v10 / v6 * v6)) + (S9 48 (((256 : Int32) * v1) + v5).toNatClampNeg))) fun S13 =>
      some ((0 : Int32), S13)
    else
      pin (v10 >>> ((8 : Int32) &&& 31)) fun x14 =>
      pin (puS S 43 20 ((S 43 20) + (1 : Int32))) fun S15 =>
      f_X9_step_L142 fu p0 p1 p2 p3 p4   n v1 v4 v5 v6 v7 v8 x14 S15
theorem f_X9_step_L142_s (fu : Nat) (p0 : Int32) (p1 : Int32) (p2 : Int32) (p3 : Int32) (p4 : Int32)   (n : Nat) (v1 : Int32) (v4 : Int32) (v5 : Int32) (v6 : Int32) (v7 : Int32) (v8 : Int64) (v10 : Int32) (S : St) : f_X9_step_L142 fu p0 p1 p2 p3 p4   (n + 1) v1 v4 v5 v6 v7 v8 v10 S =
    if (lg_cmp ((v10).toInt64) v8) < 0 then
      pin (puS S 43 21 (v4 &&& (((1 : Int32) <<< (((8 : Int32) * (S 43 20)) &&& 31)) - (1 : Int32)))) fun S9 =>
      if v6 = 0 then none else
      if v6 = 0 then none else
      if ((((256 : Int32) * v1) + v5) < 0 ∨ 1792 ≤ (((256 : Int32) * v1) + v5).toNatClampNeg) then none else
      pin (puS S9 43 22 ((((v10 / v6) <<< (v7 &&& 31)) + (v10 - v10 / v6 * v6)) + (S9 48 (((256 : Int32) * v1) + v5).toNatClampNeg))) fun S13 =>
      some ((0 : Int32), S13)
    else
      pin (v10 >>> ((8 : Int32) &&& 31)) fun x14 =>
      pin (puS S 43 20 ((S 43 20) + (1 : Int32))) fun S15 =>
      f_X9_step_L142 fu p0 p1 p2 p3 p4   n v1 v4 v5 v6 v7 v8 x14 S15 := rfl
def f_X9_step_L32 (fu : Nat) (p0 : Int32) (p1 : Int32) (p2 : Int32) (p3 : Int32) (p4 : Int32)   : Nat → Int32 → Int32 → Int32 → Int32 → Int32 → Int32 → St → Option (Int32 × St)
  | 0, _, _, _, _, _, _, _ => none
  | n + 1, v1, v3, v4, v5, v6, v7, S =>
    if (v4 >>> ((S 43 20) &&& 31)) < ((2 : Int32) * v6) then
      pin (puS S 43 21 (v4 &&& (((1 : Int32) <<< ((S 43 20) &&& 31)) - (1 : Int32)))) fun S17 =>
      pin (v4 >>> ((S17 43 20) &&& 31)) fun x18 =>
      if ((((256 : Int32) * v1) + v5) < 0 ∨ 1792 ≤ (((256 : Int32) * v1) + v5).toNatClampNeg) then none else
      if ((((((4096 : Int32) * (((3 : Int32) * v1) + v3)) + (S17 48 (((256 : Int32) * v1) + v5).toNatClampNeg)) + x18) - v6) < 0 ∨ 86016 ≤ (((((4096 : Int32) * (((3 : Int32) * v1) + v3)) + (S17 48 (((256 : Int32) * v1) + v5).toNatClampNeg)) + x18) - v6).toNatClampNeg) then none else
      pin (puS S17 43 22 (((1 : Int32) <<< (v7 &&& 31)) + (S17 52 (((((4096 : Int32) * (((3 : Int32) * v1) + v3)) + (S17 48 (((256 : Int32) * v1) + v5).toNatClampNeg)) + x18) - v6).toNatClampNeg))) fun S21 =>
      some ((0 : Int32), S21)
    else
      pin (puS S 43 20 ((S 43 20) + (1 : Int32))) fun S22 =>
      f_X9_step_L32 fu p0 p1 p2 p3 p4   n v1 v3 v4 v5 v6 v7 S22
theorem f_X9_step_L32_s (fu : Nat) (p0 : Int32) (p1 : Int32) (p2 : Int32) (p3 : Int32) (p4 : Int32)   (n : Nat) (v1 : Int32) (v3 : Int32) (v4 : Int32) (v5 : Int32) (v6 : Int32) (v7 : Int32) (S : St) : f_X9_step_L32 fu p0 p1 p2 p3 p4   (n + 1) v1 v3 v4 v5 v6 v7 S =
    if (v4 >>> ((S 43 20) &&& 31)) < ((2 : Int32) * v6) then
      pin (puS S 43 21 (v4 &&& (((1 : Int32) <<< ((S 43 20) &&& 31)) - (1 : Int32)))) fun S17 =>
      pin (v4 >>> ((S17 43 20) &&& 31)) fun x18 =>
      if ((((256 : Int32) * v1) + v5) < 0 ∨ 1792 ≤ (((256 : Int32) * v1) + v5).toNatClampNeg) then none else
      if ((((((4096 : Int32) * (((3 : Int32) * v1) + v3)) + (S17 48 (((256 : Int32) * v1) + v5).toNatClampNeg)) + x18) - v6) < 0 ∨ 86016 ≤ (((((4096 : Int32) * (((3 : Int32) * v1) + v3)) + (S17 48 (((256 : Int32) * v1) + v5).toNatClampNeg)) + x18) - v6).toNatClampNeg) then none else
      pin (puS S17 43 22 (((1 : Int32) <<< (v7 &&& 31)) + (S17 52 (((((4096 : Int32) * (((3 : Int32) * v1) + v3)) + (S17 48 (((256 : Int32) * v1) + v5).toNatClampNeg)) + x18) - v6).toNatClampNeg))) fun S21 =>
      some ((0 : Int32), S21)
    else
      pin (puS S 43 20 ((S 43 20) + (1 : Int32))) fun S22 =>
      f_X9_step_L32 fu p0 p1 p2 p3 p4   n v1 v3 v4 v5 v6 v7 S22 := rfl
def f_X9_step (fu : Nat) (p0 : Int32) (p1 : Int32) (p2 : Int32) (p3 : Int32) (p4 : Int32) (S : St) : Option (Int32 × St) :=
  if ((((256 : Int32) * p0) + p4) < 0 ∨ 1792 ≤ (((256 : Int32) * p0) + p4).toNatClampNeg) then none else
  pin (S 47 (((256 : Int32) * p0) + p4).toNatClampNeg) fun x2 =>
  if (p0 < 0 ∨ 7 ≤ p0.toNatClampNeg) then none else
  pin (S 46 p0.toNatClampNeg) fun x4 =>
  pin (puS S 43 20 (0 : Int32)) fun S5 =>
  if p1 = 0 then
    f_X9_step_L32 fu p0 p1 p2 p3 p4   fu p0 p2 p3 p4 x2 x4 S5
  else
    pin (((x2).toInt64) <<< ((((31 : Int32) - x4)).toInt64 &&& 63)) fun x7 =>
    f_X9_step_L142 fu p0 p1 p2 p3 p4   fu p0 p3 p4 x2 x4 x7 p3 S5
def f_X9_code (fu : Nat) (p0 : Int32) (p1 : Int32) (p2 : Int32) (p3 : Int32) (p4 : Int32) (S : St) : Option (Int32 × St) :=
  bnd (f_X9_isAsked fu p0 p1 p2 p3 S) fun r1 S2 =>
  if r1 = 0 then
    some ((-1 : Int32), S2)
  else
    if p4 < 0 then
      some ((-1 : Int32), S2)
    else
      if (255 : Int32) < p4 then
        some ((-1 : Int32), S2)
      else
        if ((((256 : Int32) * p0) + p4) < 0 ∨ 1792 ≤ (((256 : Int32) * p0) + p4).toNatClampNeg) then none else
        if (S2 47 (((256 : Int32) * p0) + p4).toNatClampNeg) = 0 then
          some ((-1 : Int32), S2)
        else
          bnd (f_X9_step fu p0 p1 p2 p3 p4 S2) fun r9 S10 =>
          pin (puS S10 43 18 (S10 43 20)) fun S12 =>
          pin (puS S12 43 19 (S12 43 21)) fun S13 =>
          some ((S13 43 22), S13)
def f_X9_end (p0 : Int32) (S : St) : Option (Int32 × St) :=
  if p0 < 0 then
    some ((-1 : Int32), S)
  else
    if p0 ≤ (S 43 1) then
      pin (puS S 43 1 p0) fun S3 =>
      some (p0, S3)
    else
      some ((-1 : Int32), S)
def f_X9_fails (p0 : Int32) (p1 : Int32) (S : St) : Option (Int32 × St) :=
  pin (puS S 43 16 p0) fun S1 =>
  pin (puS S1 43 17 p1) fun S2 =>
  some ((0 : Int32), S2)
def f_X9_fault (p0 : Int32) (S : St) : Option (Int32 × St) :=
  if p0 = 0 then
    some ((S 43 16), S)
  else
    if p0 = (1 : Int32) then
      some ((S 43 17), S)
    else
      some ((-1 : Int32), S)
def f_X9_feed_L71 (fu : Nat) (p0 : Int32) (p1 : Int32) (p2 : Int32) (p3 : Int32) (p4 : Int32) (K18 : Int32 → Int32 → Int32 → Int32 → Int32 → Int32 → St → Option (Int32 × St))  (v1 : Int32) (v2 : Int32) (v3 : Int32) (v4 : Int32) (v5 : Int32) (v6 : Int32) (t0 : Int32) (S : St) : Option (Int32 × St) :=
  if (((S 43 1) + v6) < 0 ∨ 4000 ≤ ((S 43 1) + v6).toNatClampNeg) then none else
  pin (puS S 44 ((S 43 1) + v6).toNatClampNeg ((t0 >>> (((24 : Int32) - ((8 : Int32) * (v6 - v6 / (4 : Int32) * (4 : Int32)))) &&& 31)) &&& (255 : Int32))) fun S8 =>
  pin (v6 + (1 : Int32)) fun x10 =>
  K18 v1 v2 v3 v4 v5 x10 S8
def f_X9_feed_L18 (fu : Nat) (p0 : Int32) (p1 : Int32) (p2 : Int32) (p3 : Int32) (p4 : Int32)   : Nat → Int32 → Int32 → Int32 → Int32 → Int32 → Int32 → St → Option (Int32 × St)
  | 0, _, _, _, _, _, _, _ => none
  | n + 1, v1, v2, v3, v4, v5, v6, S =>
    if (20 : Int32) ≤ v6 then
      pin (puS S 43 1 ((S 43 1) + (20 : Int32))) fun S3 =>
      some ((S3 43 1), S3)
    else
      if (4 : Int32) ≤ v6 then
        if (8 : Int32) ≤ v6 then
          if (12 : Int32) ≤ v6 then
            if (16 : Int32) ≤ v6 then
              f_X9_feed_L71 fu p0 p1 p2 p3 p4 (f_X9_feed_L18 fu p0 p1 p2 p3 p4   n)  v1 v2 v3 v4 v5 v6 v5 S
            else
              f_X9_feed_L71 fu p0 p1 p2 p3 p4 (f_X9_feed_L18 fu p0 p1 p2 p3 p4   n)  v1 v2 v3 v4 v5 v6 v4 S
          else
            f_X9_feed_L71 fu p0 p1 p2 p3 p4 (f_X9_feed_L18 fu p0 p1 p2 p3 p4   n)  v1 v2 v3 v4 v5 v6 v3 S
        else
          f_X9_feed_L71 fu p0 p1 p2 p3 p4 (f_X9_feed_L18 fu p0 p1 p2 p3 p4   n)  v1 v2 v3 v4 v5 v6 v2 S
      else
        f_X9_feed_L71 fu p0 p1 p2 p3 p4 (f_X9_feed_L18 fu p0 p1 p2 p3 p4   n)  v1 v2 v3 v4 v5 v6 v1 S
theorem f_X9_feed_L18_s (fu : Nat) (p0 : Int32) (p1 : Int32) (p2 : Int32) (p3 : Int32) (p4 : Int32)   (n : Nat) (v1 : Int32) (v2 : Int32) (v3 : Int32) (v4 : Int32) (v5 : Int32) (v6 : Int32) (S : St) : f_X9_feed_L18 fu p0 p1 p2 p3 p4   (n + 1) v1 v2 v3 v4 v5 v6 S =
    if (20 : Int32) ≤ v6 then
      pin (puS S 43 1 ((S 43 1) + (20 : Int32))) fun S3 =>
      some ((S3 43 1), S3)
    else
      if (4 : Int32) ≤ v6 then
        if (8 : Int32) ≤ v6 then
          if (12 : Int32) ≤ v6 then
            if (16 : Int32) ≤ v6 then
              f_X9_feed_L71 fu p0 p1 p2 p3 p4 (f_X9_feed_L18 fu p0 p1 p2 p3 p4   n)  v1 v2 v3 v4 v5 v6 v5 S
            else
              f_X9_feed_L71 fu p0 p1 p2 p3 p4 (f_X9_feed_L18 fu p0 p1 p2 p3 p4   n)  v1 v2 v3 v4 v5 v6 v4 S
          else
            f_X9_feed_L71 fu p0 p1 p2 p3 p4 (f_X9_feed_L18 fu p0 p1 p2 p3 p4   n)  v1 v2 v3 v4 v5 v6 v3 S
        else
          f_X9_feed_L71 fu p0 p1 p2 p3 p4 (f_X9_feed_L18 fu p0 p1 p2 p3 p4   n)  v1 v2 v3 v4 v5 v6 v2 S
      else
        f_X9_feed_L71 fu p0 p1 p2 p3 p4 (f_X9_feed_L18 fu p0 p1 p2 p3 p4   n)  v1 v2 v3 v4 v5 v6 v1 S := rfl
def f_X9_feed (fu : Nat) (p0 : Int32) (p1 : Int32) (p2 : Int32) (p3 : Int32) (p4 : Int32) (S : St) : Option (Int32 × St) :=
  if ((S 43 1) + (20 : Int32)) ≤ (4000 : Int32) then
    f_X9_feed_L18 fu p0 p1 p2 p3 p4   fu p0 p1 p2 p3 p4 (0 : Int32) S
  else
    some ((-1 : Int32), S)
def f_X9_firstOf (p0 : Int32) (p1 : Int32) (S : St) : Option (Int32 × St) :=
  if p1 = 0 then
    if (p0 < 0 ∨ 7 ≤ p0.toNatClampNeg) then none else
    some (((1 : Int32) <<< ((S 46 p0.toNatClampNeg) &&& 31)), S)
  else
    some ((8388608 : Int32), S)
def f_X9_gone (p0 : Int32) (S : St) : Option (Int32 × St) :=
  if p0 = 0 then
    some ((S 43 18), S)
  else
    if p0 = (1 : Int32) then
      some ((S 43 19), S)
    else
      some ((-1 : Int32), S)
def f_X9_refusal_L15 (fu : Nat) (p0 : Int32)   : Nat → Int32 → Int32 → St → Option (Int32 × St)
  | 0, _, _, _ => none
  | n + 1, v1, v2, S =>
    if (S 43 1) ≤ v2 then
      some ((0 : Int32), S)
    else
      if (v2 < 0 ∨ 4000 ≤ v2.toNatClampNeg) then none else
      if ((((256 : Int32) * v1) + (S 44 v2.toNatClampNeg)) < 0 ∨ 1792 ≤ (((256 : Int32) * v1) + (S 44 v2.toNatClampNeg)).toNatClampNeg) then none else
      if (S 47 (((256 : Int32) * v1) + (S 44 v2.toNatClampNeg)).toNatClampNeg) = 0 then
        some ((-3 : Int32), S)
      else
        pin (v2 + (1 : Int32)) fun x6 =>
        f_X9_refusal_L15 fu p0   n v1 x6 S
theorem f_X9_refusal_L15_s (fu : Nat) (p0 : Int32)   (n : Nat) (v1 : Int32) (v2 : Int32) (S : St) : f_X9_refusal_L15 fu p0   (n + 1) v1 v2 S =
    if (S 43 1) ≤ v2 then
      some ((0 : Int32), S)
    else
      if (v2 < 0 ∨ 4000 ≤ v2.toNatClampNeg) then none else
      if ((((256 : Int32) * v1) + (S 44 v2.toNatClampNeg)) < 0 ∨ 1792 ≤ (((256 : Int32) * v1) + (S 44 v2.toNatClampNeg)).toNatClampNeg) then none else
      if (S 47 (((256 : Int32) * v1) + (S 44 v2.toNatClampNeg)).toNatClampNeg) = 0 then
        some ((-3 : Int32), S)
      else
        pin (v2 + (1 : Int32)) fun x6 =>
        f_X9_refusal_L15 fu p0   n v1 x6 S := rfl
def f_X9_refusal (fu : Nat) (p0 : Int32) (S : St) : Option (Int32 × St) :=
  if (S 43 1) ≤ (1400 : Int32) then
    f_X9_refusal_L15 fu p0   fu p0 (0 : Int32) S
  else
    some ((-2 : Int32), S)
def f_X9_ideal_L155 (fu : Nat) (p0 : Int32)   : Nat → Int32 → Int32 → Int32 → St → Option (Int32 × St)
  | 0, _, _, _, _ => none
  | n + 1, v1, v4, v5, S =>
    if v5 ≤ 0 then
      if (v1 < 0 ∨ 7 ≤ v1.toNatClampNeg) then none else
      pin ((((S 46 v1.toNatClampNeg) * (S 43 1)) - v4) + (1 : Int32)) fun x16 =>
      if 0 ≤ x16 then
        some (x16, S)
      else
        some ((0 : Int32), S)
    else
      pin (v4 + (1 : Int32)) fun x18 =>
      pin (v5 >>> ((1 : Int32) &&& 31)) fun x19 =>
      f_X9_ideal_L155 fu p0   n v1 x18 x19 S
theorem f_X9_ideal_L155_s (fu : Nat) (p0 : Int32)   (n : Nat) (v1 : Int32) (v4 : Int32) (v5 : Int32) (S : St) : f_X9_ideal_L155 fu p0   (n + 1) v1 v4 v5 S =
    if v5 ≤ 0 then
      if (v1 < 0 ∨ 7 ≤ v1.toNatClampNeg) then none else
      pin ((((S 46 v1.toNatClampNeg) * (S 43 1)) - v4) + (1 : Int32)) fun x16 =>
      if 0 ≤ x16 then
        some (x16, S)
      else
        some ((0 : Int32), S)
    else
      pin (v4 + (1 : Int32)) fun x18 =>
      pin (v5 >>> ((1 : Int32) &&& 31)) fun x19 =>
      f_X9_ideal_L155 fu p0   n v1 x18 x19 S := rfl
def f_X9_ideal_L131 (fu : Nat) (p0 : Int32) (K34 : Int32 → Int32 → Int32 → St → Option (Int32 × St))  (v1 : Int32) (v3 : Int32) (v4 : Int32) (S : St) : Option (Int32 × St) :=
  pin (v4 + (1 : Int32)) fun x25 =>
  K34 v1 v3 x25 S
def f_X9_ideal_L69 (fu : Nat) (p0 : Int32) (K34 : Int32 → Int32 → Int32 → St → Option (Int32 × St))  : Nat → Int32 → Int32 → Int32 → Int32 → Int32 → Int32 → St → Option (Int32 × St)
  | 0, _, _, _, _, _, _, _ => none
  | n + 1, v1, v3, v4, v5, v6, v7, S =>
    if v3 ≤ v7 then
      if v6 ≤ 0 then
        f_X9_ideal_L131 fu p0 K34  v1 v3 v4 S
      else
        if (v3 < 0 ∨ 1060 ≤ v3.toNatClampNeg) then none else
        pin (puS S 60 v3.toNatClampNeg v6) fun S26 =>
        pin (v3 + (1 : Int32)) fun x28 =>
        f_X9_ideal_L131 fu p0 K34  v1 x28 v4 S26
    else
      if (v7 < 0 ∨ 1060 ≤ v7.toNatClampNeg) then none else
      pin (((S 60 v7.toNatClampNeg) * v5) + v6) fun x30 =>
      if (v7 < 0 ∨ 1060 ≤ v7.toNatClampNeg) then none else
      pin (puS S 60 v7.toNatClampNeg (x30 &&& (65535 : Int32))) fun S31 =>
      pin (x30 >>> ((16 : Int32) &&& 31)) fun x33 =>
      pin (v7 + (1 : Int32)) fun x34 =>
      f_X9_ideal_L69 fu p0 K34  n v1 v3 v4 v5 x33 x34 S31
theorem f_X9_ideal_L69_s (fu : Nat) (p0 : Int32) (K34 : Int32 → Int32 → Int32 → St → Option (Int32 × St))  (n : Nat) (v1 : Int32) (v3 : Int32) (v4 : Int32) (v5 : Int32) (v6 : Int32) (v7 : Int32) (S : St) : f_X9_ideal_L69 fu p0 K34  (n + 1) v1 v3 v4 v5 v6 v7 S =
    if v3 ≤ v7 then
      if v6 ≤ 0 then
        f_X9_ideal_L131 fu p0 K34  v1 v3 v4 S
      else
        if (v3 < 0 ∨ 1060 ≤ v3.toNatClampNeg) then none else
        pin (puS S 60 v3.toNatClampNeg v6) fun S26 =>
        pin (v3 + (1 : Int32)) fun x28 =>
        f_X9_ideal_L131 fu p0 K34  v1 x28 v4 S26
    else
      if (v7 < 0 ∨ 1060 ≤ v7.toNatClampNeg) then none else
      pin (((S 60 v7.toNatClampNeg) * v5) + v6) fun x30 =>
      if (v7 < 0 ∨ 1060 ≤ v7.toNatClampNeg) then none else
      pin (puS S 60 v7.toNatClampNeg (x30 &&& (65535 : Int32))) fun S31 =>
      pin (x30 >>> ((16 : Int32) &&& 31)) fun x33 =>
      pin (v7 + (1 : Int32)) fun x34 =>
      f_X9_ideal_L69 fu p0 K34  n v1 v3 v4 v5 x33 x34 S31 := rfl
def f_X9_ideal_L34 (fu : Nat) (p0 : Int32)   : Nat → Int32 → Int32 → Int32 → St → Option (Int32 × St)
  | 0, _, _, _, _ => none
  | n + 1, v1, v3, v4, S =>
    if (S 43 1) ≤ v4 then
      pin ((16 : Int32) * (v3 - (1 : Int32))) fun x11 =>
      if ((v3 - (1 : Int32)) < 0 ∨ 1060 ≤ (v3 - (1 : Int32)).toNatClampNeg) then none else
      pin (S 60 (v3 - (1 : Int32)).toNatClampNeg) fun x13 =>
      f_X9_ideal_L155 fu p0   fu v1 x11 x13 S
    else
      if (v4 < 0 ∨ 4000 ≤ v4.toNatClampNeg) then none else
      if ((((256 : Int32) * v1) + (S 44 v4.toNatClampNeg)) < 0 ∨ 1792 ≤ (((256 : Int32) * v1) + (S 44 v4.toNatClampNeg)).toNatClampNeg) then none else
      pin (S 47 (((256 : Int32) * v1) + (S 44 v4.toNatClampNeg)).toNatClampNeg) fun x22 =>
      f_X9_ideal_L69 fu p0 (f_X9_ideal_L34 fu p0   n)  fu v1 v3 v4 x22 (0 : Int32) (0 : Int32) S
theorem f_X9_ideal_L34_s (fu : Nat) (p0 : Int32)   (n : Nat) (v1 : Int32) (v3 : Int32) (v4 : Int32) (S : St) : f_X9_ideal_L34 fu p0   (n + 1) v1 v3 v4 S =
    if (S 43 1) ≤ v4 then
      pin ((16 : Int32) * (v3 - (1 : Int32))) fun x11 =>
      if ((v3 - (1 : Int32)) < 0 ∨ 1060 ≤ (v3 - (1 : Int32)).toNatClampNeg) then none else
      pin (S 60 (v3 - (1 : Int32)).toNatClampNeg) fun x13 =>
      f_X9_ideal_L155 fu p0   fu v1 x11 x13 S
    else
      if (v4 < 0 ∨ 4000 ≤ v4.toNatClampNeg) then none else
      if ((((256 : Int32) * v1) + (S 44 v4.toNatClampNeg)) < 0 ∨ 1792 ≤ (((256 : Int32) * v1) + (S 44 v4.toNatClampNeg)).toNatClampNeg) then none else
      pin (S 47 (((256 : Int32) * v1) + (S 44 v4.toNatClampNeg)).toNatClampNeg) fun x22 =>
      f_X9_ideal_L69 fu p0 (f_X9_ideal_L34 fu p0   n)  fu v1 v3 v4 x22 (0 : Int32) (0 : Int32) S := rfl
def f_X9_ideal (fu : Nat) (p0 : Int32) (S : St) : Option (Int32 × St) :=
  bnd (f_X9_isTable p0 S) fun r1 S2 =>
  if r1 = 0 then
    some ((-1 : Int32), S2)
  else
    bnd (f_X9_refusal fu p0 S2) fun r5 S6 =>
    if 0 ≤ r5 then
      pin (puS S6 60 0 (1 : Int32)) fun S9 =>
      f_X9_ideal_L34 fu p0   fu p0 (1 : Int32) (0 : Int32) S9
    else
      some (r5, S6)
def f_X9_isPlace (p0 : Int32) (p1 : Int32) (p2 : Int32) (S : St) : Option (Int32 × St) :=
  bnd (f_X9_isTable p0 S) fun r1 S2 =>
  if r1 = 0 then
    some ((0 : Int32), S2)
  else
    if p1 < 0 then
      some ((0 : Int32), S2)
    else
      if (3 : Int32) ≤ p1 then
        some ((0 : Int32), S2)
      else
        if p2 < 0 then
          some ((0 : Int32), S2)
        else
          if (p0 < 0 ∨ 7 ≤ p0.toNatClampNeg) then none else
          if ((1 : Int32) <<< ((S2 46 p0.toNatClampNeg) &&& 31)) ≤ p2 then
            some ((0 : Int32), S2)
          else
            some ((1 : Int32), S2)
def f_X9_lack (p0 : Int32) (p1 : Int32) (p2 : Int32) (S : St) : Option (Int32 × St) :=
  if (p1 < 0 ∨ 256 ≤ p1.toNatClampNeg) then none else
  if (p0 < 0 ∨ 7 ≤ p0.toNatClampNeg) then none else
  if ((((256 : Int32) * p0) + p1) < 0 ∨ 1792 ≤ (((256 : Int32) * p0) + p1).toNatClampNeg) then none else
  some ((((S 53 p1.toNatClampNeg) <<< ((S 46 p0.toNatClampNeg) &&& 31)) - ((S 47 (((256 : Int32) * p0) + p1).toNatClampNeg) * p2)), S)
def f_X9_learn_L385 (fu : Nat) (p0 : Int32) (p1 : Int32) (K329 : Int32 → Int32 → Int32 → Int32 → Int32 → Int32 → St → Option (Int32 × St))  (v1 : Int32) (v3 : Int32) (v4 : Int32) (v5 : Int32) (v6 : Int32) (v7 : Int32) (S : St) : Option (Int32 × St) :=
  pin (v7 + (-1 : Int32)) fun x26 =>
  K329 v1 v3 v4 v5 v6 x26 S
def f_X9_learn_L381 (fu : Nat) (p0 : Int32) (p1 : Int32) (K329 : Int32 → Int32 → Int32 → Int32 → Int32 → Int32 → St → Option (Int32 × St))  (v1 : Int32) (v3 : Int32) (v4 : Int32) (v5 : Int32) (v7 : Int32) (S : St) : Option (Int32 × St) :=
  f_X9_learn_L385 fu p0 p1 K329  v1 v3 v4 v5 v7 v7 S
def f_X9_learn_L329 (fu : Nat) (p0 : Int32) (p1 : Int32) (K314 : Int32 → Int32 → Int32 → Int32 → St → Option (Int32 × St))  : Nat → Int32 → Int32 → Int32 → Int32 → Int32 → Int32 → St → Option (Int32 × St)
  | 0, _, _, _, _, _, _, _ => none
  | n + 1, v1, v3, v4, v5, v6, v7, S =>
    if v7 < 0 then
      if ((((256 : Int32) * v1) + v6) < 0 ∨ 1792 ≤ (((256 : Int32) * v1) + v6).toNatClampNeg) then none else
      if ((((256 : Int32) * v1) + v6) < 0 ∨ 1792 ≤ (((256 : Int32) * v1) + v6).toNatClampNeg) then none else
      pin (puS S 47 (((256 : Int32) * v1) + v6).toNatClampNeg ((S 47 (((256 : Int32) * v1) + v6).toNatClampNeg) - (1 : Int32))) fun S21 =>
      pin (v5 + (-1 : Int32)) fun x23 =>
      K314 v1 v3 v4 x23 S21
    else
      if ((((256 : Int32) * v1) + v7) < 0 ∨ 1792 ≤ (((256 : Int32) * v1) + v7).toNatClampNeg) then none else
      if (S 47 (((256 : Int32) * v1) + v7).toNatClampNeg) ≤ (1 : Int32) then
        f_X9_learn_L385 fu p0 p1 (f_X9_learn_L329 fu p0 p1 K314  n)  v1 v3 v4 v5 v6 v7 S
      else
        if v6 < 0 then
          f_X9_learn_L381 fu p0 p1 (f_X9_learn_L329 fu p0 p1 K314  n)  v1 v3 v4 v5 v7 S
        else
          bnd (f_X9_lack v1 v7 (S 43 1) S) fun r28 S29 =>
          bnd (f_X9_lack v1 v6 (S29 43 1) S29) fun r31 S32 =>
          if r31 ≤ r28 then
            f_X9_learn_L385 fu p0 p1 (f_X9_learn_L329 fu p0 p1 K314  n)  v1 v3 v4 v5 v6 v7 S32
          else
            f_X9_learn_L381 fu p0 p1 (f_X9_learn_L329 fu p0 p1 K314  n)  v1 v3 v4 v5 v7 S32
theorem f_X9_learn_L329_s (fu : Nat) (p0 : Int32) (p1 : Int32) (K314 : Int32 → Int32 → Int32 → Int32 → St → Option (Int32 × St))  (n : Nat) (v1 : Int32) (v3 : Int32) (v4 : Int32) (v5 : Int32) (v6 : Int32) (v7 : Int32) (S : St) : f_X9_learn_L329 fu p0 p1 K314  (n + 1) v1 v3 v4 v5 v6 v7 S =
    if v7 < 0 then
      if ((((256 : Int32) * v1) + v6) < 0 ∨ 1792 ≤ (((256 : Int32) * v1) + v6).toNatClampNeg) then none else
      if ((((256 : Int32) * v1) + v6) < 0 ∨ 1792 ≤ (((256 : Int32) * v1) + v6).toNatClampNeg) then none else
      pin (puS S 47 (((256 : Int32) * v1) + v6).toNatClampNeg ((S 47 (((256 : Int32) * v1) + v6).toNatClampNeg) - (1 : Int32))) fun S21 =>
      pin (v5 + (-1 : Int32)) fun x23 =>
      K314 v1 v3 v4 x23 S21
    else
      if ((((256 : Int32) * v1) + v7) < 0 ∨ 1792 ≤ (((256 : Int32) * v1) + v7).toNatClampNeg) then none else
      if (S 47 (((256 : Int32) * v1) + v7).toNatClampNeg) ≤ (1 : Int32) then
        f_X9_learn_L385 fu p0 p1 (f_X9_learn_L329 fu p0 p1 K314  n)  v1 v3 v4 v5 v6 v7 S
      else
        if v6 < 0 then
          f_X9_learn_L381 fu p0 p1 (f_X9_learn_L329 fu p0 p1 K314  n)  v1 v3 v4 v5 v7 S
        else
          bnd (f_X9_lack v1 v7 (S 43 1) S) fun r28 S29 =>
          bnd (f_X9_lack v1 v6 (S29 43 1) S29) fun r31 S32 =>
          if r31 ≤ r28 then
            f_X9_learn_L385 fu p0 p1 (f_X9_learn_L329 fu p0 p1 K314  n)  v1 v3 v4 v5 v6 v7 S32
          else
            f_X9_learn_L381 fu p0 p1 (f_X9_learn_L329 fu p0 p1 K314  n)  v1 v3 v4 v5 v7 S32 := rfl
def f_X9_learn_L314 (fu : Nat) (p0 : Int32) (p1 : Int32)   : Nat → Int32 → Int32 → Int32 → Int32 → St → Option (Int32 × St)
  | 0, _, _, _, _, _ => none
  | n + 1, v1, v3, v4, v5, S =>
    if v5 ≤ v4 then
      bnd (f_X9_begin fu v1 S) fun r16 S17 =>
      some (v3, S17)
    else
      f_X9_learn_L329 fu p0 p1 (f_X9_learn_L314 fu p0 p1   n)  fu v1 v3 v4 v5 (-1 : Int32) (255 : Int32) S
theorem f_X9_learn_L314_s (fu : Nat) (p0 : Int32) (p1 : Int32)   (n : Nat) (v1 : Int32) (v3 : Int32) (v4 : Int32) (v5 : Int32) (S : St) : f_X9_learn_L314 fu p0 p1   (n + 1) v1 v3 v4 v5 S =
    if v5 ≤ v4 then
      bnd (f_X9_begin fu v1 S) fun r16 S17 =>
      some (v3, S17)
    else
      f_X9_learn_L329 fu p0 p1 (f_X9_learn_L314 fu p0 p1   n)  fu v1 v3 v4 v5 (-1 : Int32) (255 : Int32) S := rfl
def f_X9_learn_L285 (fu : Nat) (p0 : Int32) (p1 : Int32) (K233 : Int32 → Int32 → Int32 → Int32 → Int32 → Int32 → St → Option (Int32 × St))  (v1 : Int32) (v3 : Int32) (v4 : Int32) (v5 : Int32) (v6 : Int32) (v7 : Int32) (S : St) : Option (Int32 × St) :=
  pin (v7 + (1 : Int32)) fun x42 =>
  K233 v1 v3 v4 v5 v6 x42 S
def f_X9_learn_L281 (fu : Nat) (p0 : Int32) (p1 : Int32) (K233 : Int32 → Int32 → Int32 → Int32 → Int32 → Int32 → St → Option (Int32 × St))  (v1 : Int32) (v3 : Int32) (v4 : Int32) (v5 : Int32) (v7 : Int32) (S : St) : Option (Int32 × St) :=
  f_X9_learn_L285 fu p0 p1 K233  v1 v3 v4 v5 v7 v7 S
def f_X9_learn_L233 (fu : Nat) (p0 : Int32) (p1 : Int32) (K220 : Int32 → Int32 → Int32 → Int32 → St → Option (Int32 × St))  : Nat → Int32 → Int32 → Int32 → Int32 → Int32 → Int32 → St → Option (Int32 × St)
  | 0, _, _, _, _, _, _, _ => none
  | n + 1, v1, v3, v4, v5, v6, v7, S =>
    if (256 : Int32) ≤ v7 then
      if ((((256 : Int32) * v1) + v6) < 0 ∨ 1792 ≤ (((256 : Int32) * v1) + v6).toNatClampNeg) then none else
      if ((((256 : Int32) * v1) + v6) < 0 ∨ 1792 ≤ (((256 : Int32) * v1) + v6).toNatClampNeg) then none else
      pin (puS S 47 (((256 : Int32) * v1) + v6).toNatClampNeg ((S 47 (((256 : Int32) * v1) + v6).toNatClampNeg) + (1 : Int32))) fun S37 =>
      pin (v5 + (1 : Int32)) fun x39 =>
      K220 v1 v3 v4 x39 S37
    else
      if (v7 < 0 ∨ 256 ≤ v7.toNatClampNeg) then none else
      if (S 53 v7.toNatClampNeg) ≤ 0 then
        f_X9_learn_L285 fu p0 p1 (f_X9_learn_L233 fu p0 p1 K220  n)  v1 v3 v4 v5 v6 v7 S
      else
        if v6 < 0 then
          f_X9_learn_L281 fu p0 p1 (f_X9_learn_L233 fu p0 p1 K220  n)  v1 v3 v4 v5 v7 S
        else
          bnd (f_X9_lack v1 v7 (S 43 1) S) fun r44 S45 =>
          bnd (f_X9_lack v1 v6 (S45 43 1) S45) fun r47 S48 =>
          if r44 ≤ r47 then
            f_X9_learn_L285 fu p0 p1 (f_X9_learn_L233 fu p0 p1 K220  n)  v1 v3 v4 v5 v6 v7 S48
          else
            f_X9_learn_L281 fu p0 p1 (f_X9_learn_L233 fu p0 p1 K220  n)  v1 v3 v4 v5 v7 S48
theorem f_X9_learn_L233_s (fu : Nat) (p0 : Int32) (p1 : Int32) (K220 : Int32 → Int32 → Int32 → Int32 → St → Option (Int32 × St))  (n : Nat) (v1 : Int32) (v3 : Int32) (v4 : Int32) (v5 : Int32) (v6 : Int32) (v7 : Int32) (S : St) : f_X9_learn_L233 fu p0 p1 K220  (n + 1) v1 v3 v4 v5 v6 v7 S =
    if (256 : Int32) ≤ v7 then
      if ((((256 : Int32) * v1) + v6) < 0 ∨ 1792 ≤ (((256 : Int32) * v1) + v6).toNatClampNeg) then none else
      if ((((256 : Int32) * v1) + v6) < 0 ∨ 1792 ≤ (((256 : Int32) * v1) + v6).toNatClampNeg) then none else
      pin (puS S 47 (((256 : Int32) * v1) + v6).toNatClampNeg ((S 47 (((256 : Int32) * v1) + v6).toNatClampNeg) + (1 : Int32))) fun S37 =>
      pin (v5 + (1 : Int32)) fun x39 =>
      K220 v1 v3 v4 x39 S37
    else
      if (v7 < 0 ∨ 256 ≤ v7.toNatClampNeg) then none else
      if (S 53 v7.toNatClampNeg) ≤ 0 then
        f_X9_learn_L285 fu p0 p1 (f_X9_learn_L233 fu p0 p1 K220  n)  v1 v3 v4 v5 v6 v7 S
      else
        if v6 < 0 then
          f_X9_learn_L281 fu p0 p1 (f_X9_learn_L233 fu p0 p1 K220  n)  v1 v3 v4 v5 v7 S
        else
          bnd (f_X9_lack v1 v7 (S 43 1) S) fun r44 S45 =>
          bnd (f_X9_lack v1 v6 (S45 43 1) S45) fun r47 S48 =>
          if r44 ≤ r47 then
            f_X9_learn_L285 fu p0 p1 (f_X9_learn_L233 fu p0 p1 K220  n)  v1 v3 v4 v5 v6 v7 S48
          else
            f_X9_learn_L281 fu p0 p1 (f_X9_learn_L233 fu p0 p1 K220  n)  v1 v3 v4 v5 v7 S48 := rfl
def f_X9_learn_L220 (fu : Nat) (p0 : Int32) (p1 : Int32)   : Nat → Int32 → Int32 → Int32 → Int32 → St → Option (Int32 × St)
  | 0, _, _, _, _, _ => none
  | n + 1, v1, v3, v4, v5, S =>
    if v4 ≤ v5 then
      f_X9_learn_L314 fu p0 p1   fu v1 v3 v4 v5 S
    else
      f_X9_learn_L233 fu p0 p1 (f_X9_learn_L220 fu p0 p1   n)  fu v1 v3 v4 v5 (-1 : Int32) (0 : Int32) S
theorem f_X9_learn_L220_s (fu : Nat) (p0 : Int32) (p1 : Int32)   (n : Nat) (v1 : Int32) (v3 : Int32) (v4 : Int32) (v5 : Int32) (S : St) : f_X9_learn_L220 fu p0 p1   (n + 1) v1 v3 v4 v5 S =
    if v4 ≤ v5 then
      f_X9_learn_L314 fu p0 p1   fu v1 v3 v4 v5 S
    else
      f_X9_learn_L233 fu p0 p1 (f_X9_learn_L220 fu p0 p1   n)  fu v1 v3 v4 v5 (-1 : Int32) (0 : Int32) S := rfl
def f_X9_learn_L192 (fu : Nat) (p0 : Int32) (p1 : Int32) (K149 : Int32 → Int32 → Int32 → Int32 → Int32 → St → Option (Int32 × St))  (v1 : Int32) (v3 : Int32) (v4 : Int32) (v5 : Int32) (v6 : Int32) (v7 : Int32) (S : St) : Option (Int32 × St) :=
  if ((((256 : Int32) * v1) + v6) < 0 ∨ 1792 ≤ (((256 : Int32) * v1) + v6).toNatClampNeg) then none else
  pin (puS S 47 (((256 : Int32) * v1) + v6).toNatClampNeg v7) fun S56 =>
  pin (v5 + v7) fun x58 =>
  pin (v6 + (1 : Int32)) fun x59 =>
  K149 v1 v3 v4 x58 x59 S56
def f_X9_learn_L149 (fu : Nat) (p0 : Int32) (p1 : Int32)   : Nat → Int32 → Int32 → Int32 → Int32 → Int32 → St → Option (Int32 × St)
  | 0, _, _, _, _, _, _ => none
  | n + 1, v1, v3, v4, v5, v6, S =>
    if (256 : Int32) ≤ v6 then
      f_X9_learn_L220 fu p0 p1   fu v1 v3 v4 v5 S
    else
      if (v6 < 0 ∨ 256 ≤ v6.toNatClampNeg) then none else
      if (S 43 1) = 0 then none else
      pin (((S 53 v6.toNatClampNeg) * v4) / (S 43 1)) fun x53 =>
      if (v6 < 0 ∨ 256 ≤ v6.toNatClampNeg) then none else
      if (S 53 v6.toNatClampNeg) ≤ 0 then
        f_X9_learn_L192 fu p0 p1 (f_X9_learn_L149 fu p0 p1   n)  v1 v3 v4 v5 v6 x53 S
      else
        if x53 = 0 then
          f_X9_learn_L192 fu p0 p1 (f_X9_learn_L149 fu p0 p1   n)  v1 v3 v4 v5 v6 (1 : Int32) S
        else
          f_X9_learn_L192 fu p0 p1 (f_X9_learn_L149 fu p0 p1   n)  v1 v3 v4 v5 v6 x53 S
theorem f_X9_learn_L149_s (fu : Nat) (p0 : Int32) (p1 : Int32)   (n : Nat) (v1 : Int32) (v3 : Int32) (v4 : Int32) (v5 : Int32) (v6 : Int32) (S : St) : f_X9_learn_L149 fu p0 p1   (n + 1) v1 v3 v4 v5 v6 S =
    if (256 : Int32) ≤ v6 then
      f_X9_learn_L220 fu p0 p1   fu v1 v3 v4 v5 S
    else
      if (v6 < 0 ∨ 256 ≤ v6.toNatClampNeg) then none else
      if (S 43 1) = 0 then none else
      pin (((S 53 v6.toNatClampNeg) * v4) / (S 43 1)) fun x53 =>
      if (v6 < 0 ∨ 256 ≤ v6.toNatClampNeg) then none else
      if (S 53 v6.toNatClampNeg) ≤ 0 then
        f_X9_learn_L192 fu p0 p1 (f_X9_learn_L149 fu p0 p1   n)  v1 v3 v4 v5 v6 x53 S
      else
        if x53 = 0 then
          f_X9_learn_L192 fu p0 p1 (f_X9_learn_L149 fu p0 p1   n)  v1 v3 v4 v5 v6 (1 : Int32) S
        else
          f_X9_learn_L192 fu p0 p1 (f_X9_learn_L149 fu p0 p1   n)  v1 v3 v4 v5 v6 x53 S := rfl
def f_X9_learn_L114 (fu : Nat) (p0 : Int32) (p1 : Int32) (K90 : Int32 → Int32 → Int32 → Int32 → St → Option (Int32 × St))  (v1 : Int32) (v2 : Int32) (v4 : Int32) (t0 : Int32) (t1 : Int32) (S : St) : Option (Int32 × St) :=
  pin (t1 + t0) fun x63 =>
  pin (v4 + (1 : Int32)) fun x64 =>
  K90 v1 v2 x63 x64 S
def f_X9_learn_L90 (fu : Nat) (p0 : Int32) (p1 : Int32)   : Nat → Int32 → Int32 → Int32 → Int32 → St → Option (Int32 × St)
  | 0, _, _, _, _, _ => none
  | n + 1, v1, v2, v3, v4, S =>
    if (256 : Int32) ≤ v4 then
      pin ((1 : Int32) <<< (v2 &&& 31)) fun x9 =>
      if v3 ≤ x9 then
        if (v1 < 0 ∨ 7 ≤ v1.toNatClampNeg) then none else
        pin (puS S 46 v1.toNatClampNeg v2) fun S11 =>
        f_X9_learn_L149 fu p0 p1   fu v1 v3 x9 (0 : Int32) (0 : Int32) S11
      else
        some ((-3 : Int32), S)
    else
      if (v4 < 0 ∨ 256 ≤ v4.toNatClampNeg) then none else
      if (S 53 v4.toNatClampNeg) ≤ 0 then
        f_X9_learn_L114 fu p0 p1 (f_X9_learn_L90 fu p0 p1   n)  v1 v2 v4 (0 : Int32) v3 S
      else
        f_X9_learn_L114 fu p0 p1 (f_X9_learn_L90 fu p0 p1   n)  v1 v2 v4 (1 : Int32) v3 S
theorem f_X9_learn_L90_s (fu : Nat) (p0 : Int32) (p1 : Int32)   (n : Nat) (v1 : Int32) (v2 : Int32) (v3 : Int32) (v4 : Int32) (S : St) : f_X9_learn_L90 fu p0 p1   (n + 1) v1 v2 v3 v4 S =
    if (256 : Int32) ≤ v4 then
      pin ((1 : Int32) <<< (v2 &&& 31)) fun x9 =>
      if v3 ≤ x9 then
        if (v1 < 0 ∨ 7 ≤ v1.toNatClampNeg) then none else
        pin (puS S 46 v1.toNatClampNeg v2) fun S11 =>
        f_X9_learn_L149 fu p0 p1   fu v1 v3 x9 (0 : Int32) (0 : Int32) S11
      else
        some ((-3 : Int32), S)
    else
      if (v4 < 0 ∨ 256 ≤ v4.toNatClampNeg) then none else
      if (S 53 v4.toNatClampNeg) ≤ 0 then
        f_X9_learn_L114 fu p0 p1 (f_X9_learn_L90 fu p0 p1   n)  v1 v2 v4 (0 : Int32) v3 S
      else
        f_X9_learn_L114 fu p0 p1 (f_X9_learn_L90 fu p0 p1   n)  v1 v2 v4 (1 : Int32) v3 S := rfl
def f_X9_learn_L56 (fu : Nat) (p0 : Int32) (p1 : Int32)   : Nat → Int32 → Int32 → Int32 → St → Option (Int32 × St)
  | 0, _, _, _, _ => none
  | n + 1, v1, v2, v3, S =>
    if (S 43 1) ≤ v3 then
      f_X9_learn_L90 fu p0 p1   fu v1 v2 (0 : Int32) (0 : Int32) S
    else
      if (v3 < 0 ∨ 4000 ≤ v3.toNatClampNeg) then none else
      if ((S 44 v3.toNatClampNeg) < 0 ∨ 256 ≤ (S 44 v3.toNatClampNeg).toNatClampNeg) then none else
      if ((S 44 v3.toNatClampNeg) < 0 ∨ 256 ≤ (S 44 v3.toNatClampNeg).toNatClampNeg) then none else
      pin (puS S 53 (S 44 v3.toNatClampNeg).toNatClampNeg ((S 53 (S 44 v3.toNatClampNeg).toNatClampNeg) + (1 : Int32))) fun S67 =>
      pin (v3 + (1 : Int32)) fun x69 =>
      f_X9_learn_L56 fu p0 p1   n v1 v2 x69 S67
theorem f_X9_learn_L56_s (fu : Nat) (p0 : Int32) (p1 : Int32)   (n : Nat) (v1 : Int32) (v2 : Int32) (v3 : Int32) (S : St) : f_X9_learn_L56 fu p0 p1   (n + 1) v1 v2 v3 S =
    if (S 43 1) ≤ v3 then
      f_X9_learn_L90 fu p0 p1   fu v1 v2 (0 : Int32) (0 : Int32) S
    else
      if (v3 < 0 ∨ 4000 ≤ v3.toNatClampNeg) then none else
      if ((S 44 v3.toNatClampNeg) < 0 ∨ 256 ≤ (S 44 v3.toNatClampNeg).toNatClampNeg) then none else
      if ((S 44 v3.toNatClampNeg) < 0 ∨ 256 ≤ (S 44 v3.toNatClampNeg).toNatClampNeg) then none else
      pin (puS S 53 (S 44 v3.toNatClampNeg).toNatClampNeg ((S 53 (S 44 v3.toNatClampNeg).toNatClampNeg) + (1 : Int32))) fun S67 =>
      pin (v3 + (1 : Int32)) fun x69 =>
      f_X9_learn_L56 fu p0 p1   n v1 v2 x69 S67 := rfl
def f_X9_learn_L34 (fu : Nat) (p0 : Int32) (p1 : Int32)   : Nat → Int32 → Int32 → Int32 → St → Option (Int32 × St)
  | 0, _, _, _, _ => none
  | n + 1, v1, v2, v3, S =>
    if (256 : Int32) ≤ v3 then
      f_X9_learn_L56 fu p0 p1   fu v1 v2 (0 : Int32) S
    else
      if (v3 < 0 ∨ 256 ≤ v3.toNatClampNeg) then none else
      pin (puS S 53 v3.toNatClampNeg (0 : Int32)) fun S70 =>
      pin (v3 + (1 : Int32)) fun x72 =>
      f_X9_learn_L34 fu p0 p1   n v1 v2 x72 S70
theorem f_X9_learn_L34_s (fu : Nat) (p0 : Int32) (p1 : Int32)   (n : Nat) (v1 : Int32) (v2 : Int32) (v3 : Int32) (S : St) : f_X9_learn_L34 fu p0 p1   (n + 1) v1 v2 v3 S =
    if (256 : Int32) ≤ v3 then
      f_X9_learn_L56 fu p0 p1   fu v1 v2 (0 : Int32) S
    else
      if (v3 < 0 ∨ 256 ≤ v3.toNatClampNeg) then none else
      pin (puS S 53 v3.toNatClampNeg (0 : Int32)) fun S70 =>
      pin (v3 + (1 : Int32)) fun x72 =>
      f_X9_learn_L34 fu p0 p1   n v1 v2 x72 S70 := rfl
def f_X9_learn (fu : Nat) (p0 : Int32) (p1 : Int32) (S : St) : Option (Int32 × St) :=
  if p0 < 0 then
    some ((-1 : Int32), S)
  else
    if (5 : Int32) < p0 then
      some ((-1 : Int32), S)
    else
      if p1 < (1 : Int32) then
        some ((-1 : Int32), S)
      else
        if p1 ≤ (12 : Int32) then
          if (S 43 1) = 0 then
            some ((-2 : Int32), S)
          else
            f_X9_learn_L34 fu p0 p1   fu p0 p1 (0 : Int32) S
        else
          some ((-1 : Int32), S)
def f_X9_told_L104 (fu : Nat) (p0 : Int32) (p1 : Int32) (p2 : Int32) (p3 : Int32)   : Nat → Int32 → Int32 → St → Option (Int32 × St)
  | 0, _, _, _ => none
  | n + 1, v1, v7, S =>
    if ((((256 : Int32) * v1) + v7) < 0 ∨ 1792 ≤ (((256 : Int32) * v1) + v7).toNatClampNeg) then none else
    if (S 47 (((256 : Int32) * v1) + v7).toNatClampNeg) = 0 then
      pin (v7 + (-1 : Int32)) fun x8 =>
      f_X9_told_L104 fu p0 p1 p2 p3   n v1 x8 S
    else
      some (v7, S)
theorem f_X9_told_L104_s (fu : Nat) (p0 : Int32) (p1 : Int32) (p2 : Int32) (p3 : Int32)   (n : Nat) (v1 : Int32) (v7 : Int32) (S : St) : f_X9_told_L104 fu p0 p1 p2 p3   (n + 1) v1 v7 S =
    if ((((256 : Int32) * v1) + v7) < 0 ∨ 1792 ≤ (((256 : Int32) * v1) + v7).toNatClampNeg) then none else
    if (S 47 (((256 : Int32) * v1) + v7).toNatClampNeg) = 0 then
      pin (v7 + (-1 : Int32)) fun x8 =>
      f_X9_told_L104 fu p0 p1 p2 p3   n v1 x8 S
    else
      some (v7, S) := rfl
def f_X9_told_L101 (fu : Nat) (p0 : Int32) (p1 : Int32) (p2 : Int32) (p3 : Int32) (K52 : Int32 → Int32 → Int32 → Int32 → St → Option (Int32 × St))  (v1 : Int32) (v6 : Int32) (v7 : Int32) (v8 : Int32) (S : St) : Option (Int32 × St) :=
  K52 v1 v6 v7 v8 S
def f_X9_told_L52 (fu : Nat) (p0 : Int32) (p1 : Int32) (p2 : Int32) (p3 : Int32)   : Nat → Int32 → Int32 → Int32 → Int32 → St → Option (Int32 × St)
  | 0, _, _, _, _, _ => none
  | n + 1, v1, v6, v7, v8, S =>
    if v8 ≤ v7 then
      f_X9_told_L104 fu p0 p1 p2 p3   fu v1 v7 S
    else
      pin (((v7 + v8) + (1 : Int32)) / (2 : Int32)) fun x9 =>
      if ((((256 : Int32) * v1) + x9) < 0 ∨ 1792 ≤ (((256 : Int32) * v1) + x9).toNatClampNeg) then none else
      if v6 < (S 48 (((256 : Int32) * v1) + x9).toNatClampNeg) then
        pin (x9 - (1 : Int32)) fun x12 =>
        f_X9_told_L101 fu p0 p1 p2 p3 (f_X9_told_L52 fu p0 p1 p2 p3   n)  v1 v6 v7 x12 S
      else
        f_X9_told_L101 fu p0 p1 p2 p3 (f_X9_told_L52 fu p0 p1 p2 p3   n)  v1 v6 x9 v8 S
theorem f_X9_told_L52_s (fu : Nat) (p0 : Int32) (p1 : Int32) (p2 : Int32) (p3 : Int32)   (n : Nat) (v1 : Int32) (v6 : Int32) (v7 : Int32) (v8 : Int32) (S : St) : f_X9_told_L52 fu p0 p1 p2 p3   (n + 1) v1 v6 v7 v8 S =
    if v8 ≤ v7 then
      f_X9_told_L104 fu p0 p1 p2 p3   fu v1 v7 S
    else
      pin (((v7 + v8) + (1 : Int32)) / (2 : Int32)) fun x9 =>
      if ((((256 : Int32) * v1) + x9) < 0 ∨ 1792 ≤ (((256 : Int32) * v1) + x9).toNatClampNeg) then none else
      if v6 < (S 48 (((256 : Int32) * v1) + x9).toNatClampNeg) then
        pin (x9 - (1 : Int32)) fun x12 =>
        f_X9_told_L101 fu p0 p1 p2 p3 (f_X9_told_L52 fu p0 p1 p2 p3   n)  v1 v6 v7 x12 S
      else
        f_X9_told_L101 fu p0 p1 p2 p3 (f_X9_told_L52 fu p0 p1 p2 p3   n)  v1 v6 x9 v8 S := rfl
def f_X9_told (fu : Nat) (p0 : Int32) (p1 : Int32) (p2 : Int32) (p3 : Int32) (S : St) : Option (Int32 × St) :=
  if (p0 < 0 ∨ 7 ≤ p0.toNatClampNeg) then none else
  pin ((1 : Int32) <<< ((S 46 p0.toNatClampNeg) &&& 31)) fun x2 =>
  if p1 = 0 then
    if (((((4096 : Int32) * (((3 : Int32) * p0) + p2)) + p3) - x2) < 0 ∨ 86016 ≤ ((((4096 : Int32) * (((3 : Int32) * p0) + p2)) + p3) - x2).toNatClampNeg) then none else
    some ((S 50 ((((4096 : Int32) * (((3 : Int32) * p0) + p2)) + p3) - x2).toNatClampNeg), S)
  else
    pin (p3 &&& (x2 - (1 : Int32))) fun x4 =>
    f_X9_told_L52 fu p0 p1 p2 p3   fu p0 x4 (0 : Int32) (255 : Int32) S
def f_X9_left (fu : Nat) (p0 : Int32) (p1 : Int32) (p2 : Int32) (p3 : Int32) (S : St) : Option (Int32 × St) :=
  bnd (f_X9_isAsked fu p0 p1 p2 p3 S) fun r1 S2 =>
  if r1 = 0 then
    some ((-1 : Int32), S2)
  else
    bnd (f_X9_told fu p0 p1 p2 p3 S2) fun r5 S6 =>
    bnd (f_X9_behind p0 p1 p2 p3 r5 S6) fun r8 S9 =>
    some (r8, S9)
def f_X9_log (p0 : Int32) (S : St) : Option (Int32 × St) :=
  bnd (f_X9_isTable p0 S) fun r1 S2 =>
  if r1 = 0 then
    some ((-1 : Int32), S2)
  else
    if (p0 < 0 ∨ 7 ≤ p0.toNatClampNeg) then none else
    some ((S2 46 p0.toNatClampNeg), S2)
def f_X9_look (p0 : Int32) (S : St) : Option (Int32 × St) :=
  if p0 < 0 then
    some ((-1 : Int32), S)
  else
    if p0 ≤ (5 : Int32) then
      if (p0 < 0 ∨ 6 ≤ p0.toNatClampNeg) then none else
      some ((S 56 p0.toNatClampNeg), S)
    else
      some ((-1 : Int32), S)
def f_X9_meets_L25 (p0 : Int32)   (v1 : Int32) (t0 : Int32) (t1 : Int32) (S : St) : Option (Int32 × St) :=
  if (t1 < 0 ∨ 6 ≤ t1.toNatClampNeg) then none else
  pin (puS S 59 t1.toNatClampNeg t0) fun S2 =>
  if v1 ≤ (S2 59 1) then
    pin (puS S2 59 1 (S2 59 1)) fun S5 =>
    some ((0 : Int32), S5)
  else
    pin (puS S2 59 1 v1) fun S6 =>
    some ((0 : Int32), S6)
def f_X9_meets (p0 : Int32) (S : St) : Option (Int32 × St) :=
  if (S 59 0) ≤ p0 then
    f_X9_meets_L25 p0   p0 (S 59 0) (0 : Int32) S
  else
    f_X9_meets_L25 p0   p0 p0 (0 : Int32) S
def f_X9_meetsNone  (S : St) : Option (Int32 × St) :=
  pin (puS S 59 0 (2147483647 : Int32)) fun S1 =>
  pin (puS S1 59 1 (0 : Int32)) fun S2 =>
  pin (puS S2 59 2 (0 : Int32)) fun S3 =>
  pin (puS S3 59 3 (0 : Int32)) fun S4 =>
  pin (puS S4 59 4 (0 : Int32)) fun S5 =>
  pin (puS S5 59 5 (0 : Int32)) fun S6 =>
  some ((0 : Int32), S6)
def f_X9_number_L32 (fu : Nat) (p0 : Int32)   : Nat → Int32 → Int64 → Int32 → St → Option (Int64 × St)
  | 0, _, _, _, _ => none
  | n + 1, v1, v2, v4, S =>
    if v1 ≤ v4 then
      pin (puS S 43 27 ((S 43 27) + v1)) fun S3 =>
      some (v2, S3)
    else
      if (((S 43 27) + v4) < 0 ∨ 4000 ≤ ((S 43 27) + v4).toNatClampNeg) then none else
      pin ((v2 <<< (((8 : Int32)).toInt64 &&& 63)) ||| (((S 44 ((S 43 27) + v4).toNatClampNeg)).toInt64)) fun x5 =>
      pin (v4 + (1 : Int32)) fun x6 =>
      f_X9_number_L32 fu p0   n v1 x5 x6 S
theorem f_X9_number_L32_s (fu : Nat) (p0 : Int32)   (n : Nat) (v1 : Int32) (v2 : Int64) (v4 : Int32) (S : St) : f_X9_number_L32 fu p0   (n + 1) v1 v2 v4 S =
    if v1 ≤ v4 then
      pin (puS S 43 27 ((S 43 27) + v1)) fun S3 =>
      some (v2, S3)
    else
      if (((S 43 27) + v4) < 0 ∨ 4000 ≤ ((S 43 27) + v4).toNatClampNeg) then none else
      pin ((v2 <<< (((8 : Int32)).toInt64 &&& 63)) ||| (((S 44 ((S 43 27) + v4).toNatClampNeg)).toInt64)) fun x5 =>
      pin (v4 + (1 : Int32)) fun x6 =>
      f_X9_number_L32 fu p0   n v1 x5 x6 S := rfl
def f_X9_number (fu : Nat) (p0 : Int32) (S : St) : Option (Int64 × St) :=
  if ((S 43 27) + p0) ≤ (S 43 1) then
    f_X9_number_L32 fu p0   fu p0 (0 : Int64) (0 : Int32) S
  else
    bnd (f_X9_fails (1 : Int32) (S 43 1) S) fun r7 S8 =>
    some ((-1 : Int64), S8)
def f_X9_put_L4 (fu : Nat) (p0 : Int32) (p1 : Int32)   : Nat → Int32 → Int32 → St → Option (Int32 × St)
  | 0, _, _, _ => none
  | n + 1, v1, v3, S =>
    if v3 < 0 then
      some ((0 : Int32), S)
    else
      if ((S 43 3) < 0 ∨ 4000 ≤ (S 43 3).toNatClampNeg) then none else
      pin (puS S 45 (S 43 3).toNatClampNeg ((v1 >>> (((8 : Int32) * v3) &&& 31)) &&& (255 : Int32))) fun S3 =>
      pin (puS S3 43 3 ((S3 43 3) + (1 : Int32))) fun S5 =>
      pin (v3 + (-1 : Int32)) fun x6 =>
      f_X9_put_L4 fu p0 p1   n v1 x6 S5
theorem f_X9_put_L4_s (fu : Nat) (p0 : Int32) (p1 : Int32)   (n : Nat) (v1 : Int32) (v3 : Int32) (S : St) : f_X9_put_L4 fu p0 p1   (n + 1) v1 v3 S =
    if v3 < 0 then
      some ((0 : Int32), S)
    else
      if ((S 43 3) < 0 ∨ 4000 ≤ (S 43 3).toNatClampNeg) then none else
      pin (puS S 45 (S 43 3).toNatClampNeg ((v1 >>> (((8 : Int32) * v3) &&& 31)) &&& (255 : Int32))) fun S3 =>
      pin (puS S3 43 3 ((S3 43 3) + (1 : Int32))) fun S5 =>
      pin (v3 + (-1 : Int32)) fun x6 =>
      f_X9_put_L4 fu p0 p1   n v1 x6 S5 := rfl
def f_X9_put (fu : Nat) (p0 : Int32) (p1 : Int32) (S : St) : Option (Int32 × St) :=
  pin (p1 - (1 : Int32)) fun x1 =>
  f_X9_put_L4 fu p0 p1   fu p0 x1 S
def f_X9_tells_L2 (fu : Nat)    : Nat → Int32 → St → Option (Int32 × St)
  | 0, _, _ => none
  | n + 1, v1, S =>
    if (6 : Int32) ≤ v1 then
      some ((0 : Int32), S)
    else
      if (v1 < 0 ∨ 6 ≤ v1.toNatClampNeg) then none else
      if (v1 < 0 ∨ 6 ≤ v1.toNatClampNeg) then none else
      pin (puS S 56 v1.toNatClampNeg (S 59 v1.toNatClampNeg)) fun S3 =>
      pin (v1 + (1 : Int32)) fun x5 =>
      f_X9_tells_L2 fu    n x5 S3
theorem f_X9_tells_L2_s (fu : Nat)    (n : Nat) (v1 : Int32) (S : St) : f_X9_tells_L2 fu    (n + 1) v1 S =
    if (6 : Int32) ≤ v1 then
      some ((0 : Int32), S)
    else
      if (v1 < 0 ∨ 6 ≤ v1.toNatClampNeg) then none else
      if (v1 < 0 ∨ 6 ≤ v1.toNatClampNeg) then none else
      pin (puS S 56 v1.toNatClampNeg (S 59 v1.toNatClampNeg)) fun S3 =>
      pin (v1 + (1 : Int32)) fun x5 =>
      f_X9_tells_L2 fu    n x5 S3 := rfl
def f_X9_tells (fu : Nat)  (S : St) : Option (Int32 × St) :=
  f_X9_tells_L2 fu    fu (0 : Int32) S
def f_X9_pack_L670 (fu : Nat) (p0 : Int32) (p1 : Int32) (p2 : Int32) (K575 : Int32 → Int32 → Int32 → St → Option (Int32 × St))  (v2 : Int32) (v5 : Int32) (v8 : Int32) (t0 : Int32) (S : St) : Option (Int32 × St) :=
  bnd (f_X9_put fu t0 (1 : Int32) S) fun r72 S73 =>
  pin (v8 + (1 : Int32)) fun x75 =>
  K575 v2 v5 x75 S73
def f_X9_pack_L650 (fu : Nat) (p0 : Int32) (p1 : Int32) (p2 : Int32) (K575 : Int32 → Int32 → Int32 → St → Option (Int32 × St))  (v2 : Int32) (v5 : Int32) (v8 : Int32) (v9 : Int32) (S : St) : Option (Int32 × St) :=
  if v2 = 0 then
    f_X9_pack_L670 fu p0 p1 p2 K575  v2 v5 v8 v9 S
  else
    if ((v5 + v8) < 0 ∨ 17000 ≤ (v5 + v8).toNatClampNeg) then none else
    f_X9_pack_L670 fu p0 p1 p2 K575  v2 v5 v8 (S 57 (v5 + v8).toNatClampNeg) S
def f_X9_pack_L641 (fu : Nat) (p0 : Int32) (p1 : Int32) (p2 : Int32) (K592 : Int32 → Int32 → Int32 → Int32 → Int32 → St → Option (Int32 × St))  (v2 : Int32) (v5 : Int32) (v8 : Int32) (v10 : Int32) (t0 : Int32) (t1 : Int32) (S : St) : Option (Int32 × St) :=
  pin (t1 + t0) fun x79 =>
  pin (v10 + (1 : Int32)) fun x80 =>
  K592 v2 v5 v8 x79 x80 S
def f_X9_pack_L592 (fu : Nat) (p0 : Int32) (p1 : Int32) (p2 : Int32) (K575 : Int32 → Int32 → Int32 → St → Option (Int32 × St))  : Nat → Int32 → Int32 → Int32 → Int32 → Int32 → St → Option (Int32 × St)
  | 0, _, _, _, _, _, _ => none
  | n + 1, v2, v5, v8, v9, v10, S =>
    if (8 : Int32) ≤ v10 then
      f_X9_pack_L650 fu p0 p1 p2 K575  v2 v5 v8 v9 S
    else
      if v2 = 0 then
        pin ((v5 + ((8 : Int32) * v8)) + v10) fun x77 =>
        if (17000 : Int32) ≤ x77 then
          f_X9_pack_L641 fu p0 p1 p2 (f_X9_pack_L592 fu p0 p1 p2 K575  n)  v2 v5 v8 v10 (0 : Int32) ((2 : Int32) * v9) S
        else
          if (x77 < 0 ∨ 17000 ≤ x77.toNatClampNeg) then none else
          f_X9_pack_L641 fu p0 p1 p2 (f_X9_pack_L592 fu p0 p1 p2 K575  n)  v2 v5 v8 v10 (S 57 x77.toNatClampNeg) ((2 : Int32) * v9) S
      else
        f_X9_pack_L650 fu p0 p1 p2 K575  v2 v5 v8 v9 S
theorem f_X9_pack_L592_s (fu : Nat) (p0 : Int32) (p1 : Int32) (p2 : Int32) (K575 : Int32 → Int32 → Int32 → St → Option (Int32 × St))  (n : Nat) (v2 : Int32) (v5 : Int32) (v8 : Int32) (v9 : Int32) (v10 : Int32) (S : St) : f_X9_pack_L592 fu p0 p1 p2 K575  (n + 1) v2 v5 v8 v9 v10 S =
    if (8 : Int32) ≤ v10 then
      f_X9_pack_L650 fu p0 p1 p2 K575  v2 v5 v8 v9 S
    else
      if v2 = 0 then
        pin ((v5 + ((8 : Int32) * v8)) + v10) fun x77 =>
        if (17000 : Int32) ≤ x77 then
          f_X9_pack_L641 fu p0 p1 p2 (f_X9_pack_L592 fu p0 p1 p2 K575  n)  v2 v5 v8 v10 (0 : Int32) ((2 : Int32) * v9) S
        else
          if (x77 < 0 ∨ 17000 ≤ x77.toNatClampNeg) then none else
          f_X9_pack_L641 fu p0 p1 p2 (f_X9_pack_L592 fu p0 p1 p2 K575  n)  v2 v5 v8 v10 (S 57 x77.toNatClampNeg) ((2 : Int32) * v9) S
      else
        f_X9_pack_L650 fu p0 p1 p2 K575  v2 v5 v8 v9 S := rfl
def f_X9_pack_L575 (fu : Nat) (p0 : Int32) (p1 : Int32) (p2 : Int32)   : Nat → Int32 → Int32 → Int32 → St → Option (Int32 × St)
  | 0, _, _, _, _ => none
  | n + 1, v2, v5, v8, S =>
    if (S 59 4) ≤ v8 then
      bnd (f_X9_tells fu  S) fun r66 S67 =>
      some ((S67 43 3), S67)
    else
      f_X9_pack_L592 fu p0 p1 p2 (f_X9_pack_L575 fu p0 p1 p2   n)  fu v2 v5 v8 (0 : Int32) (0 : Int32) S
theorem f_X9_pack_L575_s (fu : Nat) (p0 : Int32) (p1 : Int32) (p2 : Int32)   (n : Nat) (v2 : Int32) (v5 : Int32) (v8 : Int32) (S : St) : f_X9_pack_L575 fu p0 p1 p2   (n + 1) v2 v5 v8 S =
    if (S 59 4) ≤ v8 then
      bnd (f_X9_tells fu  S) fun r66 S67 =>
      some ((S67 43 3), S67)
    else
      f_X9_pack_L592 fu p0 p1 p2 (f_X9_pack_L575 fu p0 p1 p2   n)  fu v2 v5 v8 (0 : Int32) (0 : Int32) S := rfl
def f_X9_pack_L572 (fu : Nat) (p0 : Int32) (p1 : Int32) (p2 : Int32)   (v2 : Int32) (v5 : Int32) (S : St) : Option (Int32 × St) :=
  f_X9_pack_L575 fu p0 p1 p2   fu v2 v5 (0 : Int32) S
def f_X9_pack_L556 (fu : Nat) (p0 : Int32) (p1 : Int32) (p2 : Int32)   (v2 : Int32) (v5 : Int32) (S : St) : Option (Int32 × St) :=
  if v2 = (2 : Int32) then
    bnd (f_X9_put fu (S 58 1) (4 : Int32) S) fun r82 S83 =>
    f_X9_pack_L572 fu p0 p1 p2   v2 v5 S83
  else
    f_X9_pack_L572 fu p0 p1 p2   v2 v5 S
def f_X9_pack_L492 (fu : Nat) (p0 : Int32) (p1 : Int32) (p2 : Int32) (K440 : Int32 → Int32 → Int32 → Int32 → St → Option (Int32 × St))  (v1 : Int32) (v2 : Int32) (v5 : Int32) (v8 : Int32) (S : St) : Option (Int32 × St) :=
  pin (v8 + (1 : Int32)) fun x98 =>
  K440 v1 v2 v5 x98 S
def f_X9_pack_L440 (fu : Nat) (p0 : Int32) (p1 : Int32) (p2 : Int32)   : Nat → Int32 → Int32 → Int32 → Int32 → St → Option (Int32 × St)
  | 0, _, _, _, _, _ => none
  | n + 1, v1, v2, v5, v8, S =>
    if (256 : Int32) ≤ v8 then
      bnd (f_X9_put fu (S 43 1) (2 : Int32) S) fun r54 S55 =>
      bnd (f_X9_put fu (S55 59 4) (2 : Int32) S55) fun r57 S58 =>
      if v2 = 0 then
        if (v1 < 0 ∨ 7 ≤ v1.toNatClampNeg) then none else
        bnd (f_X9_put fu ((S58 58 0) - ((1 : Int32) <<< ((S58 46 v1.toNatClampNeg) &&& 31))) (2 : Int32) S58) fun r86 S87 =>
        f_X9_pack_L556 fu p0 p1 p2   v2 v5 S87
      else
        bnd (f_X9_put fu (S58 58 0) (4 : Int32) S58) fun r61 S62 =>
        f_X9_pack_L556 fu p0 p1 p2   v2 v5 S62
    else
      if ((((256 : Int32) * v1) + v8) < 0 ∨ 1792 ≤ (((256 : Int32) * v1) + v8).toNatClampNeg) then none else
      if (S 47 (((256 : Int32) * v1) + v8).toNatClampNeg) = 0 then
        f_X9_pack_L492 fu p0 p1 p2 (f_X9_pack_L440 fu p0 p1 p2   n)  v1 v2 v5 v8 S
      else
        bnd (f_X9_put fu v8 (1 : Int32) S) fun r91 S92 =>
        if ((((256 : Int32) * v1) + v8) < 0 ∨ 1792 ≤ (((256 : Int32) * v1) + v8).toNatClampNeg) then none else
        bnd (f_X9_put fu (S92 47 (((256 : Int32) * v1) + v8).toNatClampNeg) (2 : Int32) S92) fun r95 S96 =>
        f_X9_pack_L492 fu p0 p1 p2 (f_X9_pack_L440 fu p0 p1 p2   n)  v1 v2 v5 v8 S96
theorem f_X9_pack_L440_s (fu : Nat) (p0 : Int32) (p1 : Int32) (p2 : Int32)   (n : Nat) (v1 : Int32) (v2 : Int32) (v5 : Int32) (v8 : Int32) (S : St) : f_X9_pack_L440 fu p0 p1 p2   (n + 1) v1 v2 v5 v8 S =
    if (256 : Int32) ≤ v8 then
      bnd (f_X9_put fu (S 43 1) (2 : Int32) S) fun r54 S55 =>
      bnd (f_X9_put fu (S55 59 4) (2 : Int32) S55) fun r57 S58 =>
      if v2 = 0 then
        if (v1 < 0 ∨ 7 ≤ v1.toNatClampNeg) then none else
        bnd (f_X9_put fu ((S58 58 0) - ((1 : Int32) <<< ((S58 46 v1.toNatClampNeg) &&& 31))) (2 : Int32) S58) fun r86 S87 =>
        f_X9_pack_L556 fu p0 p1 p2   v2 v5 S87
      else
        bnd (f_X9_put fu (S58 58 0) (4 : Int32) S58) fun r61 S62 =>
        f_X9_pack_L556 fu p0 p1 p2   v2 v5 S62
    else
      if ((((256 : Int32) * v1) + v8) < 0 ∨ 1792 ≤ (((256 : Int32) * v1) + v8).toNatClampNeg) then none else
      if (S 47 (((256 : Int32) * v1) + v8).toNatClampNeg) = 0 then
        f_X9_pack_L492 fu p0 p1 p2 (f_X9_pack_L440 fu p0 p1 p2   n)  v1 v2 v5 v8 S
      else
        bnd (f_X9_put fu v8 (1 : Int32) S) fun r91 S92 =>
        if ((((256 : Int32) * v1) + v8) < 0 ∨ 1792 ≤ (((256 : Int32) * v1) + v8).toNatClampNeg) then none else
        bnd (f_X9_put fu (S92 47 (((256 : Int32) * v1) + v8).toNatClampNeg) (2 : Int32) S92) fun r95 S96 =>
        f_X9_pack_L492 fu p0 p1 p2 (f_X9_pack_L440 fu p0 p1 p2   n)  v1 v2 v5 v8 S96 := rfl
def f_X9_pack_L374 (fu : Nat) (p0 : Int32) (p1 : Int32) (p2 : Int32)   (v1 : Int32) (v2 : Int32) (v3 : Int32) (v5 : Int32) (v6 : Int32) (t0 : Int32) (t1 : Int32) (S : St) : Option (Int32 × St) :=
  pin ((t1 + t0) + (S 59 4)) fun x37 =>
  if x37 ≤ (4000 : Int32) then
    pin (puS S 43 3 (0 : Int32)) fun S39 =>
    bnd (f_X9_put fu (83 : Int32) (1 : Int32) S39) fun r40 S41 =>
    bnd (f_X9_put fu (((4 : Int32) * v2) + v3) (1 : Int32) S41) fun r43 S44 =>
    if (v1 < 0 ∨ 7 ≤ v1.toNatClampNeg) then none else
    bnd (f_X9_put fu (S44 46 v1.toNatClampNeg) (1 : Int32) S44) fun r47 S48 =>
    bnd (f_X9_put fu (v6 - (1 : Int32)) (1 : Int32) S48) fun r50 S51 =>
    f_X9_pack_L440 fu p0 p1 p2   fu v1 v2 v5 (0 : Int32) S51
  else
    some ((-4 : Int32), S)
def f_X9_pack_L339 (fu : Nat) (p0 : Int32) (p1 : Int32) (p2 : Int32) (K308 : Int32 → Int32 → Int32 → Int32 → Int32 → Int32 → St → Option (Int32 × St))  (v1 : Int32) (v2 : Int32) (v3 : Int32) (v5 : Int32) (v7 : Int32) (t0 : Int32) (t1 : Int32) (S : St) : Option (Int32 × St) :=
  pin (t1 + t0) fun x101 =>
  pin (v7 + (1 : Int32)) fun x102 =>
  K308 v1 v2 v3 v5 x101 x102 S
def f_X9_pack_L308 (fu : Nat) (p0 : Int32) (p1 : Int32) (p2 : Int32)   : Nat → Int32 → Int32 → Int32 → Int32 → Int32 → Int32 → St → Option (Int32 × St)
  | 0, _, _, _, _, _, _, _ => none
  | n + 1, v1, v2, v3, v5, v6, v7, S =>
    if (256 : Int32) ≤ v7 then
      if v2 = 0 then
        f_X9_pack_L374 fu p0 p1 p2   v1 v2 v3 v5 v6 (2 : Int32) ((8 : Int32) + ((3 : Int32) * v6)) S
      else
        if v2 = (1 : Int32) then
          f_X9_pack_L374 fu p0 p1 p2   v1 v2 v3 v5 v6 (4 : Int32) ((8 : Int32) + ((3 : Int32) * v6)) S
        else
          f_X9_pack_L374 fu p0 p1 p2   v1 v2 v3 v5 v6 (8 : Int32) ((8 : Int32) + ((3 : Int32) * v6)) S
    else
      if ((((256 : Int32) * v1) + v7) < 0 ∨ 1792 ≤ (((256 : Int32) * v1) + v7).toNatClampNeg) then none else
      if (S 47 (((256 : Int32) * v1) + v7).toNatClampNeg) ≤ 0 then
        f_X9_pack_L339 fu p0 p1 p2 (f_X9_pack_L308 fu p0 p1 p2   n)  v1 v2 v3 v5 v7 (0 : Int32) v6 S
      else
        f_X9_pack_L339 fu p0 p1 p2 (f_X9_pack_L308 fu p0 p1 p2   n)  v1 v2 v3 v5 v7 (1 : Int32) v6 S
theorem f_X9_pack_L308_s (fu : Nat) (p0 : Int32) (p1 : Int32) (p2 : Int32)   (n : Nat) (v1 : Int32) (v2 : Int32) (v3 : Int32) (v5 : Int32) (v6 : Int32) (v7 : Int32) (S : St) : f_X9_pack_L308 fu p0 p1 p2   (n + 1) v1 v2 v3 v5 v6 v7 S =
    if (256 : Int32) ≤ v7 then
      if v2 = 0 then
        f_X9_pack_L374 fu p0 p1 p2   v1 v2 v3 v5 v6 (2 : Int32) ((8 : Int32) + ((3 : Int32) * v6)) S
      else
        if v2 = (1 : Int32) then
          f_X9_pack_L374 fu p0 p1 p2   v1 v2 v3 v5 v6 (4 : Int32) ((8 : Int32) + ((3 : Int32) * v6)) S
        else
          f_X9_pack_L374 fu p0 p1 p2   v1 v2 v3 v5 v6 (8 : Int32) ((8 : Int32) + ((3 : Int32) * v6)) S
    else
      if ((((256 : Int32) * v1) + v7) < 0 ∨ 1792 ≤ (((256 : Int32) * v1) + v7).toNatClampNeg) then none else
      if (S 47 (((256 : Int32) * v1) + v7).toNatClampNeg) ≤ 0 then
        f_X9_pack_L339 fu p0 p1 p2 (f_X9_pack_L308 fu p0 p1 p2   n)  v1 v2 v3 v5 v7 (0 : Int32) v6 S
      else
        f_X9_pack_L339 fu p0 p1 p2 (f_X9_pack_L308 fu p0 p1 p2   n)  v1 v2 v3 v5 v7 (1 : Int32) v6 S := rfl
def f_X9_pack_L301 (fu : Nat) (p0 : Int32) (p1 : Int32) (p2 : Int32)   (v1 : Int32) (v2 : Int32) (v3 : Int32) (v5 : Int32) (t0 : Int32) (t1 : Int32) (S : St) : Option (Int32 × St) :=
  if (t1 < 0 ∨ 6 ≤ t1.toNatClampNeg) then none else
  pin (puS S 59 t1.toNatClampNeg t0) fun S32 =>
  f_X9_pack_L308 fu p0 p1 p2   fu v1 v2 v3 v5 (0 : Int32) (0 : Int32) S32
def f_X9_pack_L240 (fu : Nat) (p0 : Int32) (p1 : Int32) (p2 : Int32) (K92 : Int32 → Int32 → Int32 → Int32 → Int32 → St → Option (Int32 × St))  (v1 : Int32) (v2 : Int32) (v3 : Int32) (v5 : Int32) (v6 : Int32) (t0 : Int32) (t1 : Int32) (S : St) : Option (Int32 × St) :=
  if (t1 < 0 ∨ 6 ≤ t1.toNatClampNeg) then none else
  pin (puS S 59 t1.toNatClampNeg t0) fun S117 =>
  pin (v6 + (-1 : Int32)) fun x119 =>
  K92 v1 v2 v3 v5 x119 S117
def f_X9_pack_L148 (fu : Nat) (p0 : Int32) (p1 : Int32) (p2 : Int32) (K92 : Int32 → Int32 → Int32 → Int32 → Int32 → St → Option (Int32 × St))  : Nat → Int32 → Int32 → Int32 → Int32 → Int32 → Int32 → Int32 → Int32 → St → Option (Int32 × St)
  | 0, _, _, _, _, _, _, _, _, _ => none
  | n + 1, v1, v2, v3, v5, v6, v7, v8, v9, S =>
    if (S 43 20) ≤ v9 then
      bnd (f_X9_meets (S 43 22) S) fun r111 S112 =>
      if (v7 < 0 ∨ 2 ≤ v7.toNatClampNeg) then none else
      pin (puS S112 58 v7.toNatClampNeg (S112 43 22)) fun S114 =>
      if (S114 43 20) ≤ (S114 59 5) then
        f_X9_pack_L240 fu p0 p1 p2 K92  v1 v2 v3 v5 v6 (S114 59 5) (5 : Int32) S114
      else
        f_X9_pack_L240 fu p0 p1 p2 K92  v1 v2 v3 v5 v6 (S114 43 20) (5 : Int32) S114
    else
      pin (v5 + (-1 : Int32)) fun x120 =>
      if (x120 < 0 ∨ 17000 ≤ x120.toNatClampNeg) then none else
      pin (puS S 57 x120.toNatClampNeg (((S 43 21) >>> ((v8 * v9) &&& 31)) &&& (((1 : Int32) <<< (v8 &&& 31)) - (1 : Int32)))) fun S121 =>
      pin (v9 + (1 : Int32)) fun x123 =>
      f_X9_pack_L148 fu p0 p1 p2 K92  n v1 v2 v3 x120 v6 v7 v8 x123 S121
theorem f_X9_pack_L148_s (fu : Nat) (p0 : Int32) (p1 : Int32) (p2 : Int32) (K92 : Int32 → Int32 → Int32 → Int32 → Int32 → St → Option (Int32 × St))  (n : Nat) (v1 : Int32) (v2 : Int32) (v3 : Int32) (v5 : Int32) (v6 : Int32) (v7 : Int32) (v8 : Int32) (v9 : Int32) (S : St) : f_X9_pack_L148 fu p0 p1 p2 K92  (n + 1) v1 v2 v3 v5 v6 v7 v8 v9 S =
    if (S 43 20) ≤ v9 then
      bnd (f_X9_meets (S 43 22) S) fun r111 S112 =>
      if (v7 < 0 ∨ 2 ≤ v7.toNatClampNeg) then none else
      pin (puS S112 58 v7.toNatClampNeg (S112 43 22)) fun S114 =>
      if (S114 43 20) ≤ (S114 59 5) then
        f_X9_pack_L240 fu p0 p1 p2 K92  v1 v2 v3 v5 v6 (S114 59 5) (5 : Int32) S114
      else
        f_X9_pack_L240 fu p0 p1 p2 K92  v1 v2 v3 v5 v6 (S114 43 20) (5 : Int32) S114
    else
      pin (v5 + (-1 : Int32)) fun x120 =>
      if (x120 < 0 ∨ 17000 ≤ x120.toNatClampNeg) then none else
      pin (puS S 57 x120.toNatClampNeg (((S 43 21) >>> ((v8 * v9) &&& 31)) &&& (((1 : Int32) <<< (v8 &&& 31)) - (1 : Int32)))) fun S121 =>
      pin (v9 + (1 : Int32)) fun x123 =>
      f_X9_pack_L148 fu p0 p1 p2 K92  n v1 v2 v3 x120 v6 v7 v8 x123 S121 := rfl
def f_X9_pack_L143 (fu : Nat) (p0 : Int32) (p1 : Int32) (p2 : Int32) (K92 : Int32 → Int32 → Int32 → Int32 → Int32 → St → Option (Int32 × St))  (v1 : Int32) (v2 : Int32) (v3 : Int32) (v5 : Int32) (v6 : Int32) (v7 : Int32) (t0 : Int32) (S : St) : Option (Int32 × St) :=
  f_X9_pack_L148 fu p0 p1 p2 K92  fu v1 v2 v3 v5 v6 v7 t0 (0 : Int32) S
def f_X9_pack_L110 (fu : Nat) (p0 : Int32) (p1 : Int32) (p2 : Int32) (K92 : Int32 → Int32 → Int32 → Int32 → Int32 → St → Option (Int32 × St))  (v1 : Int32) (v2 : Int32) (v3 : Int32) (v5 : Int32) (v6 : Int32) (t0 : Int32) (S : St) : Option (Int32 × St) :=
  if (t0 < 0 ∨ 2 ≤ t0.toNatClampNeg) then none else
  if (v6 < 0 ∨ 4000 ≤ v6.toNatClampNeg) then none else
  bnd (f_X9_step fu v1 v2 v3 (S 58 t0.toNatClampNeg) (S 44 v6.toNatClampNeg) S) fun r106 S107 =>
  if v2 = 0 then
    f_X9_pack_L143 fu p0 p1 p2 K92  v1 v2 v3 v5 v6 t0 (1 : Int32) S107
  else
    f_X9_pack_L143 fu p0 p1 p2 K92  v1 v2 v3 v5 v6 t0 (8 : Int32) S107
def f_X9_pack_L92 (fu : Nat) (p0 : Int32) (p1 : Int32) (p2 : Int32)   : Nat → Int32 → Int32 → Int32 → Int32 → Int32 → St → Option (Int32 × St)
  | 0, _, _, _, _, _, _ => none
  | n + 1, v1, v2, v3, v5, v6, S =>
    if v6 < 0 then
      pin (puS S 59 2 (S 43 1)) fun S29 =>
      pin (puS S29 59 3 ((17000 : Int32) - v5)) fun S30 =>
      if v2 = 0 then
        f_X9_pack_L301 fu p0 p1 p2   v1 v2 v3 v5 (((S30 59 3) + (7 : Int32)) / (8 : Int32)) (4 : Int32) S30
      else
        f_X9_pack_L301 fu p0 p1 p2   v1 v2 v3 v5 (S30 59 3) (4 : Int32) S30
    else
      if v2 = (2 : Int32) then
        f_X9_pack_L110 fu p0 p1 p2 (f_X9_pack_L92 fu p0 p1 p2   n)  v1 v2 v3 v5 v6 (v6 - v6 / (2 : Int32) * (2 : Int32)) S
      else
        f_X9_pack_L110 fu p0 p1 p2 (f_X9_pack_L92 fu p0 p1 p2   n)  v1 v2 v3 v5 v6 (0 : Int32) S
theorem f_X9_pack_L92_s (fu : Nat) (p0 : Int32) (p1 : Int32) (p2 : Int32)   (n : Nat) (v1 : Int32) (v2 : Int32) (v3 : Int32) (v5 : Int32) (v6 : Int32) (S : St) : f_X9_pack_L92 fu p0 p1 p2   (n + 1) v1 v2 v3 v5 v6 S =
    if v6 < 0 then
      pin (puS S 59 2 (S 43 1)) fun S29 =>
      pin (puS S29 59 3 ((17000 : Int32) - v5)) fun S30 =>
      if v2 = 0 then
        f_X9_pack_L301 fu p0 p1 p2   v1 v2 v3 v5 (((S30 59 3) + (7 : Int32)) / (8 : Int32)) (4 : Int32) S30
      else
        f_X9_pack_L301 fu p0 p1 p2   v1 v2 v3 v5 (S30 59 3) (4 : Int32) S30
    else
      if v2 = (2 : Int32) then
        f_X9_pack_L110 fu p0 p1 p2 (f_X9_pack_L92 fu p0 p1 p2   n)  v1 v2 v3 v5 v6 (v6 - v6 / (2 : Int32) * (2 : Int32)) S
      else
        f_X9_pack_L110 fu p0 p1 p2 (f_X9_pack_L92 fu p0 p1 p2   n)  v1 v2 v3 v5 v6 (0 : Int32) S := rfl
def f_X9_pack (fu : Nat) (p0 : Int32) (p1 : Int32) (p2 : Int32) (S : St) : Option (Int32 × St) :=
  bnd (f_X9_isTable p0 S) fun r1 S2 =>
  if r1 = 0 then
    some ((-1 : Int32), S2)
  else
    bnd (f_X9_isWay p1 p2 S2) fun r5 S6 =>
    if r5 = 0 then
      some ((-1 : Int32), S6)
    else
      bnd (f_X9_refusal fu p0 S6) fun r9 S10 =>
      if 0 ≤ r9 then
        bnd (f_X9_lay fu p0 p2 S10) fun r13 S14 =>
        bnd (f_X9_meetsNone  S14) fun r16 S17 =>
        bnd (f_X9_firstOf p0 p1 S17) fun r19 S20 =>
        pin (puS S20 58 0 r19) fun S22 =>
        pin (puS S22 58 1 (S22 58 0)) fun S23 =>
        bnd (f_X9_meets (S23 58 0) S23) fun r24 S25 =>
        pin ((S25 43 1) - (1 : Int32)) fun x27 =>
        f_X9_pack_L92 fu p0 p1 p2   fu p0 p1 p2 (17000 : Int32) x27 S25
      else
        some (r9, S10)
def f_X9_place (fu : Nat) (p0 : Int32) (p1 : Int32) (p2 : Int32) (S : St) : Option (Int32 × St) :=
  bnd (f_X9_isPlace p0 p1 p2 S) fun r1 S2 =>
  if r1 = 0 then
    some ((-1 : Int32), S2)
  else
    bnd (f_X9_lay fu p0 p1 S2) fun r5 S6 =>
    if ((((4096 : Int32) * (((3 : Int32) * p0) + p1)) + p2) < 0 ∨ 86016 ≤ (((4096 : Int32) * (((3 : Int32) * p0) + p1)) + p2).toNatClampNeg) then none else
    some ((S6 50 (((4096 : Int32) * (((3 : Int32) * p0) + p1)) + p2).toNatClampNeg), S6)
def f_X9_rank (fu : Nat) (p0 : Int32) (p1 : Int32) (p2 : Int32) (S : St) : Option (Int32 × St) :=
  bnd (f_X9_isPlace p0 p1 p2 S) fun r1 S2 =>
  if r1 = 0 then
    some ((-1 : Int32), S2)
  else
    bnd (f_X9_lay fu p0 p1 S2) fun r5 S6 =>
    if ((((4096 : Int32) * (((3 : Int32) * p0) + p1)) + p2) < 0 ∨ 86016 ≤ (((4096 : Int32) * (((3 : Int32) * p0) + p1)) + p2).toNatClampNeg) then none else
    some ((S6 51 (((4096 : Int32) * (((3 : Int32) * p0) + p1)) + p2).toNatClampNeg), S6)
def f_X9_readsMessage_L407 (fu : Nat)    (v4 : Int32) (v5 : Int32) (S : St) : Option (Int32 × St) :=
  if (S 43 32) ≤ v5 then
    if (S 58 0) = v4 then
      if (S 43 28) = (2 : Int32) then
        if (S 58 1) = v4 then
          some ((1 : Int32), S)
        else
          bnd (f_X9_fails (7 : Int32) ((S 43 33) + (4 : Int32)) S) fun r18 S19 =>
          if (r18 = 0 ∨ r18 = 1) then some (r18, S19) else none
      else
        some ((1 : Int32), S)
    else
      bnd (f_X9_fails (7 : Int32) (S 43 33) S) fun r22 S23 =>
      if (r22 = 0 ∨ r22 = 1) then some (r22, S23) else none
  else
    bnd (f_X9_fails (6 : Int32) ((S 43 31) + v5) S) fun r26 S27 =>
    if (r26 = 0 ∨ r26 = 1) then some (r26, S27) else none
def f_X9_readsMessage_L347 (fu : Nat)    (v2 : Int32) (v4 : Int32) (t0 : Int32) (S : St) : Option (Int32 × St) :=
  if (S 43 28) = 0 then
    if (v2 - v2 / (8 : Int32) * (8 : Int32)) ≤ 0 then
      f_X9_readsMessage_L407 fu    v4 t0 S
    else
      if (((S 43 31) + t0) < 0 ∨ 4000 ≤ ((S 43 31) + t0).toNatClampNeg) then none else
      if ((S 44 ((S 43 31) + t0).toNatClampNeg) &&& (((1 : Int32) <<< (((8 : Int32) - (v2 - v2 / (8 : Int32) * (8 : Int32))) &&& 31)) - (1 : Int32))) = 0 then
        pin (t0 + (1 : Int32)) fun x33 =>
        f_X9_readsMessage_L407 fu    v4 x33 S
      else
        bnd (f_X9_fails (6 : Int32) ((S 43 31) + t0) S) fun r34 S35 =>
        if (r34 = 0 ∨ r34 = 1) then some (r34, S35) else none
  else
    f_X9_readsMessage_L407 fu    v4 t0 S
def f_X9_readsMessage_L305 (fu : Nat)    (v2 : Int32) (v4 : Int32) (S : St) : Option (Int32 × St) :=
  pin (puS S 59 2 (S 43 30)) fun S9 =>
  pin (puS S9 59 3 v2) fun S10 =>
  pin (puS S10 59 4 (S10 43 32)) fun S11 =>
  if (S11 43 28) = 0 then
    f_X9_readsMessage_L347 fu    v2 v4 (v2 / (8 : Int32)) S11
  else
    f_X9_readsMessage_L347 fu    v2 v4 v2 S11
def f_X9_readsMessage_L285 (fu : Nat)  (K56 : Int32 → Int32 → Int32 → Int32 → St → Option (Int32 × St))  (v2 : Int32) (v3 : Int32) (v4 : Int32) (v5 : Int32) (t0 : Int32) (t1 : Int32) (S : St) : Option (Int32 × St) :=
  if (t1 < 0 ∨ 6 ≤ t1.toNatClampNeg) then none else
  pin (puS S 59 t1.toNatClampNeg t0) fun S62 =>
  pin (v5 + (1 : Int32)) fun x64 =>
  K56 v2 v3 v4 x64 S62
def f_X9_readsMessage_L232 (fu : Nat)  (K148 : Int32 → Int32 → Int32 → Int32 → Int32 → Int32 → Int32 → St → Option (Int32 × St))  (v2 : Int32) (v3 : Int32) (v4 : Int32) (v5 : Int32) (v6 : Int32) (v9 : Int32) (t0 : Int32) (S : St) : Option (Int32 × St) :=
  pin (v2 + (1 : Int32)) fun x68 =>
  pin (v9 + (1 : Int32)) fun x69 =>
  K148 x68 v3 v4 v5 v6 t0 x69 S
def f_X9_readsMessage_L148 (fu : Nat)  (K56 : Int32 → Int32 → Int32 → Int32 → St → Option (Int32 × St))  : Nat → Int32 → Int32 → Int32 → Int32 → Int32 → Int32 → Int32 → St → Option (Int32 × St)
  | 0, _, _, _, _, _, _, _, _ => none
  | n + 1, v2, v3, v4, v5, v6, v7, v9, S =>
    if v4 ≤ v7 then
      bnd (f_X9_meets v7 S) fun r56 S57 =>
      if (v6 < 0 ∨ 2 ≤ v6.toNatClampNeg) then none else
      pin (puS S57 58 v6.toNatClampNeg v7) fun S59 =>
      if v9 ≤ (S59 59 5) then
        f_X9_readsMessage_L285 fu  K56  v2 v3 v4 v5 (S59 59 5) (5 : Int32) S59
      else
        f_X9_readsMessage_L285 fu  K56  v2 v3 v4 v5 v9 (5 : Int32) S59
    else
      if v2 = v3 then
        bnd (f_X9_fails (5 : Int32) ((S 43 31) + (S 43 32)) S) fun r71 S72 =>
        if (r71 = 0 ∨ r71 = 1) then some (r71, S72) else none
      else
        if (S 43 28) = 0 then
          if (((S 43 31) + (v2 / (8 : Int32))) < 0 ∨ 4000 ≤ ((S 43 31) + (v2 / (8 : Int32))).toNatClampNeg) then none else
          f_X9_readsMessage_L232 fu  (f_X9_readsMessage_L148 fu  K56  n)  v2 v3 v4 v5 v6 v9 (((2 : Int32) * v7) + (((S 44 ((S 43 31) + (v2 / (8 : Int32))).toNatClampNeg) >>> (((7 : Int32) - (v2 - v2 / (8 : Int32) * (8 : Int32))) &&& 31)) &&& (1 : Int32))) S
        else
          if (((S 43 31) + v2) < 0 ∨ 4000 ≤ ((S 43 31) + v2).toNatClampNeg) then none else
          f_X9_readsMessage_L232 fu  (f_X9_readsMessage_L148 fu  K56  n)  v2 v3 v4 v5 v6 v9 (((256 : Int32) * v7) + (S 44 ((S 43 31) + v2).toNatClampNeg)) S
theorem f_X9_readsMessage_L148_s (fu : Nat)  (K56 : Int32 → Int32 → Int32 → Int32 → St → Option (Int32 × St))  (n : Nat) (v2 : Int32) (v3 : Int32) (v4 : Int32) (v5 : Int32) (v6 : Int32) (v7 : Int32) (v9 : Int32) (S : St) : f_X9_readsMessage_L148 fu  K56  (n + 1) v2 v3 v4 v5 v6 v7 v9 S =
    if v4 ≤ v7 then
      bnd (f_X9_meets v7 S) fun r56 S57 =>
      if (v6 < 0 ∨ 2 ≤ v6.toNatClampNeg) then none else
      pin (puS S57 58 v6.toNatClampNeg v7) fun S59 =>
      if v9 ≤ (S59 59 5) then
        f_X9_readsMessage_L285 fu  K56  v2 v3 v4 v5 (S59 59 5) (5 : Int32) S59
      else
        f_X9_readsMessage_L285 fu  K56  v2 v3 v4 v5 v9 (5 : Int32) S59
    else
      if v2 = v3 then
        bnd (f_X9_fails (5 : Int32) ((S 43 31) + (S 43 32)) S) fun r71 S72 =>
        if (r71 = 0 ∨ r71 = 1) then some (r71, S72) else none
      else
        if (S 43 28) = 0 then
          if (((S 43 31) + (v2 / (8 : Int32))) < 0 ∨ 4000 ≤ ((S 43 31) + (v2 / (8 : Int32))).toNatClampNeg) then none else
          f_X9_readsMessage_L232 fu  (f_X9_readsMessage_L148 fu  K56  n)  v2 v3 v4 v5 v6 v9 (((2 : Int32) * v7) + (((S 44 ((S 43 31) + (v2 / (8 : Int32))).toNatClampNeg) >>> (((7 : Int32) - (v2 - v2 / (8 : Int32) * (8 : Int32))) &&& 31)) &&& (1 : Int32))) S
        else
          if (((S 43 31) + v2) < 0 ∨ 4000 ≤ ((S 43 31) + v2).toNatClampNeg) then none else
          f_X9_readsMessage_L232 fu  (f_X9_readsMessage_L148 fu  K56  n)  v2 v3 v4 v5 v6 v9 (((256 : Int32) * v7) + (S 44 ((S 43 31) + v2).toNatClampNeg)) S := rfl
def f_X9_readsMessage_L81 (fu : Nat)  (K56 : Int32 → Int32 → Int32 → Int32 → St → Option (Int32 × St))  (v2 : Int32) (v3 : Int32) (v4 : Int32) (v5 : Int32) (t0 : Int32) (S : St) : Option (Int32 × St) :=
  if (t0 < 0 ∨ 2 ≤ t0.toNatClampNeg) then none else
  pin (S 58 t0.toNatClampNeg) fun x43 =>
  bnd (f_X9_meets x43 S) fun r44 S45 =>
  bnd (f_X9_told fu (6 : Int32) (S45 43 28) (S45 43 29) x43 S45) fun r47 S48 =>
  if (v5 < 0 ∨ 1400 ≤ v5.toNatClampNeg) then none else
  pin (puS S48 61 v5.toNatClampNeg r47) fun S50 =>
  bnd (f_X9_behind (6 : Int32) (S50 43 28) (S50 43 29) x43 r47 S50) fun r52 S53 =>
  f_X9_readsMessage_L148 fu  K56  fu v2 v3 v4 v5 t0 r52 (0 : Int32) S53
def f_X9_readsMessage_L56 (fu : Nat)    : Nat → Int32 → Int32 → Int32 → Int32 → St → Option (Int32 × St)
  | 0, _, _, _, _, _ => none
  | n + 1, v2, v3, v4, v5, S =>
    if (S 43 30) ≤ v5 then
      if (S 43 30) = 0 then
        bnd (f_X9_meets v4 S) fun r38 S39 =>
        f_X9_readsMessage_L305 fu    v2 v4 S39
      else
        f_X9_readsMessage_L305 fu    v2 v4 S
    else
      if (S 43 28) = (2 : Int32) then
        f_X9_readsMessage_L81 fu  (f_X9_readsMessage_L56 fu    n)  v2 v3 v4 v5 (v5 - v5 / (2 : Int32) * (2 : Int32)) S
      else
        f_X9_readsMessage_L81 fu  (f_X9_readsMessage_L56 fu    n)  v2 v3 v4 v5 (0 : Int32) S
theorem f_X9_readsMessage_L56_s (fu : Nat)    (n : Nat) (v2 : Int32) (v3 : Int32) (v4 : Int32) (v5 : Int32) (S : St) : f_X9_readsMessage_L56 fu    (n + 1) v2 v3 v4 v5 S =
    if (S 43 30) ≤ v5 then
      if (S 43 30) = 0 then
        bnd (f_X9_meets v4 S) fun r38 S39 =>
        f_X9_readsMessage_L305 fu    v2 v4 S39
      else
        f_X9_readsMessage_L305 fu    v2 v4 S
    else
      if (S 43 28) = (2 : Int32) then
        f_X9_readsMessage_L81 fu  (f_X9_readsMessage_L56 fu    n)  v2 v3 v4 v5 (v5 - v5 / (2 : Int32) * (2 : Int32)) S
      else
        f_X9_readsMessage_L81 fu  (f_X9_readsMessage_L56 fu    n)  v2 v3 v4 v5 (0 : Int32) S := rfl
def f_X9_readsMessage_L47 (fu : Nat)    (v2 : Int32) (v3 : Int32) (t0 : Int32) (S : St) : Option (Int32 × St) :=
  bnd (f_X9_meetsNone  S) fun r4 S5 =>
  f_X9_readsMessage_L56 fu    fu v2 v3 t0 (0 : Int32) S5
def f_X9_readsMessage_L33 (fu : Nat)    (v1 : Int32) (v2 : Int32) (t0 : Int32) (S : St) : Option (Int32 × St) :=
  if (S 43 28) = 0 then
    f_X9_readsMessage_L47 fu    v2 t0 v1 S
  else
    f_X9_readsMessage_L47 fu    v2 t0 (8388608 : Int32) S
def f_X9_readsMessage (fu : Nat)  (S : St) : Option (Int32 × St) :=
  pin ((1 : Int32) <<< ((S 46 6) &&& 31)) fun x1 =>
  if (S 43 28) = 0 then
    f_X9_readsMessage_L33 fu    x1 (0 : Int32) ((8 : Int32) * (S 43 32)) S
  else
    f_X9_readsMessage_L33 fu    x1 (0 : Int32) (S 43 32) S
def f_X9_readsShares_L151 (fu : Nat)    (v7 : Int32) (S : St) : Option (Int32 × St) :=
  bnd (f_X9_fails (2 : Int32) v7 S) fun r27 S28 =>
  if (r27 = 0 ∨ r27 = 1) then some (r27, S28) else none
def f_X9_readsShares_L71 (fu : Nat)    : Nat → Int32 → Int32 → Int32 → Int32 → Int32 → Int32 → St → Option (Int32 × St)
  | 0, _, _, _, _, _, _, _ => none
  | n + 1, v1, v4, v5, v6, v7, v8, S =>
    if v4 ≤ v8 then
      if v6 = v1 then
        some ((1 : Int32), S)
      else
        bnd (f_X9_fails (3 : Int32) v7 S) fun r10 S11 =>
        if r10 = 0 then
          some ((0 : Int32), S11)
        else
          some ((1 : Int32), S11)
    else
      pin (S 43 27) fun x14 =>
      bnd (f_X9_number fu (1 : Int32) S) fun r15 S16 =>
      if 0 ≤ (lg_cmp r15 (0 : Int64)) then
        if 0 < (lg_cmp r15 ((v5).toInt64)) then
          pin ((r15).toInt32) fun x20 =>
          pin (S16 43 27) fun x21 =>
          bnd (f_X9_number fu (2 : Int32) S16) fun r22 S23 =>
          if 0 ≤ (lg_cmp r22 (0 : Int64)) then
            if (lg_cmp r22 (1 : Int64)) < 0 then
              f_X9_readsShares_L151 fu    x21 S23
            else
              if (lg_cmp r22 ((v1).toInt64)) ≤ 0 then
                if (((1536 : Int32) + x20) < 0 ∨ 1792 ≤ ((1536 : Int32) + x20).toNatClampNeg) then none else
                pin (puS S23 47 ((1536 : Int32) + x20).toNatClampNeg ((r22).toInt32)) fun S32 =>
                pin (v6 + ((r22).toInt32)) fun x34 =>
                pin (v8 + (1 : Int32)) fun x35 =>
                f_X9_readsShares_L71 fu    n v1 v4 x20 x34 x21 x35 S32
              else
                f_X9_readsShares_L151 fu    x21 S23
          else
            some ((0 : Int32), S23)
        else
          bnd (f_X9_fails (2 : Int32) x14 S16) fun r36 S37 =>
          if (r36 = 0 ∨ r36 = 1) then some (r36, S37) else none
      else
        some ((0 : Int32), S16)
theorem f_X9_readsShares_L71_s (fu : Nat)    (n : Nat) (v1 : Int32) (v4 : Int32) (v5 : Int32) (v6 : Int32) (v7 : Int32) (v8 : Int32) (S : St) : f_X9_readsShares_L71 fu    (n + 1) v1 v4 v5 v6 v7 v8 S =
    if v4 ≤ v8 then
      if v6 = v1 then
        some ((1 : Int32), S)
      else
        bnd (f_X9_fails (3 : Int32) v7 S) fun r10 S11 =>
        if r10 = 0 then
          some ((0 : Int32), S11)
        else
          some ((1 : Int32), S11)
    else
      pin (S 43 27) fun x14 =>
      bnd (f_X9_number fu (1 : Int32) S) fun r15 S16 =>
      if 0 ≤ (lg_cmp r15 (0 : Int64)) then
        if 0 < (lg_cmp r15 ((v5).toInt64)) then
          pin ((r15).toInt32) fun x20 =>
          pin (S16 43 27) fun x21 =>
          bnd (f_X9_number fu (2 : Int32) S16) fun r22 S23 =>
          if 0 ≤ (lg_cmp r22 (0 : Int64)) then
            if (lg_cmp r22 (1 : Int64)) < 0 then
              f_X9_readsShares_L151 fu    x21 S23
            else
              if (lg_cmp r22 ((v1).toInt64)) ≤ 0 then
                if (((1536 : Int32) + x20) < 0 ∨ 1792 ≤ ((1536 : Int32) + x20).toNatClampNeg) then none else
                pin (puS S23 47 ((1536 : Int32) + x20).toNatClampNeg ((r22).toInt32)) fun S32 =>
                pin (v6 + ((r22).toInt32)) fun x34 =>
                pin (v8 + (1 : Int32)) fun x35 =>
                f_X9_readsShares_L71 fu    n v1 v4 x20 x34 x21 x35 S32
              else
                f_X9_readsShares_L151 fu    x21 S23
          else
            some ((0 : Int32), S23)
        else
          bnd (f_X9_fails (2 : Int32) x14 S16) fun r36 S37 =>
          if (r36 = 0 ∨ r36 = 1) then some (r36, S37) else none
      else
        some ((0 : Int32), S16) := rfl
def f_X9_readsShares_L33 (fu : Nat)    : Nat → Int32 → Int32 → Int32 → St → Option (Int32 × St)
  | 0, _, _, _, _ => none
  | n + 1, v1, v4, v5, S =>
    if (256 : Int32) ≤ v5 then
      f_X9_readsShares_L71 fu    fu v1 v4 (-1 : Int32) (0 : Int32) (0 : Int32) (0 : Int32) S
    else
      if (((1536 : Int32) + v5) < 0 ∨ 1792 ≤ ((1536 : Int32) + v5).toNatClampNeg) then none else
      pin (puS S 47 ((1536 : Int32) + v5).toNatClampNeg (0 : Int32)) fun S40 =>
      pin (v5 + (1 : Int32)) fun x42 =>
      f_X9_readsShares_L33 fu    n v1 v4 x42 S40
theorem f_X9_readsShares_L33_s (fu : Nat)    (n : Nat) (v1 : Int32) (v4 : Int32) (v5 : Int32) (S : St) : f_X9_readsShares_L33 fu    (n + 1) v1 v4 v5 S =
    if (256 : Int32) ≤ v5 then
      f_X9_readsShares_L71 fu    fu v1 v4 (-1 : Int32) (0 : Int32) (0 : Int32) (0 : Int32) S
    else
      if (((1536 : Int32) + v5) < 0 ∨ 1792 ≤ ((1536 : Int32) + v5).toNatClampNeg) then none else
      pin (puS S 47 ((1536 : Int32) + v5).toNatClampNeg (0 : Int32)) fun S40 =>
      pin (v5 + (1 : Int32)) fun x42 =>
      f_X9_readsShares_L33 fu    n v1 v4 x42 S40 := rfl
def f_X9_readsShares (fu : Nat)  (S : St) : Option (Int32 × St) :=
  pin ((1 : Int32) <<< ((S 46 6) &&& 31)) fun x1 =>
  bnd (f_X9_number fu (1 : Int32) S) fun r2 S3 =>
  if 0 ≤ (lg_cmp r2 (0 : Int64)) then
    pin (((r2).toInt32) + (1 : Int32)) fun x6 =>
    f_X9_readsShares_L33 fu    fu x1 x6 (0 : Int32) S3
  else
    some ((0 : Int32), S3)
def f_X9_reads_L113 (fu : Nat)     (S : St) : Option (Int32 × St) :=
  bnd (f_X9_fails (2 : Int32) (2 : Int32) S) fun r22 S23 =>
  if (r22 = 0 ∨ r22 = 1) then some (r22, S23) else none
def f_X9_reads_L297 (fu : Nat)    (v3 : Int32) (S : St) : Option (Int32 × St) :=
  bnd (f_X9_fails (4 : Int32) v3 S) fun r76 S77 =>
  if (r76 = 0 ∨ r76 = 1) then some (r76, S77) else none
def f_X9_reads_L334 (fu : Nat)  (K209 : Int32 → St → Option (Int32 × St))  (v4 : Int32) (t0 : Int32) (t1 : Int32) (S : St) : Option (Int32 × St) :=
  if (t1 < 0 ∨ 2 ≤ t1.toNatClampNeg) then none else
  pin (puS S 58 t1.toNatClampNeg t0) fun S82 =>
  pin (v4 + (1 : Int32)) fun x84 =>
  K209 x84 S82
def f_X9_reads_L304 (fu : Nat)  (K209 : Int32 → St → Option (Int32 × St))  (v1 : Int64) (v4 : Int32) (S : St) : Option (Int32 × St) :=
  if (S 43 28) = 0 then
    f_X9_reads_L334 fu  K209  v4 (((v1).toInt32) + ((1 : Int32) <<< ((S 46 6) &&& 31))) v4 S
  else
    f_X9_reads_L334 fu  K209  v4 ((v1).toInt32) v4 S
def f_X9_reads_L245 (fu : Nat)  (K209 : Int32 → St → Option (Int32 × St))  (v3 : Int32) (v4 : Int32) (t0 : Int32) (S : St) : Option (Int32 × St) :=
  bnd (f_X9_number fu t0 S) fun r70 S71 =>
  if 0 ≤ (lg_cmp r70 (0 : Int64)) then
    if (S71 43 28) = 0 then
      if (lg_cmp r70 ((1 : Int64) <<< (((S71 46 6)).toInt64 &&& 63))) < 0 then
        f_X9_reads_L304 fu  K209  r70 v4 S71
      else
        f_X9_reads_L297 fu    v3 S71
    else
      if (lg_cmp r70 (8388608 : Int64)) < 0 then
        f_X9_reads_L297 fu    v3 S71
      else
        if (lg_cmp r70 (2147483647 : Int64)) ≤ 0 then
          f_X9_reads_L304 fu  K209  r70 v4 S71
        else
          f_X9_reads_L297 fu    v3 S71
  else
    some ((0 : Int32), S71)
def f_X9_reads_L224 (fu : Nat)  (K209 : Int32 → St → Option (Int32 × St))  (v4 : Int32) (t0 : Int32) (t1 : Int32) (S : St) : Option (Int32 × St) :=
  if t0 ≤ t1 then
    pin (puS S 43 31 (S 43 27)) fun S47 =>
    if ((S47 43 27) + (S47 43 32)) ≤ (S47 43 1) then
      if (S47 43 1) ≤ ((S47 43 27) + (S47 43 32)) then
        bnd (f_X9_begin fu (6 : Int32) S47) fun r50 S51 =>
        bnd (f_X9_lay fu (6 : Int32) (S51 43 29) S51) fun r53 S54 =>
        bnd (f_X9_readsMessage fu  S54) fun r56 S57 =>
        if (r56 = 0 ∨ r56 = 1) then some (r56, S57) else none
      else
        bnd (f_X9_fails (8 : Int32) ((S47 43 27) + (S47 43 32)) S47) fun r60 S61 =>
        if (r60 = 0 ∨ r60 = 1) then some (r60, S61) else none
    else
      bnd (f_X9_fails (1 : Int32) (S47 43 1) S47) fun r64 S65 =>
      if (r64 = 0 ∨ r64 = 1) then some (r64, S65) else none
  else
    pin (S 43 27) fun x68 =>
    if (S 43 28) = 0 then
      f_X9_reads_L245 fu  K209  x68 v4 (2 : Int32) S
    else
      f_X9_reads_L245 fu  K209  x68 v4 (4 : Int32) S
def f_X9_reads_L209 (fu : Nat)    : Nat → Int32 → St → Option (Int32 × St)
  | 0, _, _ => none
  | n + 1, v4, S =>
    if (S 43 28) = (2 : Int32) then
      f_X9_reads_L224 fu  (f_X9_reads_L209 fu    n)  v4 (2 : Int32) v4 S
    else
      f_X9_reads_L224 fu  (f_X9_reads_L209 fu    n)  v4 (1 : Int32) v4 S
theorem f_X9_reads_L209_s (fu : Nat)    (n : Nat) (v4 : Int32) (S : St) : f_X9_reads_L209 fu    (n + 1) v4 S =
    if (S 43 28) = (2 : Int32) then
      f_X9_reads_L224 fu  (f_X9_reads_L209 fu    n)  v4 (2 : Int32) v4 S
    else
      f_X9_reads_L224 fu  (f_X9_reads_L209 fu    n)  v4 (1 : Int32) v4 S := rfl
def f_X9_reads (fu : Nat)  (S : St) : Option (Int32 × St) :=
  pin (puS S 43 27 (0 : Int32)) fun S1 =>
  bnd (f_X9_number fu (1 : Int32) S1) fun r2 S3 =>
  if 0 ≤ (lg_cmp r2 (0 : Int64)) then
    if (lg_cmp r2 (83 : Int64)) = 0 then
      bnd (f_X9_number fu (1 : Int32) S3) fun r7 S8 =>
      if 0 ≤ (lg_cmp r7 (0 : Int64)) then
        pin (puS S8 43 28 (((r7).toInt32) / (4 : Int32))) fun S11 =>
        pin (puS S11 43 29 (((r7).toInt32) - ((r7).toInt32) / (4 : Int32) * (4 : Int32))) fun S12 =>
        bnd (f_X9_isWay (S12 43 28) (S12 43 29) S12) fun r13 S14 =>
        if r13 = 0 then
          bnd (f_X9_fails (2 : Int32) (1 : Int32) S14) fun r90 S91 =>
          if (r90 = 0 ∨ r90 = 1) then some (r90, S91) else none
        else
          bnd (f_X9_number fu (1 : Int32) S14) fun r17 S18 =>
          if 0 ≤ (lg_cmp r17 (0 : Int64)) then
            if (lg_cmp r17 (1 : Int64)) < 0 then
              f_X9_reads_L113 fu     S18
            else
              if (lg_cmp r17 (12 : Int64)) ≤ 0 then
                pin (puS S18 46 6 ((r17).toInt32)) fun S27 =>
                bnd (f_X9_readsShares fu  S27) fun r28 S29 =>
                if r28 = 0 then
                  some ((0 : Int32), S29)
                else
                  pin (S29 43 27) fun x32 =>
                  bnd (f_X9_number fu (2 : Int32) S29) fun r33 S34 =>
                  if 0 ≤ (lg_cmp r33 (0 : Int64)) then
                    if (lg_cmp r33 (1400 : Int64)) ≤ 0 then
                      pin (puS S34 43 30 ((r33).toInt32)) fun S38 =>
                      bnd (f_X9_number fu (2 : Int32) S38) fun r39 S40 =>
                      if 0 ≤ (lg_cmp r39 (0 : Int64)) then
                        pin (puS S40 43 32 ((r39).toInt32)) fun S43 =>
                        pin (puS S43 43 33 (S43 43 27)) fun S44 =>
                        f_X9_reads_L209 fu    fu (0 : Int32) S44
                      else
                        some ((0 : Int32), S40)
                    else
                      bnd (f_X9_fails (2 : Int32) x32 S34) fun r86 S87 =>
                      if (r86 = 0 ∨ r86 = 1) then some (r86, S87) else none
                  else
                    some ((0 : Int32), S34)
              else
                f_X9_reads_L113 fu     S18
          else
            some ((0 : Int32), S18)
      else
        some ((0 : Int32), S8)
    else
      bnd (f_X9_fails (2 : Int32) (0 : Int32) S3) fun r94 S95 =>
      if (r94 = 0 ∨ r94 = 1) then some (r94, S95) else none
  else
    some ((0 : Int32), S3)
def f_X9_share (p0 : Int32) (p1 : Int32) (S : St) : Option (Int32 × St) :=
  bnd (f_X9_isTable p0 S) fun r1 S2 =>
  if r1 = 0 then
    some ((-1 : Int32), S2)
  else
    if p1 < 0 then
      some ((-1 : Int32), S2)
    else
      if (256 : Int32) ≤ p1 then
        some ((-1 : Int32), S2)
      else
        if ((((256 : Int32) * p0) + p1) < 0 ∨ 1792 ≤ (((256 : Int32) * p0) + p1).toNatClampNeg) then none else
        some ((S2 47 (((256 : Int32) * p0) + p1).toNatClampNeg), S2)
def f_X9_start (p0 : Int32) (p1 : Int32) (S : St) : Option (Int32 × St) :=
  bnd (f_X9_isTable p0 S) fun r1 S2 =>
  if r1 = 0 then
    some ((-1 : Int32), S2)
  else
    if p1 < 0 then
      some ((-1 : Int32), S2)
    else
      if (256 : Int32) ≤ p1 then
        some ((-1 : Int32), S2)
      else
        if ((((256 : Int32) * p0) + p1) < 0 ∨ 1792 ≤ (((256 : Int32) * p0) + p1).toNatClampNeg) then none else
        some ((S2 48 (((256 : Int32) * p0) + p1).toNatClampNeg), S2)
def f_X9_symbol (fu : Nat) (p0 : Int32) (p1 : Int32) (p2 : Int32) (p3 : Int32) (S : St) : Option (Int32 × St) :=
  bnd (f_X9_isAsked fu p0 p1 p2 p3 S) fun r1 S2 =>
  if r1 = 0 then
    some ((-1 : Int32), S2)
  else
    bnd (f_X9_told fu p0 p1 p2 p3 S2) fun r5 S6 =>
    some (r5, S6)
def f_X9_take_L2 (fu : Nat)    : Nat → Int32 → St → Option (Int32 × St)
  | 0, _, _ => none
  | n + 1, v1, S =>
    if (S 43 3) ≤ v1 then
      pin (puS S 43 1 (S 43 3)) fun S2 =>
      some ((S2 43 1), S2)
    else
      if (v1 < 0 ∨ 4000 ≤ v1.toNatClampNeg) then none else
      if (v1 < 0 ∨ 4000 ≤ v1.toNatClampNeg) then none else
      pin (puS S 44 v1.toNatClampNeg (S 45 v1.toNatClampNeg)) fun S4 =>
      pin (v1 + (1 : Int32)) fun x6 =>
      f_X9_take_L2 fu    n x6 S4
theorem f_X9_take_L2_s (fu : Nat)    (n : Nat) (v1 : Int32) (S : St) : f_X9_take_L2 fu    (n + 1) v1 S =
    if (S 43 3) ≤ v1 then
      pin (puS S 43 1 (S 43 3)) fun S2 =>
      some ((S2 43 1), S2)
    else
      if (v1 < 0 ∨ 4000 ≤ v1.toNatClampNeg) then none else
      if (v1 < 0 ∨ 4000 ≤ v1.toNatClampNeg) then none else
      pin (puS S 44 v1.toNatClampNeg (S 45 v1.toNatClampNeg)) fun S4 =>
      pin (v1 + (1 : Int32)) fun x6 =>
      f_X9_take_L2 fu    n x6 S4 := rfl
def f_X9_take (fu : Nat)  (S : St) : Option (Int32 × St) :=
  f_X9_take_L2 fu    fu (0 : Int32) S
def f_X9_unpack_L94 (fu : Nat) (p0 : Int32)   : Nat → Int32 → St → Option (Int32 × St)
  | 0, _, _ => none
  | n + 1, v3, S =>
    if (S 43 30) ≤ v3 then
      pin (puS S 43 3 (S 43 30)) fun S17 =>
      bnd (f_X9_tells fu  S17) fun r18 S19 =>
      some ((S19 43 30), S19)
    else
      if (v3 < 0 ∨ 1400 ≤ v3.toNatClampNeg) then none else
      if (v3 < 0 ∨ 4000 ≤ v3.toNatClampNeg) then none else
      pin (puS S 45 v3.toNatClampNeg (S 61 v3.toNatClampNeg)) fun S22 =>
      pin (v3 + (1 : Int32)) fun x24 =>
      f_X9_unpack_L94 fu p0   n x24 S22
theorem f_X9_unpack_L94_s (fu : Nat) (p0 : Int32)   (n : Nat) (v3 : Int32) (S : St) : f_X9_unpack_L94 fu p0   (n + 1) v3 S =
    if (S 43 30) ≤ v3 then
      pin (puS S 43 3 (S 43 30)) fun S17 =>
      bnd (f_X9_tells fu  S17) fun r18 S19 =>
      some ((S19 43 30), S19)
    else
      if (v3 < 0 ∨ 1400 ≤ v3.toNatClampNeg) then none else
      if (v3 < 0 ∨ 4000 ≤ v3.toNatClampNeg) then none else
      pin (puS S 45 v3.toNatClampNeg (S 61 v3.toNatClampNeg)) fun S22 =>
      pin (v3 + (1 : Int32)) fun x24 =>
      f_X9_unpack_L94 fu p0   n x24 S22 := rfl
def f_X9_unpack_L52 (fu : Nat) (p0 : Int32)   : Nat → Int32 → Int32 → St → Option (Int32 × St)
  | 0, _, _, _ => none
  | n + 1, v1, v3, S =>
    if (256 : Int32) ≤ v3 then
      bnd (f_X9_begin fu v1 S) fun r13 S14 =>
      f_X9_unpack_L94 fu p0   fu (0 : Int32) S14
    else
      if (((1536 : Int32) + v3) < 0 ∨ 1792 ≤ ((1536 : Int32) + v3).toNatClampNeg) then none else
      if ((((256 : Int32) * v1) + v3) < 0 ∨ 1792 ≤ (((256 : Int32) * v1) + v3).toNatClampNeg) then none else
      pin (puS S 47 (((256 : Int32) * v1) + v3).toNatClampNeg (S 47 ((1536 : Int32) + v3).toNatClampNeg)) fun S26 =>
      pin (v3 + (1 : Int32)) fun x28 =>
      f_X9_unpack_L52 fu p0   n v1 x28 S26
theorem f_X9_unpack_L52_s (fu : Nat) (p0 : Int32)   (n : Nat) (v1 : Int32) (v3 : Int32) (S : St) : f_X9_unpack_L52 fu p0   (n + 1) v1 v3 S =
    if (256 : Int32) ≤ v3 then
      bnd (f_X9_begin fu v1 S) fun r13 S14 =>
      f_X9_unpack_L94 fu p0   fu (0 : Int32) S14
    else
      if (((1536 : Int32) + v3) < 0 ∨ 1792 ≤ ((1536 : Int32) + v3).toNatClampNeg) then none else
      if ((((256 : Int32) * v1) + v3) < 0 ∨ 1792 ≤ (((256 : Int32) * v1) + v3).toNatClampNeg) then none else
      pin (puS S 47 (((256 : Int32) * v1) + v3).toNatClampNeg (S 47 ((1536 : Int32) + v3).toNatClampNeg)) fun S26 =>
      pin (v3 + (1 : Int32)) fun x28 =>
      f_X9_unpack_L52 fu p0   n v1 x28 S26 := rfl
def f_X9_unpack (fu : Nat) (p0 : Int32) (S : St) : Option (Int32 × St) :=
  if p0 < 0 then
    some ((-1 : Int32), S)
  else
    if p0 ≤ (5 : Int32) then
      pin (puS S 43 16 (0 : Int32)) fun S3 =>
      pin (puS S3 43 17 (-1 : Int32)) fun S4 =>
      bnd (f_X9_reads fu  S4) fun r5 S6 =>
      pin (puS S6 43 1 (0 : Int32)) fun S8 =>
      if r5 = 0 then
        some ((-1 : Int32), S8)
      else
        if (p0 < 0 ∨ 7 ≤ p0.toNatClampNeg) then none else
        pin (puS S8 46 p0.toNatClampNeg (S8 46 6)) fun S10 =>
        f_X9_unpack_L52 fu p0   fu p0 (0 : Int32) S10
    else
      some ((-1 : Int32), S)
def f_X9_written (p0 : Int32) (S : St) : Option (Int32 × St) :=
  if p0 < 0 then
    some ((-1 : Int32), S)
  else
    if p0 < (S 43 3) then
      if (p0 < 0 ∨ 4000 ≤ p0.toNatClampNeg) then none else
      some ((S 45 p0.toNatClampNeg), S)
    else
      some ((-1 : Int32), S)
