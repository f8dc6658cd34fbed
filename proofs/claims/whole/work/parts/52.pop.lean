/-! the count of bits -/
def pop (t : Nat) : Nat := fb_ct t.testBit 64
def p8 (t : Nat) : Nat := fb_ct t.testBit 8
def hA (t m : Nat) : Nat := t - ((t / 2 ^ 1) &&& m)
def hB (t m : Nat) : Nat := (t &&& m) + ((t / 2 ^ 2) &&& m)
def hC (t m : Nat) : Nat := (t + t / 2 ^ 4) &&& m
theorem byte_ok : ∀ t, t < 256 → ((t / 2 ^ 1) &&& 85) ≤ t ∧ hA t 85 < 256 ∧ hB (hA t 85) 51 < 256 ∧ (hA t 85 &&& 51) + ((hA t 85 / 2 ^ 2) &&& 51) < 256 ∧ hB (hA t 85) 51 + hB (hA t 85) 51 / 16 < 256 ∧ hC (hB (hA t 85) 51) 15 = p8 t ∧ p8 t ≤ 8 := by decide +kernel
theorem tb8 {t T i : Nat} (ht : t < 256) : (t + 256 * T).testBit i = if i < 8 then t.testBit i else T.testBit (i - 8) := by
  rw [show t + 256 * T = 2 ^ 8 * T + t by omega, Nat.testBit_two_pow_mul_add T ht]
theorem and8 {t T m M : Nat} (ht : t < 256) (hm : m < 256) : (t + 256 * T) &&& (m + 256 * M) = (t &&& m) + 256 * (T &&& M) := by
  have h : t &&& m < 256 := Nat.lt_of_le_of_lt Nat.and_le_left ht
  apply Nat.eq_of_testBit_eq
  intro i
  rw [Nat.testBit_and, tb8 ht, tb8 hm, tb8 h]
  by_cases e : i < 8
  · rw [if_pos e, if_pos e, if_pos e, Nat.testBit_and]
  · rw [if_neg e, if_neg e, if_neg e, Nat.testBit_and]
/-- a mask that leaves the top bits of each byte out does not see what is shifted in -/
theorem shand8 {t T m M k : Nat} (ht : t < 256) (hm : m < 256) (hk : ∀ i, 8 ≤ i + k → i < 8 → m.testBit i = false) : ((t + 256 * T) / 2 ^ k) &&& (m + 256 * M) = ((t / 2 ^ k) &&& m) + 256 * ((T / 2 ^ k) &&& M) := by
  have h : (t / 2 ^ k) &&& m < 256 := Nat.lt_of_le_of_lt Nat.and_le_right hm
  apply Nat.eq_of_testBit_eq
  intro i
  rw [Nat.testBit_and, Nat.testBit_div_two_pow, tb8 ht, tb8 hm, tb8 h]
  by_cases e : i < 8
  · rw [if_pos e, if_pos e, Nat.testBit_and, Nat.testBit_div_two_pow]
    by_cases e2 : i + k < 8
    · rw [if_pos e2]
    · rw [hk i (by omega) e, Bool.and_false, Bool.and_false]
  · rw [if_neg e, if_neg e, if_neg (by omega), Nat.testBit_and, Nat.testBit_div_two_pow, show i + k - 8 = i - 8 + k by omega]
theorem m85 : ∀ i, 8 ≤ i + 1 → i < 8 → Nat.testBit 85 i = false := fun i h1 h2 => by
  obtain rfl : i = 7 := by omega
  decide
theorem m51 : ∀ i, 8 ≤ i + 2 → i < 8 → Nat.testBit 51 i = false := fun i h1 h2 => by
  rcases (show i = 6 ∨ i = 7 by omega) with rfl | rfl <;> decide
theorem m15 : ∀ i, 8 ≤ i + 4 → i < 8 → Nat.testBit 15 i = false := fun i h1 h2 => by
  rcases (show i = 4 ∨ i = 5 ∨ i = 6 ∨ i = 7 by omega) with rfl | rfl | rfl | rfl <;> decide
theorem hA8 {t T M : Nat} (ht : t < 256) (hT : ((T / 2 ^ 1) &&& M) ≤ T) : hA (t + 256 * T) (85 + 256 * M) = hA t 85 + 256 * hA T M ∧ (((t + 256 * T) / 2 ^ 1) &&& (85 + 256 * M)) ≤ t + 256 * T := by
  have h1 := (byte_ok t ht).1
  unfold hA
  rw [shand8 ht (by omega) m85]
  omega
theorem hB8 {t T M : Nat} (ht : t < 256) : hB (t + 256 * T) (51 + 256 * M) = hB t 51 + 256 * hB T M := by
  unfold hB
  rw [and8 ht (by omega), shand8 ht (by omega) m51]
  omega
theorem hC8 {t T M : Nat} (h : t + t / 16 + 16 * (T % 16) < 256) : hC (t + 256 * T) (15 + 256 * M) = hC t 15 + 256 * hC T M := by
  have key : (t + 256 * T) + (t + 256 * T) / 2 ^ 4 = (t + t / 16 + 16 * (T % 16)) + 256 * (T + T / 2 ^ 4) := by omega
  unfold hC
  rw [key, and8 h (by omega)]
  congr 1
  rw [show (15 : Nat) = 2 ^ 4 - 1 by decide, Nat.and_two_pow_sub_one_eq_mod, Nat.and_two_pow_sub_one_eq_mod]
  omega
theorem nib_ok : ∀ t, t < 256 → hB (hA t 85) 51 % 16 ≤ 4 ∧ hB (hA t 85) 51 / 16 ≤ 4 := by decide +kernel
def rep (m : Nat) : Nat → Nat
  | 0 => 0
  | n + 1 => m + 256 * rep m n
def bs (T : Nat) : Nat → Nat
  | 0 => 0
  | n + 1 => p8 (T % 256) + 256 * bs (T / 256) n
theorem hd_ok : ∀ n T, T < 256 ^ n → ((T / 2 ^ 1) &&& rep 85 n) ≤ T ∧ hB (hA T (rep 85 n)) (rep 51 n) % 16 ≤ 4 ∧ hC (hB (hA T (rep 85 n)) (rep 51 n)) (rep 15 n) = bs T n := by
  intro n
  induction n with
  | zero =>
    intro T h
    obtain rfl : T = 0 := by simpa using h
    decide
  | succ n ih =>
    intro T h
    have hT : T / 256 < 256 ^ n := by
      rw [Nat.div_lt_iff_lt_mul (by omega)]
      rw [Nat.pow_succ] at h
      exact h
    have ht : T % 256 < 256 := Nat.mod_lt _ (by omega)
    obtain ⟨i1, i2, i3⟩ := ih _ hT
    have hTe : T % 256 + 256 * (T / 256) = T := by omega
    obtain ⟨a1, a2⟩ := hA8 (M := rep 85 n) ht i1
    rw [hTe] at a1 a2
    obtain ⟨b1, b2, b3, b4, b5, b6, b7⟩ := byte_ok _ ht
    obtain ⟨n1, n2⟩ := nib_ok _ ht
    have c1 := hB8 (t := hA (T % 256) 85) (T := hA (T / 256) (rep 85 n)) (M := rep 51 n) b2
    rw [← a1] at c1
    have d1 := hC8 (t := hB (hA (T % 256) 85) 51) (T := hB (hA (T / 256) (rep 85 n)) (rep 51 n)) (M := rep 15 n) (by omega)
    rw [← c1, b6, i3] at d1
    refine ⟨a2, ?_, d1⟩
    show hB (hA T (85 + 256 * rep 85 n)) (51 + 256 * rep 51 n) % 16 ≤ 4
    rw [c1]
    omega
def ps (T : Nat) : Nat → Nat
  | 0 => 0
  | n + 1 => p8 (T % 256) + ps (T / 256) n
theorem ct_ps : ∀ n T, fb_ct T.testBit (8 * n) = ps T n := by
  intro n
  induction n with
  | zero => intro T; rfl
  | succ n ih =>
    intro T
    rw [show 8 * (n + 1) = 8 + 8 * n by omega, fb_ct_split]
    show _ = p8 (T % 256) + ps (T / 256) n
    rw [← ih]
    congr 1
    · exact fb_ct_cong (fun k hk => by rw [show (256 : Nat) = 2 ^ 8 by decide, Nat.testBit_mod_two_pow]; simp [hk])
    · exact fb_ct_cong (fun k _ => by rw [show (256 : Nat) = 2 ^ 8 by decide, Nat.testBit_div_two_pow, Nat.add_comm])
theorem p8_le (t : Nat) : p8 t ≤ 8 := fb_ct_le _ 8
theorem dv1 {a b : Nat} (h : a < 256) : (a + 256 * b) / 256 = b := by omega
theorem dv2 {a b c : Nat} (h : a < 256) (h2 : b < 256) : (a + 256 * (b + 256 * c)) / 65536 = c := by omega
theorem dv4 {a b c d e : Nat} (h : a < 256) (h2 : b < 256) (h3 : c < 256) (h4 : d < 256) : (a + 256 * (b + 256 * (c + 256 * (d + 256 * e)))) / 4294967296 = e := by omega
theorem md7 {s w : Nat} (h : s < 128) : (s + 256 * w) % 128 = s := by omega
theorem big8 {a0 a1 a2 a3 a4 a5 a6 a7 : Nat} (h0 : a0 ≤ 64) (h1 : a1 ≤ 64) (h2 : a2 ≤ 64) (h3 : a3 ≤ 64) (h4 : a4 ≤ 64) (h5 : a5 ≤ 64) (h6 : a6 ≤ 64) (h7 : a7 ≤ 8) : a0 + 256 * (a1 + 256 * (a2 + 256 * (a3 + 256 * (a4 + 256 * (a5 + 256 * (a6 + 256 * a7)))))) < 2 ^ 62 := by omega
theorem sum_ok {a0 a1 a2 a3 a4 a5 a6 a7 X x4 x5 : Nat} (h0 : a0 ≤ 8) (h1 : a1 ≤ 8) (h2 : a2 ≤ 8) (h3 : a3 ≤ 8) (h4 : a4 ≤ 8) (h5 : a5 ≤ 8) (h6 : a6 ≤ 8) (h7 : a7 ≤ 8)
    (hX : X = a0 + 256 * (a1 + 256 * (a2 + 256 * (a3 + 256 * (a4 + 256 * (a5 + 256 * (a6 + 256 * (a7 + 256 * 0)))))))) (e4 : x4 = X + X / 256) (e5 : x5 = x4 + x4 / 65536) :
    X < 2 ^ 62 ∧ x4 < 2 ^ 62 ∧ x5 < 2 ^ 62 ∧ x5 + x5 / 4294967296 < 2 ^ 62 ∧ (x5 + x5 / 4294967296) % 128 = a0 + (a1 + (a2 + (a3 + (a4 + (a5 + (a6 + (a7 + 0))))))) := by
  rw [Nat.mul_zero, Nat.add_zero] at hX
  have f1 : X / 256 = a1 + 256 * (a2 + 256 * (a3 + 256 * (a4 + 256 * (a5 + 256 * (a6 + 256 * a7))))) := by rw [hX]; exact dv1 (by omega)
  have f2 : x4 = (a0 + a1) + 256 * ((a1 + a2) + 256 * ((a2 + a3) + 256 * ((a3 + a4) + 256 * ((a4 + a5) + 256 * ((a5 + a6) + 256 * ((a6 + a7) + 256 * a7)))))) := by
    rw [e4, f1, hX]
    clear hX e4 e5 f1
    omega
  have f3 : x4 / 65536 = (a2 + a3) + 256 * ((a3 + a4) + 256 * ((a4 + a5) + 256 * ((a5 + a6) + 256 * ((a6 + a7) + 256 * a7)))) := by rw [f2]; exact dv2 (by omega) (by omega)
  have f4 : x5 = (a0 + a1 + a2 + a3) + 256 * ((a1 + a2 + a3 + a4) + 256 * ((a2 + a3 + a4 + a5) + 256 * ((a3 + a4 + a5 + a6) + 256 * ((a4 + a5 + a6 + a7) + 256 * ((a5 + a6 + a7) + 256 * ((a6 + a7) + 256 * a7)))))) := by
    rw [e5, f3, f2]
    clear hX e4 e5 f1 f2 f3
    omega
  have f5 : x5 / 4294967296 = (a4 + a5 + a6 + a7) + 256 * ((a5 + a6 + a7) + 256 * ((a6 + a7) + 256 * a7)) := by rw [f4]; exact dv4 (by omega) (by omega) (by omega) (by omega)
  have f6 : x5 + x5 / 4294967296 = (a0 + (a1 + (a2 + (a3 + (a4 + (a5 + (a6 + a7))))))) + 256 * ((a1 + a2 + a3 + a4 + a5 + a6 + a7) + 256 * ((a2 + a3 + a4 + a5 + a6 + a7) + 256 * ((a3 + a4 + a5 + a6 + a7) + 256 * ((a4 + a5 + a6 + a7) + 256 * ((a5 + a6 + a7) + 256 * ((a6 + a7) + 256 * a7)))))) := by
    rw [f5, f4]
    clear hX e4 e5 f1 f2 f3 f4 f5
    omega
  refine ⟨?_, ?_, ?_, ?_, ?_⟩
  · rw [hX]; clear hX e4 e5 f1 f2 f3 f4 f5 f6; exact big8 (by omega) (by omega) (by omega) (by omega) (by omega) (by omega) (by omega) h7
  · rw [f2]; clear hX e4 e5 f1 f2 f3 f4 f5 f6; exact big8 (by omega) (by omega) (by omega) (by omega) (by omega) (by omega) (by omega) h7
  · rw [f4]; clear hX e4 e5 f1 f2 f3 f4 f5 f6; exact big8 (by omega) (by omega) (by omega) (by omega) (by omega) (by omega) (by omega) h7
  · rw [f6]; clear hX e4 e5 f1 f2 f3 f4 f5 f6; exact big8 (by omega) (by omega) (by omega) (by omega) (by omega) (by omega) (by omega) h7
  · rw [f6, Nat.add_zero]; clear hX e4 e5 f1 f2 f3 f4 f5 f6; exact md7 (by omega)
theorem rep85 : rep 85 8 = 6148914691236517205 := by decide
theorem rep51 : rep 51 8 = 3689348814741910323 := by decide
theorem rep15 : rep 15 8 = 1085102592571150095 := by decide
/-- Long.bitCount counts the bits -/
theorem bitCount_ok {σ : Mem} {T : Nat} (h : T < 2 ^ 64) : kJL_bitCount σ (lN T) = some (nI (pop T), σ) := by
  have h256 : T < 256 ^ 8 := by
    have : (256 : Nat) ^ 8 = 2 ^ 64 := by decide
    omega
  obtain ⟨g1, g2, g3⟩ := hd_ok 8 T h256
  rw [rep85] at g1 g2 g3
  rw [rep51] at g2 g3
  rw [rep15] at g3
  have hA_lt : hA T 6148914691236517205 < 2 ^ 64 := by unfold hA; omega
  have hb1 : hA T 6148914691236517205 &&& 3689348814741910323 ≤ 3689348814741910323 := Nat.and_le_right
  have hb2 : (hA T 6148914691236517205 / 2 ^ 2) &&& 3689348814741910323 ≤ 3689348814741910323 := Nat.and_le_right
  have hB_lt : hB (hA T 6148914691236517205) 3689348814741910323 < 2 ^ 63 := by unfold hB; omega
  have s1 : ((lN T).toUInt64 >>> ((1 : Int32).toInt64.toUInt64 &&& Int64.toUInt64 63)).toInt64 = lN (T / 2 ^ 1) := wb_shr (k := 1) h (by omega)
  have e1 : lN T - ((((lN T).toUInt64 >>> ((1 : Int32).toInt64.toUInt64 &&& Int64.toUInt64 63)).toInt64) &&& 6148914691236517205) = lN (hA T 6148914691236517205) := by
    rw [s1, show (6148914691236517205 : Int64) = lN 6148914691236517205 from rfl, wb_and (by omega) (by omega), lN_sub g1]
    rfl
  have s2 : ((lN (hA T 6148914691236517205)).toUInt64 >>> ((2 : Int32).toInt64.toUInt64 &&& Int64.toUInt64 63)).toInt64 = lN (hA T 6148914691236517205 / 2 ^ 2) := wb_shr (k := 2) hA_lt (by omega)
  have e2 : (lN (hA T 6148914691236517205) &&& 3689348814741910323) + ((((lN (hA T 6148914691236517205)).toUInt64 >>> ((2 : Int32).toInt64.toUInt64 &&& Int64.toUInt64 63)).toInt64) &&& 3689348814741910323) = lN (hB (hA T 6148914691236517205) 3689348814741910323) := by
    rw [s2, show (3689348814741910323 : Int64) = lN 3689348814741910323 from rfl, wb_and (by omega) (by omega), wb_and (by omega) (by omega), lN_add]
    rfl
  generalize hB (hA T 6148914691236517205) 3689348814741910323 = B at *
  have s3 : ((lN B).toUInt64 >>> ((4 : Int32).toInt64.toUInt64 &&& Int64.toUInt64 63)).toInt64 = lN (B / 2 ^ 4) := wb_shr (k := 4) (by omega) (by omega)
  have e3 : (lN B + (((lN B).toUInt64 >>> ((4 : Int32).toInt64.toUInt64 &&& Int64.toUInt64 63)).toInt64)) &&& 1085102592571150095 = lN (bs T 8) := by
    rw [s3, show (1085102592571150095 : Int64) = lN 1085102592571150095 from rfl, lN_add, wb_and (by omega) (by omega), ← g3]
    rfl
  obtain ⟨X, hX⟩ : ∃ X, X = bs T 8 := ⟨_, rfl⟩
  obtain ⟨x4, h4⟩ : ∃ x4, x4 = X + X / 256 := ⟨_, rfl⟩
  obtain ⟨x5, h5⟩ : ∃ x5, x5 = x4 + x4 / 65536 := ⟨_, rfl⟩
  obtain ⟨q1, q2, q3, q4, q5⟩ := sum_ok (p8_le _) (p8_le _) (p8_le _) (p8_le _) (p8_le _) (p8_le _) (p8_le _) (p8_le _) (show X = p8 (T % 256) + 256 * (p8 (T / 256 % 256) + 256 * (p8 (T / 256 / 256 % 256) + 256 * (p8 (T / 256 / 256 / 256 % 256) + 256 * (p8 (T / 256 / 256 / 256 / 256 % 256) + 256 * (p8 (T / 256 / 256 / 256 / 256 / 256 % 256) + 256 * (p8 (T / 256 / 256 / 256 / 256 / 256 / 256 % 256) + 256 * (p8 (T / 256 / 256 / 256 / 256 / 256 / 256 / 256 % 256) + 256 * 0))))))) from hX) h4 h5
  rw [← hX] at e3
  have s4 : ((lN X).toUInt64 >>> ((8 : Int32).toInt64.toUInt64 &&& Int64.toUInt64 63)).toInt64 = lN (X / 2 ^ 8) := wb_shr (k := 8) (by omega) (by omega)
  have e4 : lN X + ((lN X).toUInt64 >>> ((8 : Int32).toInt64.toUInt64 &&& Int64.toUInt64 63)).toInt64 = lN x4 := by
    rw [s4, lN_add, h4]
  have s5 : ((lN x4).toUInt64 >>> ((16 : Int32).toInt64.toUInt64 &&& Int64.toUInt64 63)).toInt64 = lN (x4 / 2 ^ 16) := wb_shr (k := 16) (by omega) (by omega)
  have e5 : lN x4 + ((lN x4).toUInt64 >>> ((16 : Int32).toInt64.toUInt64 &&& Int64.toUInt64 63)).toInt64 = lN x5 := by
    rw [s5, lN_add, h5]
  have s6 : ((lN x5).toUInt64 >>> ((32 : Int32).toInt64.toUInt64 &&& Int64.toUInt64 63)).toInt64 = lN (x5 / 2 ^ 32) := wb_shr (k := 32) (by omega) (by omega)
  have e6 : lN x5 + ((lN x5).toUInt64 >>> ((32 : Int32).toInt64.toUInt64 &&& Int64.toUInt64 63)).toInt64 = lN (x5 + x5 / 4294967296) := by
    rw [s6, lN_add]
  have hpop : pop T = ps T 8 := ct_ps 8 T
  unfold kJL_bitCount
  rw [e1, e2, e3, e4, e5, e6, lN_i, hpop]
  have hand : nI (x5 + x5 / 4294967296) &&& 127 = nI ((x5 + x5 / 4294967296) % 2 ^ 7) := by
    rw [pk_and _ 7 (by decide)]
    congr 1
    show ((BitVec.ofNat 32 (x5 + x5 / 4294967296)).toNat) % 2 ^ 7 = _
    rw [BitVec.toNat_ofNat]
    omega
  rw [hand, show (2 : Nat) ^ 7 = 128 by decide, q5]
  rfl
