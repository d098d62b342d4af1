/-! ===== Int32 by its bits: bt x i ===== -/
def bt (x : Int32) (i : Nat) : Bool := x.toBitVec.getLsbD i
theorem b_ext {x y : Int32} (h : ∀ i, i < 32 → bt x i = bt y i) : x = y := Int32.toBitVec_inj.mp (BitVec.eq_of_getLsbD_eq (fun i hi => h i hi))
theorem b_or (x y : Int32) (i : Nat) : bt (x ||| y) i = (bt x i || bt y i) := by unfold bt; rw [Int32.toBitVec_or, BitVec.getLsbD_or]
theorem b_and (x y : Int32) (i : Nat) : bt (x &&& y) i = (bt x i && bt y i) := by unfold bt; rw [Int32.toBitVec_and, BitVec.getLsbD_and]
theorem b_xor (x y : Int32) (i : Nat) : bt (x ^^^ y) i = (bt x i ^^ bt y i) := by unfold bt; rw [Int32.toBitVec_xor, BitVec.getLsbD_xor]
theorem b_big {x : Int32} {i : Nat} (h : 32 ≤ i) : bt x i = false := BitVec.getLsbD_of_ge _ _ h
theorem b_255 (i : Nat) : bt 255 i = decide (i < 8) := by
  rcases Nat.lt_or_ge i 32 with h | h
  · exact (by decide +kernel : ∀ i, i < 32 → bt 255 i = decide (i < 8)) i h
  · rw [b_big h, decide_eq_false (by omega)]
theorem b_65535 (i : Nat) : bt 65535 i = decide (i < 16) := by
  rcases Nat.lt_or_ge i 32 with h | h
  · exact (by decide +kernel : ∀ i, i < 32 → bt 65535 i = decide (i < 16)) i h
  · rw [b_big h, decide_eq_false (by omega)]
theorem b_m1 : ∀ i, i < 32 → bt (-1) i = true := by decide +kernel
theorem b_0 (i : Nat) : bt 0 i = false := BitVec.getLsbD_zero
theorem s_l : ∀ n, n < 32 → ((nI n &&& 31).toBitVec.smod 32).toNat = n := by decide +kernel
theorem s_u : ∀ n, n < 32 → (((nI n).toUInt32 &&& Int32.toUInt32 31).toBitVec % 32).toNat = n := by decide +kernel
theorem b_shl (n : Nat) (hn : n < 32) (x : Int32) {i : Nat} (hi : i < 32) : bt (x <<< (nI n &&& 31)) i = (decide (n ≤ i) && bt x (i - n)) := by
  unfold bt
  rw [Int32.toBitVec_shiftLeft]
  show (x.toBitVec <<< ((nI n &&& 31).toBitVec.smod 32).toNat).getLsbD i = _
  rw [s_l n hn, BitVec.getLsbD_shiftLeft]
  rcases Nat.lt_or_ge i n with h | h
  · simp [h, Nat.not_le.mpr h]
  · simp [hi, h, Nat.not_lt.mpr h]
theorem b_ushr (n : Nat) (hn : n < 32) (x : Int32) (i : Nat) : bt ((x.toUInt32 >>> ((nI n).toUInt32 &&& Int32.toUInt32 31)).toInt32) i = bt x (n + i) := by
  show (x.toUInt32 >>> ((nI n).toUInt32 &&& Int32.toUInt32 31)).toBitVec.getLsbD i = x.toUInt32.toBitVec.getLsbD (n + i)
  rw [UInt32.toBitVec_shiftRight]
  show (x.toUInt32.toBitVec >>> (((nI n).toUInt32 &&& Int32.toUInt32 31).toBitVec % 32).toNat).getLsbD i = _
  rw [s_u n hn, BitVec.getLsbD_ushiftRight]
theorem b_sshr (n : Nat) (hn : n < 32) (x : Int32) {i : Nat} (hi : i < 32) : bt (x >>> (nI n &&& 31)) i = if n + i < 32 then bt x (n + i) else bt x 31 := by
  unfold bt
  rw [Int32.toBitVec_shiftRight]
  show (x.toBitVec.sshiftRight ((nI n &&& 31).toBitVec.smod 32).toNat).getLsbD i = _
  rw [s_l n hn, BitVec.getLsbD_sshiftRight, BitVec.msb_eq_getLsbD_last]
  simp [hi]
theorem b_shl8 (x : Int32) {i : Nat} (hi : i < 32) : bt (x <<< ((8 : Int32) &&& 31)) i = (decide (8 ≤ i) && bt x (i - 8)) := b_shl 8 (by omega) x hi
theorem b_shl16 (x : Int32) {i : Nat} (hi : i < 32) : bt (x <<< ((16 : Int32) &&& 31)) i = (decide (16 ≤ i) && bt x (i - 16)) := b_shl 16 (by omega) x hi
theorem b_shl24 (x : Int32) {i : Nat} (hi : i < 32) : bt (x <<< ((24 : Int32) &&& 31)) i = (decide (24 ≤ i) && bt x (i - 24)) := b_shl 24 (by omega) x hi
theorem b_sshr8 (x : Int32) {i : Nat} (hi : i < 32) : bt (x >>> ((8 : Int32) &&& 31)) i = if 8 + i < 32 then bt x (8 + i) else bt x 31 := b_sshr 8 (by omega) x hi
/-! bits of the frames' words -/
theorem b_nI (a : Nat) {i : Nat} (hi : i < 32) : bt (nI a) i = a.testBit i := by
  unfold bt
  show (BitVec.ofNat 32 a).getLsbD i = _
  rw [BitVec.getLsbD_ofNat, decide_eq_true hi, Bool.true_and]
theorem b_small {a m i : Nat} (ha : a < 2 ^ m) (hi : m ≤ i) : bt (nI a) i = false := by
  by_cases h : i < 32
  · rw [b_nI a h]
    exact Nat.testBit_lt_two_pow (Nat.lt_of_lt_of_le ha (Nat.pow_le_pow_right (by decide) hi))
  · exact b_big (by omega)
theorem b_su (n : Nat) (hn : n < 32) (x : Int32) (i : Nat) : bt (sw_ushr x (nI n)) i = bt x (n + i) := b_ushr n hn x i
theorem b_7 : ∀ i, i < 32 → bt 7 i = decide (i < 3) := by decide +kernel
theorem b_31 : ∀ i, i < 32 → bt 31 i = decide (i < 5) := by decide +kernel
theorem b_1 : ∀ i, i < 32 → bt 1 i = decide (i = 0) := by decide +kernel
theorem b_hi : ∀ i, i < 32 → bt 65528 i = (decide (3 ≤ i) && decide (i < 16)) := by decide +kernel
theorem b_msk : ∀ i, i < 32 → bt (-16711681) i = !(decide (16 ≤ i) && decide (i < 24)) := by decide +kernel
theorem b_sh1 {n : Nat} (hn : n < 32) {i : Nat} (hi : i < 32) : bt ((1 : Int32) <<< (nI n &&& 31)) i = decide (i = n) := by
  rw [b_shl n hn 1 hi]
  by_cases h : n ≤ i
  · rw [decide_eq_true h, Bool.true_and, b_1 (i - n) (by omega)]
    by_cases h2 : i = n
    · rw [decide_eq_true h2, decide_eq_true (by omega)]
    · rw [decide_eq_false h2, decide_eq_false (by omega)]
  · rw [decide_eq_false h, Bool.false_and, decide_eq_false (by omega)]
/-- the first word of a frame -/
def fh (kd t nu wa ct : Int32) : Int32 := kd ||| t <<< (3 &&& 31) ||| nu <<< (8 &&& 31) ||| wa <<< (16 &&& 31) ||| ct <<< (24 &&& 31)
theorem b_fh (kd t nu wa ct : Int32) {i : Nat} (hi : i < 32) : bt (fh kd t nu wa ct) i = ((((bt kd i || (decide (3 ≤ i) && bt t (i - 3))) || (decide (8 ≤ i) && bt nu (i - 8))) || (decide (16 ≤ i) && bt wa (i - 16))) || (decide (24 ≤ i) && bt ct (i - 24))) := by
  unfold fh
  rw [b_or, b_or, b_or, b_or, b_shl24 _ hi, b_shl16 _ hi, b_shl8 _ hi, show bt (t <<< ((3 : Int32) &&& 31)) i = _ from b_shl 3 (by omega) t hi]
theorem fh_kd {k : Nat} (hk : k < 8) (t nu wa ct : Int32) : fh (nI k) t nu wa ct &&& 7 = nI k := by
  refine b_ext (fun i hi => ?_)
  rw [b_and, b_fh _ _ _ _ _ hi, b_7 i hi]
  by_cases h3 : i < 3
  · rw [decide_eq_true h3, Bool.and_true, decide_eq_false (show ¬ 3 ≤ i by omega), decide_eq_false (show ¬ 8 ≤ i by omega), decide_eq_false (show ¬ 16 ≤ i by omega), decide_eq_false (show ¬ 24 ≤ i by omega)]
    simp
  · rw [decide_eq_false h3, Bool.and_false]
    exact (b_small (m := 3) hk (by omega)).symm
theorem fh_ct {k t nu wa : Nat} (hk : k < 8) (ht : t < 32) (hn : nu < 256) (hw : wa < 256) : sw_ushr (fh (nI k) (nI t) (nI nu) (nI wa) 0) 24 = 0 := by
  refine b_ext (fun i hi => ?_)
  rw [show (24 : Int32) = nI 24 from rfl, b_su 24 (by decide), b_0]
  by_cases h : 24 + i < 32
  · rw [b_fh _ _ _ _ _ h, b_small (m := 3) hk (by omega), b_small (m := 5) ht (by omega), b_small (m := 8) hn (by omega), b_small (m := 8) hw (by omega), b_0]
    simp
  · exact b_big (by omega)
theorem fh_ack (wa : Int32) : fh 0 0 0 wa 0 = (0 : Int32) ||| wa <<< (16 &&& 31) := by
  refine b_ext (fun i hi => ?_)
  rw [b_fh _ _ _ _ _ hi, b_or, b_shl16 _ hi, b_0, b_0, b_0, b_0]
  simp
/-- a new WANTED: xor of the difference, or mask and or -/
theorem b_renew (w : Int32) {v : Nat} (hv : v < 256) : w ^^^ (((sw_ushr w 16 &&& 255) ^^^ nI v) <<< (16 &&& 31)) = (w &&& (-16711681 : Int32)) ||| nI v <<< (16 &&& 31) := by
  refine b_ext (fun i hi => ?_)
  rw [b_xor, b_or, b_and, b_shl16 _ hi, b_shl16 _ hi, b_msk i hi, b_xor, b_and, show (16 : Int32) = nI 16 from rfl, b_su 16 (by decide), b_255]
  by_cases h1 : 16 ≤ i
  · by_cases h2 : i < 24
    · rw [decide_eq_true h1, decide_eq_true h2, decide_eq_true (show i - 16 < 8 by omega), show 16 + (i - 16) = i by omega]
      cases bt w i <;> cases bt (nI v) (i - 16) <;> rfl
    · rw [decide_eq_true h1, decide_eq_false h2, decide_eq_false (show ¬ i - 16 < 8 by omega), b_small (m := 8) (i := i - 16) hv (by omega)]
      cases bt w i <;> simp
  · rw [decide_eq_false h1]
    cases bt w i <;> simp
/-- an unused bit: or is xor -/
theorem b_orx {x : Int32} {n : Nat} (hn : n < 32) (hx : bt x n = false) : x ||| (1 : Int32) <<< (nI n &&& 31) = x ^^^ (1 : Int32) <<< (nI n &&& 31) := by
  refine b_ext (fun i hi => ?_)
  rw [b_or, b_xor, b_sh1 hn hi]
  by_cases h : i = n
  · subst h
    rw [hx]
    simp
  · rw [decide_eq_false h]
    simp
theorem b_and1 (x : Int32) : (x &&& 1 = 1 ∧ bt x 0 = true) ∨ (x &&& 1 = 0 ∧ bt x 0 = false) := by
  cases h : bt x 0 with
  | true =>
    refine Or.inl ⟨b_ext (fun i hi => ?_), rfl⟩
    rw [b_and, b_1 i hi]
    by_cases h0 : i = 0
    · subst h0; rw [h]; rfl
    · rw [decide_eq_false h0, Bool.and_false]
  | false =>
    refine Or.inr ⟨b_ext (fun i hi => ?_), rfl⟩
    rw [b_and, b_1 i hi, b_0]
    by_cases h0 : i = 0
    · subst h0; rw [h]; rfl
    · rw [decide_eq_false h0, Bool.and_false]
theorem b_sr {n : Nat} (hn : n < 32) (x : Int32) : x >>> (nI n &&& 31) &&& 1 = sw_ushr x (nI n) &&& 1 := by
  refine b_ext (fun i hi => ?_)
  rw [b_and, b_and, b_sshr n hn x hi, b_su n hn, b_1 i hi]
  by_cases h0 : i = 0
  · subst h0
    rw [if_pos (by omega)]
  · rw [decide_eq_false h0, Bool.and_false, Bool.and_false]
/-- bits 3 to 15 are none: the stream and the number are 0 -/
theorem b_ack (x : Int32) : x &&& 65528 = 0 ↔ (sw_ushr x 3 &&& 31 = 0 ∧ sw_ushr x 8 &&& 255 = 0) := by
  have e : ∀ y : Int32, y = 0 ↔ ∀ i, i < 32 → bt y i = false := fun y => ⟨fun h i _ => by rw [h]; exact b_0 i, fun h => b_ext (fun i hi => by rw [h i hi, b_0])⟩
  rw [e, e (sw_ushr x 3 &&& 31), e (sw_ushr x 8 &&& 255)]
  constructor
  · intro h
    refine ⟨fun i hi => ?_, fun i hi => ?_⟩
    · rw [b_and, show (3 : Int32) = nI 3 from rfl, b_su 3 (by decide), b_31 i hi]
      by_cases h5 : i < 5
      · have := h (3 + i) (by omega)
        rw [b_and, b_hi (3 + i) (by omega), decide_eq_true (show 3 ≤ 3 + i by omega), decide_eq_true (show 3 + i < 16 by omega)] at this
        simp only [Bool.and_true] at this
        rw [this, Bool.false_and]
      · rw [decide_eq_false h5, Bool.and_false]
    · rw [b_and, show (8 : Int32) = nI 8 from rfl, b_su 8 (by decide), b_255]
      by_cases h5 : i < 8
      · have := h (8 + i) (by omega)
        rw [b_and, b_hi (8 + i) (by omega), decide_eq_true (show 3 ≤ 8 + i by omega), decide_eq_true (show 8 + i < 16 by omega)] at this
        simp only [Bool.and_true] at this
        rw [this, Bool.false_and]
      · rw [decide_eq_false h5, Bool.and_false]
  · intro h i hi
    rw [b_and, b_hi i hi]
    by_cases h3 : 3 ≤ i
    · by_cases h16 : i < 16
      · by_cases h8 : i < 8
        · have := h.1 (i - 3) (by omega)
          rw [b_and, show (3 : Int32) = nI 3 from rfl, b_su 3 (by decide), b_31 (i - 3) (by omega), decide_eq_true (show i - 3 < 5 by omega), show 3 + (i - 3) = i by omega, Bool.and_true] at this
          rw [this, Bool.false_and]
        · have := h.2 (i - 8) (by omega)
          rw [b_and, show (8 : Int32) = nI 8 from rfl, b_su 8 (by decide), b_255, decide_eq_true (show i - 8 < 8 by omega), show 8 + (i - 8) = i by omega, Bool.and_true] at this
          rw [this, Bool.false_and]
      · rw [decide_eq_false h16, Bool.and_false, Bool.and_false]
    · rw [decide_eq_false h3, Bool.false_and, Bool.and_false]
