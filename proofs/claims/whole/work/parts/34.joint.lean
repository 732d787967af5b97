/-! fractions in lowest terms; joint -/
theorem lN_ne0 {a : Nat} (h0 : 0 < a) (h : a < 2 ^ 63) : ¬ lN a = (0 : Int64) := fun q => by
  have := (pk_lEQ (b := 0) h (by decide)).mp q
  omega
theorem mod_half {x y : Nat} (h : y ≤ x) (h0 : 0 < y) : 2 * (x % y) ≤ x := by
  have h1 := Nat.mod_lt x h0
  have h2 := Nat.div_add_mod x y
  have h3 : 1 ≤ x / y := (Nat.one_le_div_iff h0).mpr h
  have h4 : y * 1 ≤ y * (x / y) := Nat.mul_le_mul_left y h3
  omega
theorem lo_b9 {X Y i : Nat} (hX : X < 2 ^ 63) (hY : Y < 2 ^ 63) (h0 : 0 < Y) (hi : i < 400) : fX10_greatestCommon_b9 (lN X) (lN Y) (nI i) = some (.inl (lN Y, lN (X % Y), nI (i + 1))) := by
  unfold fX10_greatestCommon_b9
  rw [if_neg (show ¬ (400 : Int32) ≤ nI i from nI_ge (b := 400) (by omega) (by omega)), if_neg (lN_ne0 h0 hY), if_neg (lN_ne0 h0 hY), pk_lRem hX h0 hY, nI_1]
  rfl
theorem lo_go : ∀ (Y X i : Nat), X < 2 ^ 63 → Y < 2 ^ 63 → 1 ≤ i → Y ≤ X → X * Y * 2 ^ i ≤ 2 ^ 127 → (0 < Y → i < 400) → lpc (fun s : Int64 × Int64 × Int32 => fX10_greatestCommon_b9 s.1 s.2.1 s.2.2) (lN X, lN Y, nI i) = some (lN (Nat.gcd X Y)) := by
  intro Y
  induction Y using Nat.strongRecOn with
  | ind Y ih =>
    intro X i hX hY hi hYX hp hii
    by_cases h0 : Y = 0
    · subst h0
      rw [Nat.gcd_zero_right]
      refine lpc_exit ?_
      show fX10_greatestCommon_b9 (lN X) (lN 0) (nI i) = _
      unfold fX10_greatestCommon_b9
      split
      · rfl
      · rw [if_pos (by rfl)]
    · have h1 : 0 < Y := by omega
      have hlt := Nat.mod_lt X h1
      rw [lpc_step (lo_b9 hX hY h1 (hii h1)), Nat.gcd_comm X Y, Nat.gcd_rec, Nat.gcd_comm]
      have hmh := mod_half hYX h1
      have hp' : Y * (X % Y) * 2 ^ (i + 1) ≤ 2 ^ 127 := by
        have e : Y * (X % Y) * 2 ^ (i + 1) = (2 * (X % Y)) * Y * 2 ^ i := by
          rw [Nat.pow_succ, Nat.mul_comm (2 ^ i) 2, ← Nat.mul_assoc, Nat.mul_comm Y (X % Y), Nat.mul_right_comm _ Y 2, Nat.mul_comm (X % Y) 2]
        rw [e]
        exact Nat.le_trans (Nat.mul_le_mul_right _ (Nat.mul_le_mul_right _ hmh)) hp
      refine ih _ hlt Y (i + 1) hY (by omega) (by omega) (by omega) hp' (fun h2 => ?_)
      by_cases q : i + 1 < 400
      · exact q
      · exfalso
        have h3 : 1 ≤ Y * (X % Y) := Nat.mul_le_mul h1 h2
        have h4 : 2 ^ 128 ≤ 2 ^ (i + 1) := Nat.pow_le_pow_right (by omega) (by omega)
        have h5 := Nat.mul_le_mul h3 h4
        have h6 := Nat.le_trans h5 hp'
        revert h6; decide
theorem p_gcd {a b : Nat} (ha : a < 2 ^ 63) (hb : b < 2 ^ 63) (h0 : 0 < b) : fX10_greatestCommon (lN a) (lN b) = some (lN (Nat.gcd a b)) := by
  unfold fX10_greatestCommon
  have hlt := Nat.mod_lt a h0
  have e := lpc_step (body := fun s : Int64 × Int64 × Int32 => fX10_greatestCommon_b9 s.1 s.2.1 s.2.2) (s := (lN a, lN b, 0)) (lo_b9 (i := 0) ha hb h0 (by omega))
  have h1 : b * (a % b) ≤ 2 ^ 63 * 2 ^ 63 := Nat.mul_le_mul (by omega) (by omega)
  have h2 := Nat.mul_le_mul_right (2 ^ 1) h1
  have h3 : b * (a % b) * 2 ^ 1 ≤ 2 ^ 127 := Nat.le_trans h2 (show (2 : Nat) ^ 63 * 2 ^ 63 * 2 ^ 1 ≤ 2 ^ 127 by decide)
  rw [e, lo_go _ _ _ hb (by omega) (by omega) (by omega) h3 (by omega), ob_s]
  have eg : Nat.gcd b (a % b) = Nat.gcd a b := by rw [Nat.gcd_comm b (a % b), ← Nat.gcd_rec, Nat.gcd_comm]
  rw [eg]
def lw (a b : Nat) (w : Int32) : Nat := if w = 0 then a / Nat.gcd a b else b / Nat.gcd a b
theorem lw_scale {a b k : Nat} {w : Int32} (hk : 0 < k) : lw (k * a) (k * b) w = lw a b w := by
  unfold lw
  rw [Nat.gcd_mul_left, Nat.mul_div_mul_left _ _ hk, Nat.mul_div_mul_left _ _ hk]
theorem gcd_lt {a b : Nat} (hb : b < 2 ^ 63) (h0 : 0 < b) : 0 < Nat.gcd a b ∧ Nat.gcd a b < 2 ^ 63 := ⟨Nat.gcd_pos_of_pos_right a h0, Nat.lt_of_le_of_lt (Nat.gcd_le_right a h0) hb⟩
theorem p_told {a b : Nat} {w : Int32} (ha : a < 2 ^ 63) (hb : b < 2 ^ 63) (h0 : 0 < b) : fX10_told (lN a) (lN b) w = some (lN (lw a b w)) := by
  obtain ⟨g0, g1⟩ := gcd_lt (a := a) hb h0
  unfold fX10_told fX10_told_j17 lw
  rw [p_gcd ha hb h0, ob_s, if_neg (lN_ne0 g0 g1), if_neg (lN_ne0 g0 g1), if_neg (lN_ne0 g0 g1), if_neg (lN_ne0 g0 g1), pk_lDiv ha g0 g1, pk_lDiv hb g0 g1]
  split <;> rfl
theorem m_go {a b : Nat} {w : Int32} : ∀ (Y X : Nat), X < 2 ^ 63 → Y < 2 ^ 63 → lpc (fun s : Int64 × Int64 => fX11_lowest_b6 (lN a) (lN b) w s.1 s.2) (lN X, lN Y) = some (lN (Nat.gcd X Y)) := by
  intro Y
  induction Y using Nat.strongRecOn with
  | ind Y ih =>
    intro X hX hY
    by_cases h0 : Y = 0
    · subst h0
      rw [Nat.gcd_zero_right]
      refine lpc_exit ?_
      show fX11_lowest_b6 (lN a) (lN b) w (lN X) (lN 0) = _
      unfold fX11_lowest_b6
      rw [if_pos (by rfl)]
    · have h1 : 0 < Y := by omega
      have hlt := Nat.mod_lt X h1
      have e : fX11_lowest_b6 (lN a) (lN b) w (lN X) (lN Y) = some (.inl (lN Y, lN (X % Y))) := by
        unfold fX11_lowest_b6
        rw [if_neg (lN_ne0 h1 hY), if_neg (lN_ne0 h1 hY), pk_lRem hX h1 hY]
        rfl
      rw [lpc_step e, Nat.gcd_comm X Y, Nat.gcd_rec, Nat.gcd_comm]
      exact ih _ hlt Y hY (by omega)
theorem p_lowest {a b : Nat} {w : Int32} (ha : a < 2 ^ 63) (hb : b < 2 ^ 63) (h0 : 0 < b) : fX11_lowest (lN a) (lN b) w = some (lN (lw a b w)) := by
  obtain ⟨g0, g1⟩ := gcd_lt (a := a) hb h0
  unfold fX11_lowest lw
  rw [m_go b a ha hb, ob_s, if_neg (lN_ne0 g0 g1), if_neg (lN_ne0 g0 g1), pk_lDiv ha g0 g1, pk_lDiv hb g0 g1]
  split <;> rfl
abbrev noB : Int64 := (-9223372036854775808 : Int64) - (-2 : Int32).toInt64
abbrev noN : Int64 := (-9223372036854775808 : Int64) - (-3 : Int32).toInt64
abbrev gJ (a b w : Int32) : Prop := (0 ≤ a ∧ a ≤ 16) ∧ (0 ≤ b ∧ b ≤ 16) ∧ (0 ≤ w ∧ w ≤ 1)
def vJoint (a b w : Int32) : Int64 := if gJ a b w then (if a.toNatClampNeg * b.toNatClampNeg + (16 - a.toNatClampNeg) * (16 - b.toNatClampNeg) = 0 then noN else lN (lw (a.toNatClampNeg * b.toNatClampNeg) (a.toNatClampNeg * b.toNatClampNeg + (16 - a.toNatClampNeg) * (16 - b.toNatClampNeg)) w)) else noB
theorem nI_zero_iff {n : Nat} (h : n < 2 ^ 31) : (nI n = 0) ↔ n = 0 := ⟨fun q => nI_inj (b := 0) h (by decide) q, fun q => by rw [q]; rfl⟩
theorem jm_lt {i j : Nat} (hi : i ≤ 16) (hj : j ≤ 16) : i * j ≤ 256 ∧ (16 - i) * (16 - j) ≤ 256 := ⟨(show i * j ≤ 16 * 16 from Nat.mul_le_mul hi hj), (show (16 - i) * (16 - j) ≤ 16 * 16 from Nat.mul_le_mul (by omega) (by omega))⟩
theorem c_joint (a b w : Int32) : fX10_joint a b w = some (vJoint a b w) := by
  unfold fX10_joint fX10_joint_j27 vJoint
  rw [p_within, ob_s, p_within, ob_s, p_isPart, ob_s]
  by_cases g : gJ a b w
  · rw [if_pos g, if_pos g.1, if_neg one_ne, if_pos g.2.1, if_neg one_ne, if_pos g.2.2, if_neg one_ne]
    obtain ⟨i, hi, rfl⟩ := i32_nat (m := 16) (by omega) g.1.1 g.1.2
    obtain ⟨j, hj, rfl⟩ := i32_nat (m := 16) (by omega) g.2.1.1 g.2.1.2
    have hb := jm_lt hi hj
    simp only [ltb]
    rw [nI_clamp (by omega), nI_clamp (by omega), show (16 : Int32) - nI i = nI (16 - i) from pk_sub (a := 16) hi, show (16 : Int32) - nI j = nI (16 - j) from pk_sub (a := 16) hj, pk_mul, pk_mul, nI_add]
    by_cases e : i * j + (16 - i) * (16 - j) = 0
    · rw [if_pos e, if_pos ((nI_zero_iff (by omega)).mpr e)]; rfl
    · rw [if_neg e, if_neg (fun q => e ((nI_zero_iff (by omega)).mp q)), nI_l (by omega), nI_l (by omega), p_told (by omega) (by omega) (by omega)]; rfl
  · rw [if_neg g]
    by_cases g1 : 0 ≤ a ∧ a ≤ 16
    · rw [if_pos g1, if_neg one_ne]
      by_cases g2 : 0 ≤ b ∧ b ≤ 16
      · rw [if_pos g2, if_neg one_ne, if_neg (fun q => g ⟨g1, g2, q⟩), if_pos rfl]; rfl
      · rw [if_neg g2, if_pos rfl]; rfl
    · rw [if_neg g1, if_pos rfl]; rfl
theorem m_joint (a b w : Int32) : fX11_joint a b w = some (vJoint a b w) := by
  unfold fX11_joint fX11_joint_j29 vJoint
  rw [p_in, ob_s, p_in, ob_s, p_in, ob_s]
  by_cases g : gJ a b w
  · rw [if_pos g, if_pos g.1, if_neg one_ne, if_pos g.2.1, if_neg one_ne, if_pos g.2.2, if_neg one_ne]
    obtain ⟨i, hi, rfl⟩ := i32_nat (m := 16) (by omega) g.1.1 g.1.2
    obtain ⟨j, hj, rfl⟩ := i32_nat (m := 16) (by omega) g.2.1.1 g.2.1.2
    have hb := jm_lt hi hj
    simp only [ltb]
    rw [nI_clamp (by omega), nI_clamp (by omega), show (16 : Int32) - nI i = nI (16 - i) from pk_sub (a := 16) hi, show (16 : Int32) - nI j = nI (16 - j) from pk_sub (a := 16) hj, pk_mul, pk_mul, nI_add]
    by_cases e : i * j + (16 - i) * (16 - j) = 0
    · rw [if_pos e, if_pos ((nI_zero_iff (by omega)).mpr e)]; rfl
    · rw [if_neg e, if_neg (fun q => e ((nI_zero_iff (by omega)).mp q)), nI_l (by omega), nI_l (by omega), p_lowest (by omega) (by omega) (by omega)]; rfl
  · rw [if_neg g]
    by_cases g1 : 0 ≤ a ∧ a ≤ 16
    · rw [if_pos g1, if_neg one_ne]
      by_cases g2 : 0 ≤ b ∧ b ≤ 16
      · rw [if_pos g2, if_neg one_ne, if_neg (fun q => g ⟨g1, g2, q⟩), if_pos rfl]; rfl
      · rw [if_neg g2, if_pos rfl]; rfl
    · rw [if_neg g1, if_pos rfl]; rfl
theorem l_joint : ls_joint Inv := fun σ a b w h => ⟨_, _, c_joint a b w, m_joint a b w, rfl, h⟩
