/-! which fraction is less -/
theorem fr_q {x y u v : Nat} (hy : 0 < y) (hv : 0 < v) (h : x / y = u / v) : (x * v < u * y ↔ x % y * v < u % v * y) ∧ (u * y < x * v ↔ u % v * y < x % y * v) := by
  have h1 := Nat.div_add_mod x y
  have h2 := Nat.div_add_mod u v
  rw [← h] at h2
  have e1 : x * v = x / y * y * v + x % y * v := by
    conv => lhs; rw [← h1]
    rw [Nat.add_mul, Nat.mul_comm y]
  have e2 : u * y = x / y * y * v + u % v * y := by
    conv => lhs; rw [← h2]
    rw [Nat.add_mul, Nat.mul_comm v, Nat.mul_right_comm]
  omega
theorem fr_d {x y u v : Nat} (hy : 0 < y) (hv : 0 < v) (h : x / y < u / v) : x * v < u * y := by
  have h1 : x < (x / y + 1) * y := by
    have a := Nat.div_add_mod x y
    have b := Nat.mod_lt x hy
    rw [Nat.add_mul, Nat.one_mul, Nat.mul_comm]; omega
  have h2 : (x / y + 1) * y ≤ u / v * y := Nat.mul_le_mul_right _ h
  have h3 : x * v < u / v * y * v := Nat.mul_lt_mul_of_pos_right (Nat.lt_of_lt_of_le h1 h2) hv
  have h4 : u / v * v ≤ u := Nat.div_mul_le_self u v
  have h5 : u / v * v * y ≤ u * y := Nat.mul_le_mul_right _ h4
  rw [Nat.mul_right_comm] at h5
  omega
abbrev finC (r : (Int64 × Int64) ⊕ ((Int64) ⊕ (Unit))) : Option Int32 := Sum.elim (fun r1_0 => if r1_0.2 ≤ r1_0.1 then some (0 : Int32) else some (1 : Int32)) (Sum.elim (fun r1_1 => if r1_1 = (0 : Int64) then some (0 : Int32) else some (1 : Int32)) (fun _ => some (0 : Int32))) r
theorem isl_b {x y u v i : Nat} (hx : x < 2 ^ 63) (hy : y < 2 ^ 63) (hu : u < 2 ^ 63) (hv : v < 2 ^ 63) (y0 : 0 < y) (v0 : 0 < v) (hi : i < 400) : fX10_isLess_b17 (lN x) (lN y) (lN u) (lN v) (nI i) = if x / y = u / v then (if x % y = 0 ∨ u % v = 0 then some (.inr (.inr (.inl (lN (u % v))))) else some (.inl (lN v, lN (u % v), lN y, lN (x % y), nI (i + 1)))) else some (.inr (.inl (lN (x / y), lN (u / v)))) := by
  unfold fX10_isLess_b17
  simp only [ltb]
  have a1 := Nat.div_le_self x y
  have a2 := Nat.div_le_self u v
  have a3 := Nat.mod_le x y
  have a4 := Nat.mod_le u v
  rw [if_neg (show ¬ (400 : Int32) ≤ nI i from nI_ge (b := 400) hi (by omega)), if_neg (lN_ne0 y0 hy), if_neg (lN_ne0 v0 hv), if_neg (lN_ne0 y0 hy), if_neg (lN_ne0 v0 hv), if_neg (lN_ne0 y0 hy), if_neg (lN_ne0 v0 hv), pk_lRem hx y0 hy, pk_lRem hu v0 hv, pk_lDiv hx y0 hy, pk_lDiv hu v0 hv, nI_1]
  by_cases q : x / y = u / v
  · rw [if_pos q, if_pos (show lN (x / y) = lN (u / v) by rw [q])]
    by_cases q1 : x % y = 0
    · rw [if_pos (Or.inl q1), if_pos (show lN (x % y) = (0 : Int64) by rw [q1]; rfl)]
    · rw [if_neg (lN_ne0 (by omega) (by omega))]
      by_cases q2 : u % v = 0
      · rw [if_pos (Or.inr q2), if_pos (show lN (u % v) = (0 : Int64) by rw [q2]; rfl)]
      · rw [if_neg (lN_ne0 (by omega) (by omega)), if_neg (show ¬ (x % y = 0 ∨ u % v = 0) from fun z => z.elim q1 q2)]
  · rw [if_neg q, if_neg (fun z => q ((pk_lEQ (by omega) (by omega)).mp z))]
theorem hlf {x y i : Nat} (hyx : y ≤ x) (y0 : 0 < y) (hp : x * y * 2 ^ i ≤ 2 ^ 127) : y * (x % y) * 2 ^ (i + 1) ≤ 2 ^ 127 := by
  have hmh := mod_half hyx y0
  have e : y * (x % y) * 2 ^ (i + 1) = (2 * (x % y)) * y * 2 ^ i := by
    rw [Nat.pow_succ, Nat.mul_comm (2 ^ i) 2, ← Nat.mul_assoc, Nat.mul_comm y (x % y), Nat.mul_right_comm _ y 2, Nat.mul_comm (x % y) 2]
  rw [e]
  exact Nat.le_trans (Nat.mul_le_mul_right _ (Nat.mul_le_mul_right _ hmh)) hp
theorem isl_go : ∀ (s x y u v i : Nat), y + v = s → x < 2 ^ 63 → y < 2 ^ 63 → u < 2 ^ 63 → v < 2 ^ 63 → 0 < y → 0 < v → (i = 0 ∨ (y ≤ x ∧ v ≤ u ∧ x * y * 2 ^ i ≤ 2 ^ 127 ∧ u * v * 2 ^ i ≤ 2 ^ 127)) → (lpc (fun s : Int64 × Int64 × Int64 × Int64 × Int32 => fX10_isLess_b17 s.1 s.2.1 s.2.2.1 s.2.2.2.1 s.2.2.2.2) (lN x, lN y, lN u, lN v, nI i)).bind finC = some (if x * v < u * y then 1 else 0) := by
  intro s
  induction s using Nat.strongRecOn with
  | ind s ih =>
    intro x y u v i hs hx hy hu hv y0 v0 hinv
    have hi : i < 400 := by
      rcases hinv with h | ⟨h1, h2, h3, h4⟩
      · omega
      · by_cases q : i < 400
        · exact q
        · exfalso
          have h5 : 1 ≤ x * y := Nat.mul_le_mul (show 1 ≤ x by omega) y0
          have h6 : 2 ^ 128 ≤ 2 ^ i := Nat.pow_le_pow_right (by omega) (by omega)
          have h7 := Nat.le_trans (Nat.mul_le_mul h5 h6) h3
          revert h7; decide
    have eb := isl_b hx hy hu hv y0 v0 hi
    have a3 := Nat.mod_lt x y0
    have a4 := Nat.mod_lt u v0
    have a1 := Nat.div_le_self x y
    have a2 := Nat.div_le_self u v
    by_cases q : x / y = u / v
    · obtain ⟨f1, f2⟩ := fr_q y0 v0 q
      rw [if_pos q] at eb
      by_cases q1 : x % y = 0 ∨ u % v = 0
      · rw [if_pos q1] at eb
        rw [lpc_exit (s := (lN x, lN y, lN u, lN v, nI i)) eb, ob_s]
        show (if lN (u % v) = (0 : Int64) then some (0 : Int32) else some 1) = _
        by_cases q2 : u % v = 0
        · rw [if_pos (show lN (u % v) = (0 : Int64) by rw [q2]; rfl), if_neg (fun z => by have := f1.mp z; rw [q2] at this; omega)]
        · rw [if_neg (lN_ne0 (by omega) (by omega)), if_pos (f1.mpr (by
            have : x % y = 0 := q1.elim id (fun z => absurd z q2)
            rw [this, Nat.zero_mul]; exact Nat.mul_pos (by omega) y0))]
      · rw [if_neg q1] at eb
        have r1 : 0 < x % y := Nat.pos_of_ne_zero (fun z => q1 (Or.inl z))
        have r2 : 0 < u % v := Nat.pos_of_ne_zero (fun z => q1 (Or.inr z))
        rw [lpc_step (s := (lN x, lN y, lN u, lN v, nI i)) eb]
        rw [ih (u % v + x % y) (by omega) v (u % v) y (x % y) (i + 1) rfl hv (by omega) hy (by omega) r2 r1 (Or.inr ⟨by omega, by omega, ?_, ?_⟩)]
        · congr 1
          have e : v * (x % y) < y * (u % v) ↔ x * v < u * y := by rw [f1, Nat.mul_comm v, Nat.mul_comm y]
          by_cases z : x * v < u * y
          · rw [if_pos z, if_pos (e.mpr z)]
          · rw [if_neg z, if_neg (fun w => z (e.mp w))]
        · rcases hinv with h | ⟨h1, h2, h3, h4⟩
          · rw [h]
            have b1 : v * (u % v) ≤ 2 ^ 63 * 2 ^ 63 := Nat.mul_le_mul (by omega) (by omega)
            exact Nat.le_trans (Nat.mul_le_mul_right (2 ^ (0 + 1)) b1) (by decide)
          · exact hlf h2 v0 h4
        · rcases hinv with h | ⟨h1, h2, h3, h4⟩
          · rw [h]
            have b1 : y * (x % y) ≤ 2 ^ 63 * 2 ^ 63 := Nat.mul_le_mul (by omega) (by omega)
            exact Nat.le_trans (Nat.mul_le_mul_right (2 ^ (0 + 1)) b1) (by decide)
          · exact hlf h1 y0 h3
    · rw [if_neg q] at eb
      rw [lpc_exit (s := (lN x, lN y, lN u, lN v, nI i)) eb, ob_s]
      show (if lN (u / v) ≤ lN (x / y) then some (0 : Int32) else some 1) = _
      by_cases z : u / v ≤ x / y
      · have := fr_d v0 y0 (show u / v < x / y by omega)
        rw [if_pos ((pk_lLE (by omega) (by omega)).mpr z), if_neg (by omega)]
      · have := fr_d y0 v0 (show x / y < u / v by omega)
        rw [if_neg (fun w => z ((pk_lLE (by omega) (by omega)).mp w)), if_pos this]
theorem c_isLess {a b c d : Nat} (ha : a < 2 ^ 63) (hb : b < 2 ^ 63) (hc : c < 2 ^ 63) (hd : d < 2 ^ 63) (b0 : 0 < b) (d0 : 0 < d) : fX10_isLess (lN a) (lN b) (lN c) (lN d) = some (if a * d < c * b then 1 else 0) := isl_go _ a b c d 0 rfl ha hb hc hd b0 d0 (Or.inl rfl)
noncomputable abbrev finM (r : (Int32 × Int64 × Int64) ⊕ (Int64 × Int64 × Int32)) : Option Int32 := Sum.elim (fun r1_0 => if r1_0.2.2 ≤ r1_0.2.1 then fX11_isLess_j52 r1_0.1 0 else fX11_isLess_j52 r1_0.1 1) (fun r1_1 => if r1_1.2.2 = (0 : Int32) then if r1_1.1 = (0 : Int64) then if r1_1.2.1 ≤ (0 : Int64) then some (0 : Int32) else some (1 : Int32) else some (0 : Int32) else if r1_1.2.1 = (0 : Int64) then if r1_1.1 ≤ (0 : Int64) then fX11_isLess_j114 else some (1 : Int32) else fX11_isLess_j114) r
theorem islm_b {x y u v : Nat} {t : Bool} (hx : x < 2 ^ 63) (hy : y < 2 ^ 63) (hu : u < 2 ^ 63) (hv : v < 2 ^ 63) (y0 : 0 < y) (v0 : 0 < v) : fX11_isLess_b17 (lN x) (lN y) (lN u) (lN v) (if t then 1 else 0) = if x / y = u / v then (if x % y = 0 ∨ u % v = 0 then some (.inr (.inr (lN (x % y), lN (u % v), if t then 1 else 0))) else some (.inl (lN y, lN (x % y), lN v, lN (u % v), if !t then 1 else 0))) else some (.inr (.inl (if t then 1 else 0, lN (x / y), lN (u / v)))) := by
  unfold fX11_isLess_b17 fX11_isLess_j172
  simp only [ltb]
  have a1 := Nat.div_le_self x y
  have a2 := Nat.div_le_self u v
  have a3 := Nat.mod_le x y
  have a4 := Nat.mod_le u v
  rw [if_neg (lN_ne0 y0 hy), if_neg (lN_ne0 v0 hv), if_neg (lN_ne0 y0 hy), if_neg (lN_ne0 v0 hv), pk_lRem hx y0 hy, pk_lRem hu v0 hv, pk_lDiv hx y0 hy, pk_lDiv hu v0 hv]
  by_cases q : x / y = u / v
  · rw [if_pos q, if_pos (show lN (x / y) = lN (u / v) by rw [q])]
    by_cases q1 : x % y = 0
    · rw [if_pos (Or.inl q1), if_pos (show lN (x % y) = (0 : Int64) by rw [q1]; rfl)]
    · rw [if_neg (lN_ne0 (by omega) (by omega))]
      by_cases q2 : u % v = 0
      · rw [if_pos (Or.inr q2), if_pos (show lN (u % v) = (0 : Int64) by rw [q2]; rfl)]
      · rw [if_neg (lN_ne0 (by omega) (by omega)), if_neg (show ¬ (x % y = 0 ∨ u % v = 0) from fun z => z.elim q1 q2)]
        cases t
        · rfl
        · rfl
  · rw [if_neg q, if_neg (fun z => q ((pk_lEQ (by omega) (by omega)).mp z))]
theorem islm_go : ∀ (s x y u v : Nat) (t : Bool), y + v = s → x < 2 ^ 63 → y < 2 ^ 63 → u < 2 ^ 63 → v < 2 ^ 63 → 0 < y → 0 < v → (lpc (fun s : Int64 × Int64 × Int64 × Int64 × Int32 => fX11_isLess_b17 s.1 s.2.1 s.2.2.1 s.2.2.2.1 s.2.2.2.2) (lN x, lN y, lN u, lN v, if t then 1 else 0)).bind finM = some (if (if t then u * y < x * v else x * v < u * y) then 1 else 0) := by
  intro s
  induction s using Nat.strongRecOn with
  | ind s ih =>
    intro x y u v t hs hx hy hu hv y0 v0
    have eb := islm_b (t := t) hx hy hu hv y0 v0
    have a3 := Nat.mod_lt x y0
    have a4 := Nat.mod_lt u v0
    have a1 := Nat.div_le_self x y
    have a2 := Nat.div_le_self u v
    by_cases q : x / y = u / v
    · obtain ⟨f1, f2⟩ := fr_q y0 v0 q
      rw [if_pos q] at eb
      by_cases q1 : x % y = 0 ∨ u % v = 0
      · rw [if_pos q1] at eb
        rw [lpc_exit (s := (lN x, lN y, lN u, lN v, if t then 1 else 0)) eb, ob_s]
        have z1 : (lN (x % y) = (0 : Int64)) ↔ x % y = 0 := ⟨fun z => (pk_lEQ (b := 0) (by omega) (by omega)).mp z, fun z => by rw [z]; rfl⟩
        have z2 : (lN (u % v) = (0 : Int64)) ↔ u % v = 0 := ⟨fun z => (pk_lEQ (b := 0) (by omega) (by omega)).mp z, fun z => by rw [z]; rfl⟩
        have z3 : (lN (x % y) ≤ (0 : Int64)) ↔ x % y = 0 := ⟨fun z => Nat.le_zero.mp ((pk_lLE (b := 0) (by omega) (by omega)).mp z), fun z => by rw [z]; decide⟩
        have z4 : (lN (u % v) ≤ (0 : Int64)) ↔ u % v = 0 := ⟨fun z => Nat.le_zero.mp ((pk_lLE (b := 0) (by omega) (by omega)).mp z), fun z => by rw [z]; decide⟩
        cases t
        · show (if (0 : Int32) = 0 then (if lN (x % y) = (0 : Int64) then (if lN (u % v) ≤ (0 : Int64) then some (0 : Int32) else some 1) else some 0) else (if lN (u % v) = (0 : Int64) then (if lN (x % y) ≤ (0 : Int64) then fX11_isLess_j114 else some (1 : Int32)) else fX11_isLess_j114)) = some (if x * v < u * y then 1 else 0)
          rw [if_pos rfl]
          by_cases q2 : x % y = 0
          · rw [if_pos (z1.mpr q2)]
            by_cases q3 : u % v = 0
            · rw [if_pos (z4.mpr q3), if_neg (fun z => by have := f1.mp z; rw [q3] at this; omega)]
            · rw [if_neg (fun z => q3 (z4.mp z)), if_pos (f1.mpr (by rw [q2, Nat.zero_mul]; exact Nat.mul_pos (by omega) y0))]
          · have q3 : u % v = 0 := q1.elim (fun z => absurd z q2) id
            rw [if_neg (fun z => q2 (z1.mp z)), if_neg (fun z => by have := f1.mp z; rw [q3] at this; omega)]
        · show (if (1 : Int32) = 0 then (if lN (x % y) = (0 : Int64) then (if lN (u % v) ≤ (0 : Int64) then some (0 : Int32) else some 1) else some 0) else (if lN (u % v) = (0 : Int64) then (if lN (x % y) ≤ (0 : Int64) then fX11_isLess_j114 else some (1 : Int32)) else fX11_isLess_j114)) = some (if u * y < x * v then 1 else 0)
          rw [if_neg one_ne]
          unfold fX11_isLess_j114
          by_cases q2 : u % v = 0
          · rw [if_pos (z2.mpr q2)]
            by_cases q3 : x % y = 0
            · rw [if_pos (z3.mpr q3), if_neg (fun z => by have := f2.mp z; rw [q3] at this; omega)]
            · rw [if_neg (fun z => q3 (z3.mp z)), if_pos (f2.mpr (by rw [q2, Nat.zero_mul]; exact Nat.mul_pos (by omega) v0))]
          · have q3 : x % y = 0 := q1.elim id (fun z => absurd z q2)
            rw [if_neg (fun z => q2 (z2.mp z)), if_neg (fun z => by have := f2.mp z; rw [q3] at this; omega)]
      · rw [if_neg q1] at eb
        have r1 : 0 < x % y := Nat.pos_of_ne_zero (fun z => q1 (Or.inl z))
        have r2 : 0 < u % v := Nat.pos_of_ne_zero (fun z => q1 (Or.inr z))
        rw [lpc_step (s := (lN x, lN y, lN u, lN v, if t then 1 else 0)) eb]
        rw [ih (x % y + u % v) (by omega) y (x % y) v (u % v) (!t) rfl hy (by omega) hv (by omega) r1 r2]
        congr 1
        have e1 : v * (x % y) < y * (u % v) ↔ x * v < u * y := by rw [f1, Nat.mul_comm v, Nat.mul_comm y]
        have e2 : y * (u % v) < v * (x % y) ↔ u * y < x * v := by rw [f2, Nat.mul_comm v, Nat.mul_comm y]
        cases t
        · show (if v * (x % y) < y * (u % v) then (1 : Int32) else 0) = if x * v < u * y then 1 else 0
          by_cases z : x * v < u * y
          · rw [if_pos z, if_pos (e1.mpr z)]
          · rw [if_neg z, if_neg (fun w => z (e1.mp w))]
        · show (if y * (u % v) < v * (x % y) then (1 : Int32) else 0) = if u * y < x * v then 1 else 0
          by_cases z : u * y < x * v
          · rw [if_pos z, if_pos (e2.mpr z)]
          · rw [if_neg z, if_neg (fun w => z (e2.mp w))]
    · rw [if_neg q] at eb
      rw [lpc_exit (s := (lN x, lN y, lN u, lN v, if t then 1 else 0)) eb, ob_s]
      show (if lN (u / v) ≤ lN (x / y) then fX11_isLess_j52 (if t then 1 else 0) 0 else fX11_isLess_j52 (if t then 1 else 0) 1) = _
      unfold fX11_isLess_j52
      by_cases z : u / v ≤ x / y
      · have := fr_d v0 y0 (show u / v < x / y by omega)
        rw [if_pos ((pk_lLE (by omega) (by omega)).mpr z)]
        cases t
        · show (if (0 : Int32) = 0 then some (0 : Int32) else some 1) = some (if x * v < u * y then 1 else 0)
          rw [if_pos rfl, if_neg (by omega)]
        · show (if (0 : Int32) = 1 then some (0 : Int32) else some 1) = some (if u * y < x * v then 1 else 0)
          rw [if_neg (by decide), if_pos this]
      · have := fr_d y0 v0 (show x / y < u / v by omega)
        rw [if_neg (fun w => z ((pk_lLE (by omega) (by omega)).mp w))]
        cases t
        · show (if (1 : Int32) = 0 then some (0 : Int32) else some 1) = some (if x * v < u * y then 1 else 0)
          rw [if_neg one_ne, if_pos this]
        · show (if (1 : Int32) = 1 then some (0 : Int32) else some 1) = some (if u * y < x * v then 1 else 0)
          rw [if_pos rfl, if_neg (by omega)]
theorem m_isLess {a b c d : Nat} (ha : a < 2 ^ 63) (hb : b < 2 ^ 63) (hc : c < 2 ^ 63) (hd : d < 2 ^ 63) (b0 : 0 < b) (d0 : 0 < d) : fX11_isLess (lN a) (lN b) (lN c) (lN d) = some (if a * d < c * b then 1 else 0) := islm_go _ a b c d false rfl ha hb hc hd b0 d0
