/-! ways: bounds and where they may be -/
theorem lb_s {A : AbS} {b : Nat} (hb : b < (aB A).length) : loB A.1 (b + 1) = loB A.1 b + (if kdB (aB A) b < 3 then 1 else 0) := lo_s hb
theorem lb_le (A : AbS) (b : Nat) : loB A.1 b ≤ nlo (aB A) := lo_le (aB A) b
theorem lb_0 (A : AbS) : loB A.1 0 = 0 := rfl
theorem lb_len (A : AbS) : loB A.1 (aB A).length = nlo (aB A) := by
  show nlo ((aB A).take (aB A).length) = _
  rw [List.take_length]
theorem lb_b (A : AbS) : ∀ b, b ≤ (aB A).length → loB A.1 b ≤ b := by
  intro b
  induction b with
  | zero => intro _; exact Nat.le_refl _
  | succ b ih => intro h; rw [lb_s (by omega)]; have := ih (by omega); split <;> omega
theorem lb_mono (A : AbS) {a b : Nat} (h : a ≤ b) (hb : b ≤ (aB A).length) : loB A.1 a ≤ loB A.1 b := by
  induction b with
  | zero => have : a = 0 := by omega
            rw [this]; exact Nat.le_refl _
  | succ b ih =>
    by_cases q : a = b + 1
    · rw [q]; exact Nat.le_refl _
    · have := ih (by omega) (by omega)
      rw [lb_s (by omega)]; omega
theorem od_l {A : AbS} {b k : Nat} (hk : k < 3) (e : kdB (aB A) b = nI k) : odB A.1 b 0 = aM A k ∧ odB A.1 b 1 = 16 - aM A k - aD A k ∧ odB A.1 b 2 = aD A k := by
  have h3 : kdB (cB A.1) b < 3 := by
    show kdB (aB A) b < 3
    rw [e]; exact nI_lt (b := 3) hk (by omega)
  have hc : (kdB (cB A.1) b).toNatClampNeg = k := by
    show (kdB (aB A) b).toNatClampNeg = k
    rw [e, nI_clamp (by omega)]
  unfold odB
  rw [if_pos h3, if_pos h3, if_pos h3, hc]
  exact ⟨rfl, rfl, rfl⟩
theorem od_n {A : AbS} {b : Nat} (h : ¬ kdB (aB A) b < 3) : odB A.1 b 0 = 0 ∧ odB A.1 b 1 = 1 ∧ odB A.1 b 2 = 0 := by
  unfold odB
  rw [if_neg h, if_neg h, if_neg h]
  exact ⟨rfl, rfl, rfl⟩
theorem od_sum {A : AbS} (hA : OKA A) {b : Nat} (hb : b < (aB A).length) : odB A.1 b 0 + odB A.1 b 1 + odB A.1 b 2 = if kdB (aB A) b < 3 then 16 else 1 := by
  by_cases h : kdB (aB A) b < 3
  · obtain ⟨k, hk, e⟩ := kd_l (T := aT A) hb h
    obtain ⟨h1, h2, h3⟩ := od_l hk e
    have := hA.2.1 k hk
    rw [h1, h2, h3, if_pos h]; omega
  · obtain ⟨h1, h2, h3⟩ := od_n h
    rw [h1, h2, h3, if_neg h]
theorem wt_s (C : CoS) (b n : Nat) : Wt C (b + 1) n = Wt C b n * odB C b 0 + (if 1 ≤ n then Wt C b (n - 1) * odB C b 1 * ntW C n b else 0) + (if 2 ≤ n then Wt C b (n - 2) * odB C b 2 * ntW C (n - 1) b * ntW C n b else 0) := rfl
theorem wt_out {A : AbS} : ∀ b, b ≤ (aB A).length → ∀ n, n + loB A.1 b < b ∨ b + loB A.1 b < n → Wt A.1 b n = 0 := by
  intro b
  induction b with
  | zero => intro _ n h; rw [lb_0] at h; unfold Wt; rw [if_neg (by omega)]
  | succ b ih =>
    intro hb n h
    have ih := ih (by omega)
    rw [lb_s (by omega)] at h
    rw [wt_s]
    by_cases k3 : kdB (aB A) b < 3
    · rw [if_pos k3] at h
      rw [ih n (by omega)]
      by_cases h1 : 1 ≤ n
      · rw [if_pos h1, ih (n - 1) (by omega)]
        by_cases h2 : 2 ≤ n
        · rw [if_pos h2, ih (n - 2) (by omega)]; simp
        · rw [if_neg h2]; simp
      · rw [if_neg h1, if_neg (by omega)]; simp
    · obtain ⟨o0, o1, o2⟩ := od_n k3
      rw [if_neg k3] at h
      rw [o0, o2]
      by_cases h1 : 1 ≤ n
      · rw [if_pos h1, ih (n - 1) (by omega)]; simp
      · rw [if_neg h1]; simp
theorem loA10 (A : AbS) (b : Nat) : loB A.1 b ≤ 10 := Nat.le_trans (lb_le A b) (loA A)
theorem ut_out {A : AbS} {N b : Nat} (hN : 1 ≤ N) (hb : b < (aB A).length) (h : ¬ (b ≤ N + 9 ∧ N + 9 ≤ b + 20)) : Ut A.1 N b = 0 := by
  have h10 := loA10 A b
  unfold Ut
  rw [wt_out b (by omega) (N - 1) (by omega)]
  by_cases h2 : 2 ≤ N
  · rw [if_pos h2]
    by_cases k3 : kdB (aB A) b < 3
    · have h11 := loA10 A (b + 1)
      rw [lb_s hb, if_pos k3] at h11
      rw [wt_out b (by omega) (N - 2) (by omega)]; simp
    · rw [(od_n k3).2.2]; simp
  · rw [if_neg h2]; simp
/-! notes -/
abbrev cEq (l : List (Nat × Int32 × Int32)) (n : Nat) : Nat := l.countP (fun x => decide (x.1 = n))
abbrev cRn (l : List (Nat × Int32 × Int32)) (n N : Nat) : Nat := l.countP (fun x => decide (n < x.1 ∧ x.1 ≤ N))
theorem cEq_c (x : Nat × Int32 × Int32) (l : List (Nat × Int32 × Int32)) (n : Nat) : cEq (x :: l) n = cEq l n + (if x.1 = n then 1 else 0) := by
  show List.countP _ (x :: l) = _
  rw [List.countP_cons]
  simp only [decide_eq_true_eq]
theorem cRn_c (x : Nat × Int32 × Int32) (l : List (Nat × Int32 × Int32)) (n N : Nat) : cRn (x :: l) n N = cRn l n N + (if n < x.1 ∧ x.1 ≤ N then 1 else 0) := by
  show List.countP _ (x :: l) = _
  rw [List.countP_cons]
  simp only [decide_eq_true_eq]
theorem cR_s {n N : Nat} (h1 : 1 ≤ n) (h2 : n ≤ N) : ∀ l, cRn l (n - 1) N = cRn l n N + cEq l n := by
  intro l
  induction l with
  | nil => rfl
  | cons x l ih =>
    rw [cRn_c, cRn_c, cEq_c, ih]
    by_cases q1 : x.1 = n
    · have a : n - 1 < x.1 ∧ x.1 ≤ N := by omega
      have b : ¬ (n < x.1 ∧ x.1 ≤ N) := by omega
      rw [if_pos a, if_neg b, if_pos q1]; omega
    · by_cases q2 : n < x.1 ∧ x.1 ≤ N
      · have a : n - 1 < x.1 ∧ x.1 ≤ N := by omega
        rw [if_pos a, if_pos q2, if_neg q1]; omega
      · have a : ¬ (n - 1 < x.1 ∧ x.1 ≤ N) := by omega
        rw [if_neg a, if_neg q2, if_neg q1] <;> omega
theorem nt1_le {A : AbS} (hA : OKA A) (n b : Nat) (x : Nat × Int32 × Int32) : nt1 A.1 n b x ≤ 16 ∧ (x.1 ≠ n → nt1 A.1 n b x = 1) := by
  have h0 : aS A 0 ≤ 16 := hA.2.2.1 0 (by omega)
  have h1 : aS A 1 ≤ 16 := hA.2.2.1 1 (by omega)
  have h2 : aS A 2 ≤ 16 := hA.2.2.1 2 (by omega)
  have h3 : aS A 3 ≤ 16 := hA.2.2.1 3 (by omega)
  unfold nt1
  refine ⟨?_, fun h => if_neg h⟩
  show (if _ then (if _ then (if _ then aS A 3 else 16 - aS A 3) else if _ then (if _ then aS A 0 else aS A 1) else aS A 2) else 1) ≤ 16
  repeat' split
  all_goals first | omega | exact Nat.sub_le _ _
theorem ntL_le {A : AbS} (hA : OKA A) (n b : Nat) : ∀ l, ntL A.1 n b l ≤ 16 ^ cEq l n := by
  intro l
  induction l with
  | nil => exact Nat.le_refl _
  | cons x l ih =>
    show nt1 A.1 n b x * ntL A.1 n b l ≤ _
    rw [cEq_c]
    by_cases q : x.1 = n
    · rw [if_pos q, Nat.pow_succ, Nat.mul_comm]
      exact Nat.mul_le_mul ih (nt1_le hA n b x).1
    · rw [if_neg q, (nt1_le hA n b x).2 q, Nat.one_mul]; exact ih
theorem ntW_le {A : AbS} (hA : OKA A) {n N b : Nat} (h1 : 1 ≤ n) (h2 : n ≤ N) : ntW A.1 n b * 16 ^ cRn (aN A) n N ≤ 16 ^ cRn (aN A) (n - 1) N := by
  rw [cR_s h1 h2, Nat.pow_add, Nat.mul_comm]
  exact Nat.mul_le_mul_left _ (ntL_le hA n b _)
/-! what all ways weigh together -/
theorem sm_mono {f g : Nat → Nat} : ∀ n, (∀ i, i < n → f i ≤ g i) → sm f n ≤ sm g n := by
  intro n
  induction n with
  | zero => intro _; exact Nat.le_refl _
  | succ n ih => intro h; rw [sm_s, sm_s]; have := ih (fun i hi => h i (by omega)); have := h n (by omega); omega
theorem sm_term {f : Nat → Nat} {i : Nat} : ∀ n, i < n → f i ≤ sm f n := by
  intro n
  induction n with
  | zero => intro h; omega
  | succ n ih =>
    intro h
    rw [sm_s]
    by_cases q : i = n
    · rw [q]; omega
    · have := ih (by omega); omega
theorem sm_mul (f : Nat → Nat) (k : Nat) : ∀ n, sm (fun i => f i * k) n = sm f n * k := by
  intro n
  induction n with
  | zero => rw [show sm f 0 = 0 from rfl, Nat.zero_mul]; rfl
  | succ n ih => rw [sm_s, sm_s, ih, Nat.add_mul]
theorem sm_sh1 (f : Nat → Nat) : ∀ N, sm (fun n => if 1 ≤ n then f (n - 1) else 0) (N + 1) = sm f N := by
  intro N
  induction N with
  | zero => rfl
  | succ N ih => rw [sm_s, ih, sm_s, if_pos (by omega)]; rfl
theorem sm_sh2 (f : Nat → Nat) : ∀ N, sm (fun n => if 2 ≤ n then f (n - 2) else 0) (N + 2) = sm f N := by
  intro N
  induction N with
  | zero => rfl
  | succ N ih => rw [sm_s, ih, sm_s, if_pos (by omega)]; rfl
def PH (A : AbS) (N b : Nat) : Nat := sm (fun n => Wt A.1 b n * 16 ^ cRn (aN A) n N) N
theorem mul_abc {W o w E E' : Nat} (h : w * E ≤ E') : W * o * w * E ≤ W * E' * o := by
  rw [Nat.mul_assoc, Nat.mul_right_comm W E' o]
  exact Nat.mul_le_mul_left _ h
theorem mul_abcd {W o w w' E E' E'' : Nat} (h : w * E' ≤ E'') (h' : w' * E ≤ E') : W * o * w * w' * E ≤ W * E'' * o := by
  rw [Nat.mul_assoc, Nat.mul_assoc, Nat.mul_right_comm W E'' o]
  refine Nat.mul_le_mul_left _ (Nat.le_trans (Nat.mul_le_mul_left w h') h)
theorem PH_s {A : AbS} (hA : OKA A) {N b : Nat} (hN : 1 ≤ N) : PH A N (b + 1) + Ut A.1 N b ≤ PH A N b * (odB A.1 b 0 + odB A.1 b 1 + odB A.1 b 2) := by
  obtain ⟨M, rfl⟩ : ∃ M, N = M + 1 := ⟨N - 1, by omega⟩
  have hpt : ∀ n, n < M + 1 → Wt A.1 (b + 1) n * 16 ^ cRn (aN A) n (M + 1) ≤ (Wt A.1 b n * 16 ^ cRn (aN A) n (M + 1)) * odB A.1 b 0 + (if 1 ≤ n then (Wt A.1 b (n - 1) * 16 ^ cRn (aN A) (n - 1) (M + 1)) * odB A.1 b 1 else 0) + (if 2 ≤ n then (Wt A.1 b (n - 2) * 16 ^ cRn (aN A) (n - 2) (M + 1)) * odB A.1 b 2 else 0) := by
    intro n hn
    rw [wt_s, Nat.add_mul, Nat.add_mul]
    refine Nat.add_le_add (Nat.add_le_add (Nat.le_of_eq (Nat.mul_right_comm _ _ _)) ?_) ?_
    · by_cases h1 : 1 ≤ n
      · rw [if_pos h1, if_pos h1]
        exact mul_abc (ntW_le hA h1 (by omega))
      · rw [if_neg h1, if_neg h1]; omega
    · by_cases h2 : 2 ≤ n
      · rw [if_pos h2, if_pos h2]
        have := ntW_le hA (n := n - 1) (N := M + 1) (b := b) (by omega) (by omega)
        rw [show n - 1 - 1 = n - 2 by omega] at this
        exact mul_abcd this (ntW_le hA (by omega) (by omega))
      · rw [if_neg h2, if_neg h2]; omega
  have hs := sm_mono (M + 1) hpt
  rw [sm_add, sm_add, sm_mul, sm_sh1 (fun n => (Wt A.1 b n * 16 ^ cRn (aN A) n (M + 1)) * odB A.1 b 1) M, sm_mul] at hs
  have hu : Ut A.1 (M + 1) b ≤ (Wt A.1 b M * 16 ^ cRn (aN A) M (M + 1)) * odB A.1 b 1 + (Wt A.1 b M * 16 ^ cRn (aN A) M (M + 1)) * odB A.1 b 2 + (if 1 ≤ M then (Wt A.1 b (M - 1) * 16 ^ cRn (aN A) (M - 1) (M + 1)) * odB A.1 b 2 else 0) := by
    have e1 := ntW_le hA (n := M + 1) (N := M + 1) (b := b) (by omega) (by omega)
    have e0 : cRn (aN A) (M + 1) (M + 1) = 0 := by
      refine List.countP_eq_zero.mpr (fun x _ => ?_); simp
    rw [e0, Nat.pow_zero] at e1
    unfold Ut
    rw [Nat.add_sub_cancel, Nat.mul_add, Nat.add_mul]
    have a1 : Wt A.1 b M * odB A.1 b 1 * ntW A.1 (M + 1) b ≤ (Wt A.1 b M * 16 ^ cRn (aN A) M (M + 1)) * odB A.1 b 1 := by
      have := mul_abc (W := Wt A.1 b M) (o := odB A.1 b 1) e1
      rw [Nat.mul_one] at this; exact this
    have a2 : Wt A.1 b M * odB A.1 b 2 * ntW A.1 (M + 1) b ≤ (Wt A.1 b M * 16 ^ cRn (aN A) M (M + 1)) * odB A.1 b 2 := by
      have := mul_abc (W := Wt A.1 b M) (o := odB A.1 b 2) e1
      rw [Nat.mul_one] at this; exact this
    refine Nat.add_le_add (Nat.add_le_add a1 a2) ?_
    by_cases h2 : 1 ≤ M
    · rw [if_pos (by omega), if_pos h2, show M + 1 - 2 = M - 1 by omega]
      have e2 := ntW_le hA (n := M) (N := M + 1) (b := b) h2 (by omega)
      have := mul_abcd (W := Wt A.1 b (M - 1)) (o := odB A.1 b 2) e2 e1
      rw [Nat.mul_one] at this; exact this
    · rw [if_neg (by omega), if_neg h2]; omega
  have hPH : PH A (M + 1) b = sm (fun n => Wt A.1 b n * 16 ^ cRn (aN A) n (M + 1)) M + Wt A.1 b M * 16 ^ cRn (aN A) M (M + 1) := rfl
  have hPH2 : sm (fun n => Wt A.1 b n * 16 ^ cRn (aN A) n (M + 1)) (M + 1) = PH A (M + 1) b := rfl
  have hPH3 : PH A (M + 1) (b + 1) = sm (fun n => Wt A.1 (b + 1) n * 16 ^ cRn (aN A) n (M + 1)) (M + 1) := rfl
  rw [hPH2] at hs
  rw [← hPH3] at hs
  rw [Nat.mul_add, Nat.mul_add]
  generalize hg : (fun n => Wt A.1 b n * 16 ^ cRn (aN A) n (M + 1)) = g at *
  have gM : Wt A.1 b M * 16 ^ cRn (aN A) M (M + 1) = g M := by rw [← hg]
  rw [gM] at hu hPH
  have e1 : PH A (M + 1) b * odB A.1 b 1 = sm g M * odB A.1 b 1 + g M * odB A.1 b 1 := by rw [hPH, Nat.add_mul]
  rcases M with _ | M
  · have z2 : sm (fun n => if 2 ≤ n then (Wt A.1 b (n - 2) * 16 ^ cRn (aN A) (n - 2) (0 + 1)) * odB A.1 b 2 else 0) (0 + 1) = 0 := rfl
    rw [z2] at hs
    rw [if_neg (by omega)] at hu
    have e2 : PH A (0 + 1) b * odB A.1 b 2 = g 0 * odB A.1 b 2 := by rw [hPH, show sm g 0 = 0 from rfl, Nat.zero_add]
    omega
  · have z2 : sm (fun n => if 2 ≤ n then (Wt A.1 b (n - 2) * 16 ^ cRn (aN A) (n - 2) (M + 1 + 1)) * odB A.1 b 2 else 0) (M + 1 + 1) = sm g M * odB A.1 b 2 := by
      rw [show M + 1 + 1 = M + 2 from rfl, sm_sh2 (fun n => (Wt A.1 b n * 16 ^ cRn (aN A) n (M + 2)) * odB A.1 b 2) M, sm_mul, ← hg]
    rw [z2] at hs
    rw [if_pos (by omega), Nat.add_sub_cancel] at hu
    have gM1 : Wt A.1 b M * 16 ^ cRn (aN A) M (M + 1 + 1) = g M := by rw [← hg]
    rw [gM1] at hu
    have e2 : PH A (M + 1 + 1) b * odB A.1 b 2 = sm g M * odB A.1 b 2 + g M * odB A.1 b 2 + g (M + 1) * odB A.1 b 2 := by rw [hPH, sm_s, Nat.add_mul, Nat.add_mul]
    omega
theorem PH_all {A : AbS} (hA : OKA A) {N : Nat} (hN : 1 ≤ N) : ∀ b, b ≤ (aB A).length → PH A N b + sm (fun c => Ut A.1 N c * 16 ^ (loB A.1 b - loB A.1 (c + 1))) b ≤ 16 ^ (loB A.1 b + 4) := by
  intro b
  induction b with
  | zero =>
    intro _
    obtain ⟨M, rfl⟩ : ∃ M, N = M + 1 := ⟨N - 1, by omega⟩
    have h1 : PH A (M + 1) 0 = 16 ^ cRn (aN A) 0 (M + 1) := by
      unfold PH
      rw [← sm_one (P := fun n => n = 0) (c := 16 ^ cRn (aN A) 0 (M + 1)) (k := 0) (M + 1) (by omega) rfl (fun j _ h => h)]
      refine sm_cg _ (fun n _ => ?_)
      show (if n = 0 then 1 else 0) * _ = _
      by_cases q : n = 0
      · rw [if_pos q, if_pos q, q, Nat.one_mul]
      · rw [if_neg q, if_neg q, Nat.zero_mul]
    rw [h1, lb_0]
    have h2 : cRn (aN A) 0 (M + 1) ≤ (aN A).length := List.countP_le_length
    have h3 := hA.2.2.2.1.1
    have h4 : (16 : Nat) ^ cRn (aN A) 0 (M + 1) ≤ 16 ^ (0 + 4) := Nat.pow_le_pow_right (by omega) (by omega)
    exact h4
  | succ b ih =>
    intro hb
    have ih := ih (by omega)
    have hs := PH_s hA (b := b) hN
    rw [od_sum hA (by omega)] at hs
    have hl := lb_s (A := A) (b := b) (by omega)
    rw [sm_s, Nat.sub_self, Nat.pow_zero, Nat.mul_one]
    have hT : sm (fun c => Ut A.1 N c * 16 ^ (loB A.1 (b + 1) - loB A.1 (c + 1))) b = sm (fun c => Ut A.1 N c * 16 ^ (loB A.1 b - loB A.1 (c + 1))) b * (if kdB (aB A) b < 3 then 16 else 1) := by
      rw [← sm_mul]
      refine sm_cg _ (fun c hc => ?_)
      have hm := lb_mono A (a := c + 1) (b := b) (by omega) (by omega)
      by_cases q : kdB (aB A) b < 3
      · rw [if_pos q] at hl ⊢
        rw [hl, show loB A.1 b + 1 - loB A.1 (c + 1) = (loB A.1 b - loB A.1 (c + 1)) + 1 by omega, Nat.pow_succ, Nat.mul_assoc]
      · rw [if_neg q] at hl ⊢
        rw [hl, Nat.add_zero, Nat.mul_one]
    rw [hT]
    have hR : (16 : Nat) ^ (loB A.1 (b + 1) + 4) = 16 ^ (loB A.1 b + 4) * (if kdB (aB A) b < 3 then 16 else 1) := by
      by_cases q : kdB (aB A) b < 3
      · rw [if_pos q] at hl ⊢
        rw [hl, show loB A.1 b + 1 + 4 = loB A.1 b + 4 + 1 by omega, Nat.pow_succ]
      · rw [if_neg q] at hl ⊢
        rw [hl, Nat.add_zero, Nat.mul_one]
    rw [hR]
    have h5 := Nat.mul_le_mul_right (if kdB (aB A) b < 3 then 16 else 1) ih
    rw [Nat.add_mul] at h5
    omega
theorem al_le {A : AbS} (hA : OKA A) {N : Nat} (hN : 1 ≤ N) : Al A.1 N ≤ 16 ^ (nlo (aB A) + 4) := by
  have h := PH_all hA hN (aB A).length (Nat.le_refl _)
  rw [lb_len] at h
  have : Al A.1 N = sm (fun c => Ut A.1 N c * 16 ^ (nlo (aB A) - loB A.1 (c + 1))) (aB A).length := rfl
  omega
theorem sd_le {A : AbS} {N b : Nat} (hb : b < (aB A).length) : Sd A.1 N b ≤ Al A.1 N := sm_term (f := Sd A.1 N) (aB A).length hb
theorem wt_le {A : AbS} (hA : OKA A) {b n : Nat} (hb : b ≤ (aB A).length) : Wt A.1 b n ≤ 16 ^ (loB A.1 b + 4) := by
  have h := PH_all hA (N := n + 1) (by omega) b hb
  have h1 : Wt A.1 b n * 16 ^ cRn (aN A) n (n + 1) ≤ PH A (n + 1) b := sm_term (f := fun m => Wt A.1 b m * 16 ^ cRn (aN A) m (n + 1)) (n + 1) (by omega)
  have h2 : Wt A.1 b n * 1 ≤ Wt A.1 b n * 16 ^ cRn (aN A) n (n + 1) := Nat.mul_le_mul_left _ (Nat.pos_of_ne_zero (by simp))
  omega
theorem sc_al {A : AbS} (hA : OKA A) {N : Nat} (hN : 1 ≤ N) : scW A.1 * Al A.1 N ≤ 2 ^ 56 := by
  have h1 := Nat.mul_le_mul_left (scW A.1) (al_le hA hN)
  have hlo := loA A
  have h2 : scW A.1 * 16 ^ (nlo (aB A) + 4) = 2 ^ 56 := by
    show 16 ^ (10 - nlo (aB A)) * 16 ^ (nlo (aB A) + 4) = 2 ^ 56
    rw [← Nat.pow_add, show 10 - nlo (aB A) + (nlo (aB A) + 4) = 14 by omega]
  omega
theorem scW_pos (A : AbS) : 0 < scW A.1 := Nat.pos_of_ne_zero (by unfold scW; simp)
theorem al_56 {A : AbS} (hA : OKA A) {N : Nat} (hN : 1 ≤ N) : Al A.1 N ≤ 2 ^ 56 := by
  have h1 := al_le hA hN
  have hlo := loA A
  have h2 : (16 : Nat) ^ (nlo (aB A) + 4) ≤ 16 ^ 14 := Nat.pow_le_pow_right (by omega) (by omega)
  exact Nat.le_trans h1 h2
