/-! the component finds all ways -/
def nwA (A : AbS) (b p : Nat) : Nat := if 10 ≤ b + p then 16 ^ (10 - loB A.1 b) * Wt A.1 b (b + p - 10) else 0
def gA (A : AbS) (b p : Nat) : Nat := if 10 ≤ b + p then 16 ^ (10 - loB A.1 (b + 1)) * Wt A.1 b (b + p - 10) else 0
theorem gA_out {A : AbS} {b p : Nat} (hb : b < (aB A).length) (h : ¬ (10 ≤ p + loB A.1 b ∧ p ≤ 10 + loB A.1 b)) : gA A b p = 0 := by
  unfold gA
  by_cases q : 10 ≤ b + p
  · rw [if_pos q, wt_out b (by omega) (b + p - 10) (by omega), Nat.mul_zero]
  · rw [if_neg q]
theorem nw_g {A : AbS} {b p : Nat} (hb : b < (aB A).length) : nwA A b p = (if kdB (aB A) b < 3 then 16 else 1) * gA A b p := by
  have h1 := lb_s hb
  have h2 := loA10 A (b + 1)
  unfold nwA gA
  by_cases q : 10 ≤ b + p
  · rw [if_pos q, if_pos q]
    by_cases k3 : kdB (aB A) b < 3
    · rw [if_pos k3] at h1 ⊢
      rw [← Nat.mul_assoc, show 10 - loB A.1 b = (10 - loB A.1 (b + 1)) + 1 by omega, Nat.pow_succ, Nat.mul_comm (16 ^ _) 16]
    · rw [if_neg k3] at h1 ⊢
      rw [h1, Nat.add_zero, Nat.one_mul]
  · rw [if_neg q, if_neg q, Nat.mul_zero]
theorem nw_le {A : AbS} (hA : OKA A) {b p : Nat} (hb : b ≤ (aB A).length) : nwA A b p < 2 ^ 63 := by
  have h10 := loA10 A b
  unfold nwA
  by_cases q : 10 ≤ b + p
  · rw [if_pos q]
    have h1 := Nat.mul_le_mul_left (16 ^ (10 - loB A.1 b)) (wt_le hA (n := b + p - 10) hb)
    rw [← Nat.pow_add, show 10 - loB A.1 b + (loB A.1 b + 4) = 14 by omega] at h1
    exact Nat.lt_of_le_of_lt h1 (by decide)
  · rw [if_neg q]; decide
theorem sm_pick1 (F : Nat → Nat) (q : Nat) (n : Nat) : sm (fun p => if p + 1 = q then F p else 0) n = if 1 ≤ q ∧ q ≤ n then F (q - 1) else 0 := by
  rcases q with _ | q
  · rw [if_neg (by omega)]; exact sm_z n (fun i _ => if_neg (by omega))
  · rw [show (fun p => if p + 1 = q + 1 then F p else 0) = (fun p => if p = q then F p else 0) from funext (fun p => by
      by_cases h : p = q
      · rw [if_pos h, if_pos (by omega)]
      · rw [if_neg h, if_neg (by omega)]), sm_pick]
    by_cases h : q < n
    · rw [if_pos h, if_pos (by omega)]; rfl
    · rw [if_neg h, if_neg (by omega)]
theorem nx_eq {A : AbS} {b q : Nat} (hb : b < (aB A).length) (hq : q < 21) : sm (fun p => nxC A.1 b (gA A b) p q) 21 = nwA A (b + 1) q := by
  have h10 := loA10 A b
  have e : (fun p => nxC A.1 b (gA A b) p q) = fun p => (if p = q + 1 then gA A b p * odB A.1 b 0 else 0) + (if p = q then gA A b p * odB A.1 b 1 * ntW A.1 (b + p - 9) b else 0) + (if p + 1 = q then gA A b p * odB A.1 b 2 * ntW A.1 (b + p - 9) b * ntW A.1 (b + p - 8) b else 0) := rfl
  rw [e, sm_add, sm_add, sm_pick (fun p => gA A b p * odB A.1 b 0), sm_pick (fun p => gA A b p * odB A.1 b 1 * ntW A.1 (b + p - 9) b), sm_pick1 (fun p => gA A b p * odB A.1 b 2 * ntW A.1 (b + p - 9) b * ntW A.1 (b + p - 8) b), if_pos hq]
  unfold nwA
  by_cases g : 10 ≤ b + 1 + q
  · rw [if_pos g, wt_s, Nat.mul_add, Nat.mul_add]
    congr 1
    · congr 1
      · by_cases z : q + 1 < 21
        · rw [if_pos z]
          unfold gA
          rw [if_pos (by omega), show b + (q + 1) - 10 = b + 1 + q - 10 by omega, Nat.mul_assoc]
        · rw [if_neg z, wt_out b (by omega) (b + 1 + q - 10) (by omega)]; simp
      · unfold gA
        by_cases z : 10 ≤ b + q
        · rw [if_pos z, if_pos (by omega), show b + 1 + q - 10 - 1 = b + q - 10 by omega, show b + 1 + q - 10 = b + q - 9 by omega, Nat.mul_assoc, Nat.mul_assoc, Nat.mul_assoc]
        · rw [if_neg z, if_neg (by omega)]; simp
    · unfold gA
      by_cases z : 2 ≤ b + 1 + q - 10
      · rw [if_pos z]
        by_cases z1 : 1 ≤ q ∧ q ≤ 21
        · rw [if_pos z1, if_pos (by omega), show b + 1 + q - 10 - 2 = b + (q - 1) - 10 by omega, show b + 1 + q - 10 - 1 = b + (q - 1) - 9 by omega, show b + 1 + q - 10 = b + (q - 1) - 8 by omega, Nat.mul_assoc, Nat.mul_assoc, Nat.mul_assoc, Nat.mul_assoc, Nat.mul_assoc]
        · rw [if_neg z1, wt_out b (by omega) (b + 1 + q - 10 - 2) (by omega)]; simp
      · rw [if_neg z, Nat.mul_zero]
        by_cases z1 : 1 ≤ q ∧ q ≤ 21
        · rw [if_pos z1, if_neg (by omega)]; simp
        · rw [if_neg z1]
  · rw [if_neg g]
    unfold gA
    rw [if_neg (show ¬ 10 ≤ b + (q + 1) by omega), if_neg (show ¬ 10 ≤ b + q by omega), if_neg (show ¬ 10 ≤ b + (q - 1) by omega)]
    simp
def uS (A : AbS) (N b : Nat) : Nat := 16 ^ (10 - loB A.1 (b + 1)) * Ut A.1 N b
theorem sd_eq {A : AbS} {b q N : Nat} (hb : b < (aB A).length) (hq : q < 21) (hN : 1 ≤ N) (e : N + 9 = b + q) : sm (fun p => sdC A.1 b (gA A b) p q) 21 = uS A N b := by
  have h10 := loA10 A b
  have e0 : (fun p => sdC A.1 b (gA A b) p q) = fun p => (if p = q then gA A b p * (odB A.1 b 1 + odB A.1 b 2) * ntW A.1 (b + p - 9) b else 0) + (if p + 1 = q then gA A b p * odB A.1 b 2 * ntW A.1 (b + p - 9) b * ntW A.1 (b + p - 8) b else 0) := rfl
  rw [e0, sm_add, sm_pick (fun p => gA A b p * (odB A.1 b 1 + odB A.1 b 2) * ntW A.1 (b + p - 9) b), sm_pick1 (fun p => gA A b p * odB A.1 b 2 * ntW A.1 (b + p - 9) b * ntW A.1 (b + p - 8) b), if_pos hq]
  unfold uS Ut
  rw [Nat.mul_add (16 ^ (10 - loB A.1 (b + 1)))]
  congr 1
  · unfold gA
    rw [if_pos (by omega), show N - 1 = b + q - 10 by omega, show N = b + q - 9 by omega, Nat.mul_assoc, Nat.mul_assoc, Nat.mul_assoc]
  · unfold gA
    by_cases z : 2 ≤ N
    · rw [if_pos z]
      by_cases z1 : 1 ≤ q ∧ q ≤ 21
      · rw [if_pos z1, if_pos (by omega), show N - 2 = b + (q - 1) - 10 by omega, show N - 1 = b + (q - 1) - 9 by omega, show N = b + (q - 1) - 8 by omega, Nat.mul_assoc, Nat.mul_assoc, Nat.mul_assoc, Nat.mul_assoc, Nat.mul_assoc]
      · rw [if_neg z1, wt_out b (by omega) (N - 2) (by omega)]; simp
    · rw [if_neg z, Nat.mul_zero]
      by_cases z1 : 1 ≤ q ∧ q ≤ 21
      · rw [if_pos z1, if_neg (by omega)]; simp
      · rw [if_neg z1]
theorem sd_hi {A : AbS} {b p q : Nat} (hb : b < (aB A).length) (hp : p < 21) (hq : 21 ≤ q) : sdC A.1 b (gA A b) p q = 0 := by
  unfold sdC
  rw [if_neg (by omega), Nat.zero_add]
  by_cases z : p + 1 = q
  · rw [if_pos z]
    by_cases k3 : kdB (aB A) b < 3
    · have h11 := loA10 A (b + 1)
      rw [lb_s hb, if_pos k3] at h11
      rw [gA_out hb (by omega)]; simp
    · rw [(od_n k3).2.2]; simp
  · rw [if_neg z]
theorem uS_sd {A : AbS} {N b : Nat} (hb : b < (aB A).length) : scW A.1 * Sd A.1 N b = uS A N b := by
  have h1 := lb_le A (b + 1)
  have h2 := loA A
  show 16 ^ (10 - nlo (aB A)) * (Ut A.1 N b * 16 ^ (nlo (aB A) - loB A.1 (b + 1))) = _
  unfold uS
  rw [Nat.mul_left_comm, ← Nat.pow_add, show 10 - nlo (aB A) + (nlo (aB A) - loB A.1 (b + 1)) = 10 - loB A.1 (b + 1) by omega, Nat.mul_comm]
theorem uS_al {A : AbS} {N : Nat} : scW A.1 * Al A.1 N = sm (uS A N) (aB A).length := by
  rw [Nat.mul_comm]
  show sm (Sd A.1 N) (aB A).length * scW A.1 = _
  rw [← sm_mul]
  exact sm_cg _ (fun b hb => by rw [Nat.mul_comm, uS_sd hb])
theorem sj_eq {A : AbS} {b b' q N : Nat} (hb : b < (aB A).length) (hq : q < 21) : (b' < b → sm (fun p => sdJ A.1 b (gA A b) p (b' * 21 + q)) 21 = 0) ∧ (b < b' → sm (fun p => sdJ A.1 b (gA A b) p (b' * 21 + q)) 21 = 0) ∧ (1 ≤ N → N + 9 = b + q → sm (fun p => sdJ A.1 b (gA A b) p (b * 21 + q)) 21 = uS A N b) := by
  refine ⟨fun h => sm_z _ (fun p hp => ?_), fun h => sm_z _ (fun p hp => ?_), fun h1 h2 => ?_⟩
  · unfold sdJ
    rw [if_neg (by omega)]
  · unfold sdJ
    rw [if_pos (by omega)]
    exact sd_hi hb hp (by omega)
  · rw [← sd_eq hb hq h1 h2]
    refine sm_cg _ (fun p _ => ?_)
    unfold sdJ
    rw [if_pos (by omega), Nat.add_sub_cancel_left]
theorem sM_eq {A : AbS} {b M : Nat} (hb : b < (aB A).length) (hM : 1 ≤ M) : sm (fun p => sdM A.1 b (gA A b) p M) 21 = uS A M b := by
  by_cases h : b ≤ M + 9
  · rw [sm_cg (g := fun p => sdC A.1 b (gA A b) p (M + 9 - b)) 21 (fun p _ => by unfold sdM; rw [if_pos h])]
    by_cases h2 : M + 9 - b < 21
    · exact sd_eq hb h2 hM (by omega)
    · rw [sm_z _ (fun p hp => sd_hi hb hp (by omega))]
      unfold uS
      rw [ut_out hM hb (by omega), Nat.mul_zero]
  · rw [sm_z _ (fun p _ => by unfold sdM; rw [if_neg h])]
    unfold uS
    rw [ut_out hM hb (by omega), Nat.mul_zero]
theorem c_find {A : AbS} {σ : St} (hA : OKA A) (h : IC A σ) : ∃ σ', fX9_find σ = some σ' ∧ Lf [20, 21, 22, 23] σ σ' ∧ WOK A.1 σ' := by
  have hl := lenB A
  unfold fX9_find
  obtain ⟨σ1, e1, a1, l1⟩ := p_fillL (r := 20) (n := 2079) (v := 0) (σ := σ) rfl (by omega)
  obtain ⟨σ2, e2, a2, l2⟩ := p_fillL (r := 21) (n := 111) (v := 0) (σ := σ1) rfl (by omega)
  obtain ⟨σ3, e3, a3, l3⟩ := p_fillL (r := 22) (n := 21) (v := 0) (σ := σ2) rfl (by omega)
  obtain ⟨σ4, e4, l4, a4⟩ := p_addTo (r := 22) (n := 21) (i := 10) (v := 16 ^ 10) (σ := σ3) rfl (by omega) (by omega)
  rw [e1, ob_s, e2, ob_s, e3, ob_s, show fX10_addTo 22 (10 : Int32) (1099511627776 : Int64) σ3 = some σ4 from e4, ob_s]
  have hl4 : Lf [20, 21, 22, 23] σ σ4 := (((l1.mono (by decide)).trans (l2.mono (by decide))).trans (l3.mono (by decide))).trans (l4.mono (by decide))
  have key : ∃ r, lpc (fun s => fX9_find_b40 s.1 s.2.1 s.2.2) ((0 : Int32), (0 : Int32), σ4) = some r ∧ (Lf [20, 21, 22, 23] σ r ∧ (∀ N, 1 ≤ N → N ≤ 110 → r.2 21 N = lN (sm (uS A N) (aB A).length)) ∧ ∀ b', b' < (aB A).length → ∀ q, q < 21 → ∀ N, 1 ≤ N → N + 9 = b' + q → r.2 20 (b' * 21 + q) = lN (uS A N b')) := by
    refine lpc_cnt (a := 0) (b := (aB A).length) (fun b s => s.1 = nI (loB A.1 b) ∧ s.2.1 = nI b ∧ Lf [20, 21, 22, 23] σ s.2.2 ∧ (∀ p, p < 21 → s.2.2.2 22 p = lN (nwA A b p)) ∧ (∀ N, 1 ≤ N → N ≤ 110 → s.2.2.2 21 N = lN (sm (uS A N) b)) ∧ (∀ b', b' < b → ∀ q, q < 21 → ∀ N, 1 ≤ N → N + 9 = b' + q → s.2.2.2 20 (b' * 21 + q) = lN (uS A N b')) ∧ ∀ b', b ≤ b' → b' < 99 → ∀ q, q < 21 → s.2.2.2 20 (b' * 21 + q) = 0) _ (Nat.zero_le _) ?_ ?_ ⟨rfl, rfl, hl4, fun p hp => ?_, fun N h1 h2 => ?_, fun b' hb' => absurd hb' (Nat.not_lt_zero _), fun b' _ hb' q hq => ?_⟩
    · rintro b ⟨x, y, τ⟩ _ hb ⟨f1, f2, f3, f4, f5, f6, f7⟩
      dsimp only at f1 f2 f3 f4 f5 f6 f7
      subst f1
      subst f2
      have hps : PS (aB A) τ := h.ps.lf f3.1
      have h10 := loA10 A b
      show ∃ s', fX9_find_b40 (nI (loB A.1 b)) (nI b) τ = some (.inl s') ∧ _
      unfold fX9_find_b40 fX9_find_j135
      simp only [ltb]
      obtain ⟨τ1, g1, c1, m1⟩ := p_fillL (r := 23) (n := 21) (v := 0) (σ := τ) rfl (by omega)
      rw [hps.1, if_neg (nI_ge hb (by omega)), g1, ob_s, show (10 : Int32) - nI (loB A.1 b) = nI (10 - loB A.1 b) from pk_sub (a := 10) h10]
      obtain ⟨τ2, g2, m2, v1, v2, v3⟩ := c_places (τ := τ1) (G := gA A b) hA h (m1.1.trans f3.1) hb (fun p hp => by
        rw [m1.2 22 (by decide), f4 p hp, ← nw_g hb]
        exact ⟨rfl, nw_le hA (by omega)⟩) (fun p hp => gA_out hb hp) c1
      have hτ2 : Lf [20, 21, 22, 23] σ (rL τ2 22 (va_cpy (τ2.2 23) (τ2.2 22) 0 0 21)) := ((f3.trans (m1.mono (by decide))).trans (m2.mono (by decide))).trans (Lf_rL (by decide))
      rw [g2, ob_s, p_isLoose (h.ps.lf hτ2.1) hl hb, ob_s]
      have hlo := lb_s hb
      have hlo2 := loA10 A (b + 1)
      have fin : ∃ s' : Int32 × Int32 × St, some ((Sum.inl (nI (loB A.1 (b + 1)), nI b + 1, rL τ2 22 (va_cpy (τ2.2 23) (τ2.2 22) 0 0 21)) : (Int32 × Int32 × St) ⊕ St)) = some (.inl s') ∧ s'.1 = nI (loB A.1 (b + 1)) ∧ s'.2.1 = nI (b + 1) ∧ Lf [20, 21, 22, 23] σ s'.2.2 ∧ (∀ p, p < 21 → s'.2.2.2 22 p = lN (nwA A (b + 1) p)) ∧ (∀ N, 1 ≤ N → N ≤ 110 → s'.2.2.2 21 N = lN (sm (uS A N) (b + 1))) ∧ (∀ b', b' < b + 1 → ∀ q, q < 21 → ∀ N, 1 ≤ N → N + 9 = b' + q → s'.2.2.2 20 (b' * 21 + q) = lN (uS A N b')) ∧ ∀ b', b + 1 ≤ b' → b' < 99 → ∀ q, q < 21 → s'.2.2.2 20 (b' * 21 + q) = 0 := by
        refine ⟨_, rfl, rfl, nI_1 b, hτ2, fun p hp => ?_, fun N h1 h2 => ?_, fun b' hb' q hq N h1 h2 => ?_, fun b' hb' hb9 q hq => ?_⟩
        · show (rL τ2 22 (va_cpy (τ2.2 23) (τ2.2 22) 0 0 21)).2 22 p = _
          rw [g_rL, pk_cpy_in (by omega) (by omega), show 0 + (p - 0) = p by omega, v1 p hp, nx_eq hb hp]
        · show (rL τ2 22 (va_cpy (τ2.2 23) (τ2.2 22) 0 0 21)).2 21 N = _
          rw [g_rLo _ _ (by decide), v3 N, m1.2 21 (by decide), f5 N h1 h2, lN_add, sM_eq hb h1, sm_s]
        · show (rL τ2 22 (va_cpy (τ2.2 23) (τ2.2 22) 0 0 21)).2 20 (b' * 21 + q) = _
          rw [g_rLo _ _ (by decide), v2, m1.2 20 (by decide)]
          by_cases z : b' = b
          · subst z
            rw [f7 b' (Nat.le_refl _) (by omega) q hq, (sj_eq (N := N) (b' := b') hb hq).2.2 h1 h2]
            exact (Int64.zero_add _)
          · rw [f6 b' (by omega) q hq N h1 h2, (sj_eq (N := N) hb hq).1 (by omega), lN0]
        · show (rL τ2 22 (va_cpy (τ2.2 23) (τ2.2 22) 0 0 21)).2 20 (b' * 21 + q) = _
          rw [g_rLo _ _ (by decide), v2, m1.2 20 (by decide), f7 b' (by omega) hb9 q hq, (sj_eq (N := 0) hb hq).2.1 (by omega)]
          rfl
      by_cases k3 : kdB (aB A) b < 3
      · rw [if_pos k3] at hlo
        have em : (if nI (loB A.1 b) + 1 < (10 : Int32) then nI (loB A.1 b) + 1 else 10) = nI (loB A.1 (b + 1)) := by
          rw [nI_1, ← hlo]
          by_cases q' : loB A.1 (b + 1) < 10
          · rw [if_pos (show nI _ < (10 : Int32) from nI_lt (b := 10) q' (by omega))]
          · have : loB A.1 (b + 1) = 10 := by omega
            rw [this]; rfl
        rw [if_pos k3, if_neg one_ne, p_min, ob_s, em]
        exact fin
      · have hlo' : loB A.1 (b + 1) = loB A.1 b := by rw [if_neg k3] at hlo; omega
        rw [if_neg k3, if_pos rfl, ← hlo']
        exact fin
    · rintro ⟨x, y, τ⟩ ⟨f1, f2, f3, f4, f5, f6, f7⟩
      dsimp only at f1 f2 f3 f4 f5 f6 f7
      subst f2
      have hps : PS (aB A) τ := h.ps.lf f3.1
      refine ⟨τ, ?_, f3, f5, f6⟩
      show fX9_find_b40 x (nI (aB A).length) τ = _
      unfold fX9_find_b40
      rw [hps.1, if_pos (Int32.le_refl _)]
    · show σ4.2 22 p = _
      rw [a4 p, a3 p hp]
      unfold nwA
      rw [lb_0]
      by_cases q : p = 10
      · rw [if_pos q, if_pos (by omega), q]; rfl
      · rw [if_neg q]
        by_cases q2 : 10 ≤ 0 + p
        · rw [if_pos q2]
          unfold Wt
          rw [if_neg (by omega), Nat.mul_zero]; rfl
        · rw [if_neg q2]; rfl
    · show σ4.2 21 N = _
      rw [l4.2 21 (by decide), l3.2 21 (by decide), a2 N (by omega)]; rfl
    · show σ4.2 20 (b' * 21 + q) = _
      rw [l4.2 20 (by decide), l3.2 20 (by decide), l2.2 20 (by decide), a1 _ (by omega)]
  obtain ⟨r, e, l, v, w⟩ := key
  rw [e, ob_s]
  refine ⟨r, rfl, l, fun N h1 h2 => ⟨?_, fun b hb p hp hN => ?_⟩⟩
  · rw [v N h1 h2, uS_al]
  · rw [w b hb p (by omega) N h1 hN, uS_sd hb]
theorem sd_out {A : AbS} {N b : Nat} (hN : 1 ≤ N) (hb : b < (aB A).length) (h : ¬ (b ≤ N + 9 ∧ N + 9 ≤ b + 20)) : Sd A.1 N b = 0 := by
  unfold Sd
  rw [ut_out hN hb h, Nat.zero_mul]
/-- the ways stand, whether they were old or not -/
theorem c_refresh {A : AbS} {σ : St} (hA : OKA A) (h : IC A σ) : ∃ σ', fX10_refreshWays σ = some σ' ∧ IC A σ' ∧ CM σ σ' ∧ WOK A.1 σ' := by
  unfold fX10_refreshWays
  rcases h.2.2.2.2.2.2.2.2.2.2 with w | ⟨w, wok, -⟩
  · obtain ⟨σ1, e1, l1, wok⟩ := c_find hA h
    rw [w, if_neg one_ne, e1, ob_s]
    have wok2 : WOK A.1 (sI σ1 0 11 0) := wok
    have hcm : CM σ (sI σ1 0 11 0) := (l1.Fr.CM (by decide)).trans (CM_sI (by decide))
    refine ⟨_, rfl, ?_, hcm, wok2⟩
    obtain ⟨a1, a2, a3, a4, a5, a6, a7, a8, a9, a10, -⟩ := h
    have e := l1.1
    refine ⟨?_, ?_, ?_, ?_, ?_, ?_, ?_, ?_, ?_, ?_, Or.inr ⟨by simp [g_sI], wok2, fun N h1 _ b hb hn => sd_out h1 hb hn⟩⟩
    · unfold TX; rw [sI_o (by decide), sI_o (by decide), e]; exact a1
    · unfold PC PS; rw [sI_o (by decide), sI_o (by decide), sI_o (by decide), sI_o (by decide), sI_o (by decide), e]; exact a2
    · rw [sI_o (by decide), sI_o (by decide), e]; exact a3
    · rw [sI_o (by decide), e]; exact a4
    · rw [sI_o (by decide), sI_o (by decide), sI_o (by decide), sI_o (by decide), e]; exact a5
    · rw [sI_o (by decide), sI_o (by decide), e]; exact a6
    · rw [sI_o (by decide), e]; exact a7
    · rw [sI_o (by decide), sI_o (by decide), sI_o (by decide), sI_o (by decide), e]; exact a8
    · refine a9.fr (fun c h1 h2 => ?_)
      rw [sI_o (by omega), e]
    · rw [show (sI σ1 0 11 0).1 0 12 = σ1.1 0 12 from by simp [g_sI], e]; exact a10
  · rw [w, if_pos rfl]
    exact ⟨σ, rfl, h, CM.rf, wok⟩
