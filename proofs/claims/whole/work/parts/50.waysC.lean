/-! the component's ways -/
theorem sm_pick (F : Nat → Nat) (q : Nat) : ∀ n, sm (fun p => if p = q then F p else 0) n = if q < n then F q else 0 := by
  intro n
  induction n with
  | zero => rw [if_neg (by omega)]; rfl
  | succ n ih =>
    rw [sm_s, ih]
    by_cases h : q < n
    · rw [if_pos h, if_neg (by omega), if_pos (by omega)]; omega
    · rw [if_neg h]
      by_cases h2 : n = q
      · rw [if_pos h2, if_pos (by omega), h2]; omega
      · rw [if_neg h2, if_neg (by omega)]
theorem lN0 (x : Int64) : x + lN 0 = x := Int64.add_zero x
theorem lNadd (x : Int64) (a b : Nat) : x + lN a + lN b = x + lN (a + b) := by rw [Int64.add_assoc, lN_add]
theorem p_addTo {r n i v : Nat} {σ : St} (hw : wj r = some n) (hn : n < 2 ^ 31) (hi : i < n) : ∃ σ', fX10_addTo r (nI i) (lN v) σ = some σ' ∧ Lf [r] σ σ' ∧ ∀ j, σ'.2 r j = σ.2 r j + lN (if j = i then v else 0) := by
  refine ⟨sL σ r i (σ.2 r i + lN v), ?_, Lf_sL (by simp), fun j => ?_⟩
  · unfold fX10_addTo
    rw [hw, ob_s, if_neg (nI_pos (by omega)), if_neg (show ¬ Int32.ofNat n ≤ nI i from nI_ge hi hn), inb_nI hi (by omega), if_pos rfl, nI_clamp (by omega)]
  · rw [g_sL, if_pos rfl]
    by_cases q : j = i
    · rw [if_pos q, if_pos q, q]
    · rw [if_neg q, if_neg q, lN0]
theorem p_addSaid {b p v : Nat} {σ : St} (hb : b < 99) (hp : p ≤ 20) (h : 10 ≤ b + p) : ∃ σ', fX9_addSaid (nI b) (nI p) (lN v) σ = some σ' ∧ Lf [20, 21] σ σ' ∧ (∀ j, σ'.2 20 j = σ.2 20 j + lN (if j = b * 21 + p then v else 0)) ∧ ∀ M, σ'.2 21 M = σ.2 21 M + lN (if M + 9 = b + p then v else 0) := by
  unfold fX9_addSaid
  rw [p_within, ob_s, if_pos (show (0 : Int32) ≤ nI p ∧ nI p ≤ 20 from ⟨nI_pos' (by omega), nI_le (b := 20) hp (by omega)⟩), if_neg one_ne, show nI b * (21 : Int32) = nI (b * 21) from pk_mul b 21, nI_add, nI_add, show nI (b + p) - (10 : Int32) = nI (b + p - 10) from pk_sub (b := 10) h, nI_1]
  obtain ⟨σ1, e1, l1, v1⟩ := p_addTo (r := 20) (n := 2079) (i := b * 21 + p) (v := v) (σ := σ) rfl (by omega) (by omega)
  obtain ⟨σ2, e2, l2, v2⟩ := p_addTo (r := 21) (n := 111) (i := b + p - 10 + 1) (v := v) (σ := σ1) rfl (by omega) (by omega)
  rw [e1, ob_s, e2, ob_s]
  refine ⟨σ2, rfl, (l1.mono (by decide)).trans (l2.mono (by decide)), fun j => ?_, fun M => ?_⟩
  · rw [l2.2 20 (by decide)]; exact v1 j
  · rw [v2 M, l1.2 21 (by decide)]
    congr 2
    by_cases q : M + 9 = b + p
    · rw [if_pos q, if_pos (by omega)]
    · rw [if_neg q, if_neg (by omega)]
/-- what a place gives on: to the next bar, to what is said -/
def nxC (C : CoS) (b : Nat) (G : Nat → Nat) (p q : Nat) : Nat := (if p = q + 1 then G p * odB C b 0 else 0) + (if p = q then G p * odB C b 1 * ntW C (b + p - 9) b else 0) + (if p + 1 = q then G p * odB C b 2 * ntW C (b + p - 9) b * ntW C (b + p - 8) b else 0)
def sdC (C : CoS) (b : Nat) (G : Nat → Nat) (p q : Nat) : Nat := (if p = q then G p * (odB C b 1 + odB C b 2) * ntW C (b + p - 9) b else 0) + (if p + 1 = q then G p * odB C b 2 * ntW C (b + p - 9) b * ntW C (b + p - 8) b else 0)
def sdJ (C : CoS) (b : Nat) (G : Nat → Nat) (p j : Nat) : Nat := if b * 21 ≤ j then sdC C b G p (j - b * 21) else 0
def sdM (C : CoS) (b : Nat) (G : Nat → Nat) (p M : Nat) : Nat := if b ≤ M + 9 then sdC C b G p (M + 9 - b) else 0
theorem c_pass {A : AbS} {σ τ : St} {b p : Nat} {G : Nat → Nat} (hA : OKA A) (h : IC A σ) (e : τ.1 = σ.1) (hb : b < (aB A).length) (h1 : 10 ≤ p + loB A.1 b) (h2 : p ≤ 10 + loB A.1 b) (hv : τ.2 22 p = lN ((if kdB (aB A) b < 3 then 16 else 1) * G p)) (hlt : (if kdB (aB A) b < 3 then 16 else 1) * G p < 2 ^ 63) : ∃ σ', fX9_pass (nI b) (nI p) τ = some σ' ∧ Lf [20, 21, 23] τ σ' ∧ (∀ q, q < 21 → σ'.2 23 q = τ.2 23 q + lN (nxC A.1 b G p q)) ∧ (∀ j, σ'.2 20 j = τ.2 20 j + lN (sdJ A.1 b G p j)) ∧ ∀ M, σ'.2 21 M = τ.2 21 M + lN (sdM A.1 b G p M) := by
  have hl := lenB A
  have h10 := loA10 A b
  have hlb := lb_b A b (by omega)
  have hps := h.ps.lf e
  unfold fX9_pass
  simp only [ltb]
  rw [p_tuneOf hps hl hb, ob_s, nI_add, show nI (b + p) - (10 : Int32) = nI (b + p - 10) from pk_sub (b := 10) (by omega), nI_1, nI_1, show b + p - 10 + 1 = b + p - 9 by omega, show b + p - 9 + 1 = b + p - 8 by omega, p_longAt (n := 21) rfl (by omega) (by omega), if_pos (by omega), ob_s, hv, c_weigh hA h e hb (by omega), ob_s, c_weigh hA h e hb (by omega), p_isLoose hps hl hb, ob_s]
  by_cases k3 : kdB (aB A) b < 3
  · rw [if_pos k3] at hlt
    have h11 := loA10 A (b + 1)
    rw [lb_s hb, if_pos k3] at h11
    obtain ⟨k, hk, ek⟩ := kd_l (T := aT A) hb k3
    obtain ⟨o0, o1, o2⟩ := od_l hk ek
    have hmd := hA.2.1 k hk
    rw [if_pos k3, if_pos k3, if_neg one_ne, p_kindOf hps hl hb, ob_s, ek, p_mis (o := 9) (Or.inl rfl) hk, ob_s, p_dou (o := 9) (Or.inl rfl) hk, ob_s, ob_s, e, (h.2.2.1 k hk).1, (h.2.2.1 k hk).2, div16 hlt, show (16 : Int32) - nI (aM A k) = nI (16 - aM A k) from pk_sub (a := 16) (by omega), pk_sub (by omega), lmul _ _ (by omega), lmul _ _ (by omega), lmul _ _ (by omega), lN_mul, lN_mul, lN_mul, lN_add, show nI p - (1 : Int32) = nI (p - 1) from pk_sub (b := 1) (by omega), nI_1]
    obtain ⟨s1, e1, l1, v1⟩ := p_addTo (r := 23) (n := 21) (i := p - 1) (v := G p * aM A k) (σ := τ) rfl (by omega) (by omega)
    rw [e1, ob_s]
    obtain ⟨s2, e2, l2, v2⟩ := p_addTo (r := 23) (n := 21) (i := p) (v := G p * (16 - aM A k - aD A k) * ntW A.1 (b + p - 9) b) (σ := s1) rfl (by omega) (by omega)
    rw [e2, ob_s]
    obtain ⟨s3, e3, l3, v3⟩ := p_addTo (r := 23) (n := 21) (i := p + 1) (v := G p * aD A k * ntW A.1 (b + p - 9) b * ntW A.1 (b + p - 8) b) (σ := s2) rfl (by omega) (by omega)
    rw [e3, ob_s]
    obtain ⟨s4, e4, l4, v4, w4⟩ := p_addSaid (b := b) (p := p) (v := G p * (16 - aM A k - aD A k) * ntW A.1 (b + p - 9) b + G p * aD A k * ntW A.1 (b + p - 9) b) (σ := s3) (by omega) (by omega) (by omega)
    rw [e4, ob_s]
    obtain ⟨s5, e5, l5, v5, w5⟩ := p_addSaid (b := b) (p := p + 1) (v := G p * aD A k * ntW A.1 (b + p - 9) b * ntW A.1 (b + p - 8) b) (σ := s4) (by omega) (by omega) (by omega)
    rw [e5, ob_s]
    have hsd : ∀ q, sdC A.1 b G p q = (if q = p then G p * (16 - aM A k - aD A k) * ntW A.1 (b + p - 9) b + G p * aD A k * ntW A.1 (b + p - 9) b else 0) + (if q = p + 1 then G p * aD A k * ntW A.1 (b + p - 9) b * ntW A.1 (b + p - 8) b else 0) := by
      intro q
      unfold sdC
      rw [o1, o2, Nat.mul_add, Nat.add_mul]
      congr 1
      · by_cases z : p = q
        · rw [if_pos z, if_pos z.symm]
        · rw [if_neg z, if_neg (fun y => z y.symm)]
      · by_cases z : p + 1 = q
        · rw [if_pos z, if_pos z.symm]
        · rw [if_neg z, if_neg (fun y => z y.symm)]
    refine ⟨s5, rfl, ((((l1.mono (by decide)).trans (l2.mono (by decide))).trans (l3.mono (by decide))).trans (l4.mono (by decide))).trans (l5.mono (by decide)), fun q hq => ?_, fun j => ?_, fun M => ?_⟩
    · rw [l5.2 23 (by decide), l4.2 23 (by decide), v3, v2, v1, lNadd, lNadd]
      congr 2
      unfold nxC
      rw [o0, o1, o2, Nat.add_assoc]
      congr 1
      · by_cases z : p = q + 1
        · rw [if_pos z, if_pos (by omega)]
        · rw [if_neg z, if_neg (by omega)]
      · congr 1
        · by_cases z : p = q
          · rw [if_pos z, if_pos z.symm]
          · rw [if_neg z, if_neg (fun y => z y.symm)]
        · by_cases z : p + 1 = q
          · rw [if_pos z, if_pos z.symm]
          · rw [if_neg z, if_neg (fun y => z y.symm)]
    · rw [v5, v4, l3.2 20 (by decide), l2.2 20 (by decide), l1.2 20 (by decide), lNadd]
      congr 2
      unfold sdJ
      by_cases z : b * 21 ≤ j
      · rw [if_pos z, hsd]
        congr 1
        · by_cases y : j - b * 21 = p
          · rw [if_pos y, if_pos (by omega)]
          · rw [if_neg y, if_neg (by omega)]
        · by_cases y : j - b * 21 = p + 1
          · rw [if_pos y, if_pos (by omega)]
          · rw [if_neg y, if_neg (by omega)]
      · rw [if_neg z, if_neg (by omega), if_neg (by omega)]
    · rw [w5, w4, l3.2 21 (by decide), l2.2 21 (by decide), l1.2 21 (by decide), lNadd]
      congr 2
      unfold sdM
      by_cases z : b ≤ M + 9
      · rw [if_pos z, hsd]
        congr 1
        · by_cases y : M + 9 - b = p
          · rw [if_pos y, if_pos (by omega)]
          · rw [if_neg y, if_neg (by omega)]
        · by_cases y : M + 9 - b = p + 1
          · rw [if_pos y, if_pos (by omega)]
          · rw [if_neg y, if_neg (by omega)]
      · rw [if_neg z, if_neg (by omega), if_neg (by omega)]
  · rw [if_neg k3, Nat.one_mul] at hlt
    obtain ⟨o0, o1, o2⟩ := od_n k3
    rw [if_neg k3, if_neg k3, if_pos rfl, Nat.one_mul, lN_mul]
    obtain ⟨s2, e2, l2, v2⟩ := p_addTo (r := 23) (n := 21) (i := p) (v := G p * ntW A.1 (b + p - 9) b) (σ := τ) rfl (by omega) (by omega)
    rw [e2, ob_s]
    obtain ⟨s4, e4, l4, v4, w4⟩ := p_addSaid (b := b) (p := p) (v := G p * ntW A.1 (b + p - 9) b) (σ := s2) (by omega) (by omega) (by omega)
    rw [e4, ob_s]
    have hsd : ∀ q, sdC A.1 b G p q = (if q = p then G p * ntW A.1 (b + p - 9) b else 0) := by
      intro q
      unfold sdC
      rw [o1, o2]
      by_cases z : p = q
      · rw [if_pos z, if_pos z.symm, if_neg (show ¬ p + 1 = q by omega), Nat.add_zero, Nat.add_zero, Nat.mul_one]
      · rw [if_neg z, if_neg (show ¬ q = p from fun y => z y.symm)]; simp
    refine ⟨s4, rfl, (l2.mono (by decide)).trans (l4.mono (by decide)), fun q hq => ?_, fun j => ?_, fun M => ?_⟩
    · rw [l4.2 23 (by decide), v2]
      congr 2
      unfold nxC
      rw [o0, o1, o2]
      by_cases z : p = q
      · rw [if_pos z, if_pos z.symm, if_neg (show ¬ p = q + 1 by omega), if_neg (show ¬ p + 1 = q by omega), Nat.mul_one, Nat.zero_add, Nat.add_zero]
      · rw [if_neg z, if_neg (show ¬ q = p from fun y => z y.symm)]; simp
    · rw [v4, l2.2 20 (by decide)]
      congr 2
      unfold sdJ
      by_cases z : b * 21 ≤ j
      · rw [if_pos z, hsd]
        by_cases y : j - b * 21 = p
        · rw [if_pos y, if_pos (by omega)]
        · rw [if_neg y, if_neg (by omega)]
      · rw [if_neg z, if_neg (by omega)]
    · rw [w4, l2.2 21 (by decide)]
      congr 2
      unfold sdM
      by_cases z : b ≤ M + 9
      · rw [if_pos z, hsd]
        by_cases y : M + 9 - b = p
        · rw [if_pos y, if_pos (by omega)]
        · rw [if_neg y, if_neg (by omega)]
      · rw [if_neg z, if_neg (by omega)]
theorem c_z {C : CoS} {b p : Nat} {G : Nat → Nat} (h : G p = 0) : (∀ q, nxC C b G p q = 0) ∧ (∀ q, sdC C b G p q = 0) := by
  refine ⟨fun q => ?_, fun q => ?_⟩
  · unfold nxC; rw [h]; simp
  · unfold sdC; rw [h]; simp
theorem c_z2 {C : CoS} {b p : Nat} {G : Nat → Nat} (h : G p = 0) : (∀ j, sdJ C b G p j = 0) ∧ (∀ M, sdM C b G p M = 0) := by
  refine ⟨fun q => ?_, fun q => ?_⟩
  · unfold sdJ; rw [(c_z h).2]; simp
  · unfold sdM; rw [(c_z h).2]; simp
theorem sm_z {f : Nat → Nat} (n : Nat) (h : ∀ i, i < n → f i = 0) : sm f n = 0 := by rw [sm_cg (g := fun _ => 0) n h, sm_0]
theorem sm_ext {f : Nat → Nat} {m n : Nat} (h : m ≤ n) (hz : ∀ i, m ≤ i → i < n → f i = 0) : sm f n = sm f m := by
  induction n with
  | zero => have : m = 0 := by omega
            rw [this]
  | succ n ih =>
    by_cases q : m = n + 1
    · rw [q]
    · rw [sm_s, ih (by omega) (fun i h1 h2 => hz i h1 (by omega)), hz n (by omega) (by omega), Nat.add_zero]
/-- all places of one bar -/
theorem c_places {A : AbS} {σ τ : St} {b : Nat} {G : Nat → Nat} (hA : OKA A) (h : IC A σ) (e : τ.1 = σ.1) (hb : b < (aB A).length) (hv : ∀ p, p < 21 → τ.2 22 p = lN ((if kdB (aB A) b < 3 then 16 else 1) * G p) ∧ (if kdB (aB A) b < 3 then 16 else 1) * G p < 2 ^ 63) (hG : ∀ p, ¬ (10 ≤ p + loB A.1 b ∧ p ≤ 10 + loB A.1 b) → G p = 0) (hz : ∀ q, q < 21 → τ.2 23 q = 0) : ∃ σ', lpc (fun s => fX9_find_b64 (nI (loB A.1 b)) (nI b) s.1 s.2) (nI (10 - loB A.1 b), τ) = some σ' ∧ Lf [20, 21, 23] τ σ' ∧ (∀ q, q < 21 → σ'.2 23 q = lN (sm (fun p => nxC A.1 b G p q) 21)) ∧ (∀ j, σ'.2 20 j = τ.2 20 j + lN (sm (fun p => sdJ A.1 b G p j) 21)) ∧ ∀ M, σ'.2 21 M = τ.2 21 M + lN (sm (fun p => sdM A.1 b G p M) 21) := by
  have h10 := loA10 A b
  have key : ∃ σ', lpc (fun s => fX9_find_b64 (nI (loB A.1 b)) (nI b) s.1 s.2) (nI (10 - loB A.1 b), τ) = some σ' ∧ (Lf [20, 21, 23] τ σ' ∧ (∀ q, q < 21 → σ'.2 23 q = lN (sm (fun p => nxC A.1 b G p q) (11 + loB A.1 b))) ∧ (∀ j, σ'.2 20 j = τ.2 20 j + lN (sm (fun p => sdJ A.1 b G p j) (11 + loB A.1 b))) ∧ ∀ M, σ'.2 21 M = τ.2 21 M + lN (sm (fun p => sdM A.1 b G p M) (11 + loB A.1 b))) := by
    refine lpc_cnt (a := 10 - loB A.1 b) (b := 11 + loB A.1 b) (fun P s => s.1 = nI P ∧ Lf [20, 21, 23] τ s.2 ∧ (∀ q, q < 21 → s.2.2 23 q = lN (sm (fun p => nxC A.1 b G p q) P)) ∧ (∀ j, s.2.2 20 j = τ.2 20 j + lN (sm (fun p => sdJ A.1 b G p j) P)) ∧ ∀ M, s.2.2 21 M = τ.2 21 M + lN (sm (fun p => sdM A.1 b G p M) P)) _ (by omega) ?_ ?_ ⟨rfl, Lf.rf, fun q hq => ?_, fun j => ?_, fun M => ?_⟩
    · rintro P ⟨x, υ⟩ hP1 hP2 ⟨f1, f2, f3, f4, f5⟩
      dsimp only at f1 f2 f3 f4 f5
      subst f1
      obtain ⟨hv1, hv2⟩ := hv P (by omega)
      have h22 : υ.2 22 P = lN ((if kdB (aB A) b < 3 then 16 else 1) * G P) := by rw [f2.2 22 (by decide)]; exact hv1
      show ∃ s', fX9_find_b64 (nI (loB A.1 b)) (nI b) (nI P) υ = some (.inl s') ∧ _
      unfold fX9_find_b64 fX9_find_j91
      rw [show (10 : Int32) + nI (loB A.1 b) = nI (10 + loB A.1 b) from nI_add 10 _, if_neg (fun z => absurd ((nI_ltI (by omega) (by omega)).mp z) (by omega)), p_longAt (n := 21) rfl (by omega) (by omega), if_pos (by omega), ob_s, h22]
      by_cases g0 : G P = 0
      · rw [if_pos (show lN ((if kdB (aB A) b < 3 then 16 else 1) * G P) = (0 : Int64) by rw [g0, Nat.mul_zero]; rfl)]
        refine ⟨_, rfl, nI_1 P, f2, fun q hq => ?_, fun j => ?_, fun M => ?_⟩
        · rw [sm_s, (c_z g0).1, Nat.add_zero]; exact f3 q hq
        · rw [sm_s, (c_z2 g0).1, Nat.add_zero]; exact f4 j
        · rw [sm_s, (c_z2 g0).2, Nat.add_zero]; exact f5 M
      · have hpos : 0 < (if kdB (aB A) b < 3 then 16 else 1) * G P := Nat.mul_pos (by split <;> omega) (by omega)
        rw [if_neg (lN_ne0 hpos hv2)]
        obtain ⟨υ', e1, l1, w1, w2, w3⟩ := c_pass (τ := υ) (p := P) (G := G) hA h (f2.1.trans e) hb (by omega) (by omega) h22 hv2
        rw [e1, ob_s]
        refine ⟨_, rfl, nI_1 P, f2.trans l1, fun q hq => ?_, fun j => ?_, fun M => ?_⟩
        · show υ'.2 23 q = _
          rw [w1 q hq, f3 q hq, lN_add, sm_s]
        · show υ'.2 20 j = _
          rw [w2 j, f4 j, lNadd, sm_s]
        · show υ'.2 21 M = _
          rw [w3 M, f5 M, lNadd, sm_s]
    · rintro ⟨x, υ⟩ ⟨f1, f2, f3, f4, f5⟩
      dsimp only at f1 f2 f3 f4 f5
      subst f1
      refine ⟨υ, ?_, f2, f3, f4, f5⟩
      show fX9_find_b64 (nI (loB A.1 b)) (nI b) (nI (11 + loB A.1 b)) υ = _
      unfold fX9_find_b64
      rw [show (10 : Int32) + nI (loB A.1 b) = nI (10 + loB A.1 b) from nI_add 10 _, if_pos (nI_lt (by omega) (by omega))]
    · show τ.2 23 q = _
      rw [sm_z _ (fun p hp => (c_z (hG p (by omega))).1 q), hz q hq]; rfl
    · show τ.2 20 j = _
      rw [sm_z _ (fun p hp => (c_z2 (hG p (by omega))).1 j), lN0]
    · show τ.2 21 M = _
      rw [sm_z _ (fun p hp => (c_z2 (hG p (by omega))).2 M), lN0]
  obtain ⟨σ', e1, l1, w1, w2, w3⟩ := key
  refine ⟨σ', e1, l1, fun q hq => ?_, fun j => ?_, fun M => ?_⟩
  · rw [w1 q hq, sm_ext (m := 11 + loB A.1 b) (n := 21) (by omega) (fun p h1 h2 => (c_z (hG p (by omega))).1 q)]
  · rw [w2 j, sm_ext (m := 11 + loB A.1 b) (n := 21) (by omega) (fun p h1 h2 => (c_z2 (hG p (by omega))).1 j)]
  · rw [w3 M, sm_ext (m := 11 + loB A.1 b) (n := 21) (by omega) (fun p h1 h2 => (c_z2 (hG p (by omega))).2 M)]
