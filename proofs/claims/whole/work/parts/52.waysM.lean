/-! the reference's ways -/
theorem sm_pick2 (F : Nat → Nat) (q : Nat) (n : Nat) : sm (fun p => if p + 2 = q then F p else 0) n = if 2 ≤ q ∧ q < n + 2 then F (q - 2) else 0 := by
  by_cases h2 : 2 ≤ q
  · rw [show (fun p => if p + 2 = q then F p else 0) = (fun p => if p = q - 2 then F p else 0) from funext (fun p => by
      by_cases h : p = q - 2
      · rw [if_pos h, if_pos (by omega)]
      · rw [if_neg h, if_neg (by omega)]), sm_pick]
    by_cases h : q - 2 < n
    · rw [if_pos h, if_pos (by omega)]
    · rw [if_neg h, if_neg (by omega)]
  · rw [if_neg (by omega)]; exact sm_z n (fun i _ => if_neg (by omega))
/-- notes on what n and so many say, up to N -/
def prM (A : AbS) (N b n m : Nat) : Nat := if m = 0 then 1 else if m = 1 then ntW A.1 (n + 1) b else if n + 2 ≤ N then ntW A.1 (n + 1) b * ntW A.1 (n + 2) b else ntW A.1 (n + 1) b
theorem prM_1 (A : AbS) (N b n : Nat) : prM A N b n 1 = ntW A.1 (n + 1) b := rfl
theorem prM_2 (A : AbS) (N b n : Nat) : prM A N b n 2 = if n + 2 ≤ N then ntW A.1 (n + 1) b * ntW A.1 (n + 2) b else ntW A.1 (n + 1) b := rfl
def byM (A : AbS) (N b n m : Nat) : Nat := Wt A.1 b n * odB A.1 b m * prM A N b n m
def toN (A : AbS) (N b n q : Nat) : Nat := sm (fun m => if n + m = q then byM A N b n m else 0) 3
def toW (A : AbS) (N b n : Nat) : Nat := sm (fun m => if N ≤ n + m then byM A N b n m else 0) 3
theorem m_says {A : AbS} {σ τ : St} {b m : Nat} (hA : OKA A) (h : IM A σ) (p : PSm (aB A) σ) (e : τ.1 = σ.1) (hb : b < (aB A).length) (hm : m < 3) : fX11_saysOdds (nI b) (nI m) τ = some (nI (odB A.1 b m)) := by
  have hl := lenB A
  obtain ⟨g1, g2, g3⟩ := p.2.2.2.at hb
  unfold fX11_saysOdds
  simp only [ltb]
  rw [inb_nI (show b < 100 by omega) (by omega), if_pos rfl, nI_clamp (show b < 2 ^ 31 by omega), e, g1]
  by_cases k3 : kdB (aB A) b < 3
  · obtain ⟨k, hk, ek⟩ := kd_l (T := aT A) hb k3
    obtain ⟨o0, o1, o2⟩ := od_l hk ek
    have hmd := hA.2.1 k hk
    rw [show kdB (aB A) b = nI k from ek, if_pos (show nI k ≤ (2 : Int32) from nI_le (b := 2) (by omega) (by omega)), inb_nI hk (by omega), if_pos rfl, if_pos rfl, if_pos rfl, nI_clamp (show k < 2 ^ 31 by omega), (h.od hk).1, (h.od hk).2, show (16 : Int32) - nI (aM A k) = nI (16 - aM A k) from pk_sub (a := 16) (by omega), pk_sub (by omega)]
    rcases m with _ | _ | _ | m
    · rw [if_pos (show nI 0 = (0 : Int32) from rfl), o0]
    · rw [if_neg (by decide), if_neg (by decide), o1]
    · rw [if_neg (by decide), if_pos (show nI (0 + 1 + 1) = (2 : Int32) from rfl), o2]
    · omega
  · obtain ⟨o0, o1, o2⟩ := od_n k3
    rw [if_neg (show ¬ kdB (aB A) b ≤ 2 from fun z => k3 (lt3.mpr (Int32.not_lt.mpr z)))]
    rcases m with _ | _ | _ | m
    · rw [if_neg (by decide), o0]; rfl
    · rw [if_pos (show nI (0 + 1) = (1 : Int32) from rfl), o1]; rfl
    · rw [if_neg (by decide), o2]; rfl
    · omega
theorem m_prod {A : AbS} {σ τ : St} {N b n m W : Nat} {r : Int64} (hA : OKA A) (h : IM A σ) (p : PSm (aB A) σ) (e : τ.1 = σ.1) (hb : b < (aB A).length) (hm : m < 3) (hn : n < N) (hN : N ≤ 110) : lpc (fun s => fX11_findsWhere_b185 (nI N) r (nI b) (nI n) (nI m) s.1 s.2 τ) (lN W, (1 : Int32)) = some (lN (W * prM A N b n m)) := by
  have stp : ∀ x k, k ≤ m → n + k ≤ N → 1 ≤ k → fX11_findsWhere_b185 (nI N) r (nI b) (nI n) (nI m) (lN x) (nI k) τ = some (.inl (lN (x * ntW A.1 (n + k) b), nI (k + 1))) := by
    intro x k h1 h2 h3
    unfold fX11_findsWhere_b185
    simp only [ltb]
    rw [if_neg (fun z => absurd ((nI_ltI (by omega) (by omega)).mp z) (by omega)), nI_add, if_neg (fun z => absurd ((nI_ltI (by omega) (by omega)).mp z) (by omega)), m_weigh hA h p e hb (by omega), ob_s, lN_mul, nI_1]
  have ext : ∀ x k, (m < k ∨ N < n + k) → k < 100 → fX11_findsWhere_b185 (nI N) r (nI b) (nI n) (nI m) (lN x) (nI k) τ = some (.inr (lN x)) := by
    intro x k h1 h2
    unfold fX11_findsWhere_b185
    by_cases q : m < k
    · rw [if_pos (nI_lt q (by omega))]
    · rw [if_neg (fun z => q ((nI_ltI (by omega) (by omega)).mp z)), nI_add, if_pos (nI_lt (by omega) (by omega))]
  unfold prM
  rcases m with _ | _ | _ | m
  · rw [if_pos rfl, Nat.mul_one]
    exact lpc_exit (ext W 1 (by omega) (by omega))
  · rw [if_neg (by omega), if_pos rfl]
    have s1 := lpc_step (body := fun s : Int64 × Int32 => fX11_findsWhere_b185 (nI N) r (nI b) (nI n) (nI (0 + 1)) s.1 s.2 τ) (s := (lN W, nI 1)) (stp W 1 (by omega) (by omega) (by omega))
    rw [show ((lN W, (1 : Int32)) : Int64 × Int32) = (lN W, nI 1) from rfl, s1]
    exact lpc_exit (ext _ 2 (by omega) (by omega))
  · rw [if_neg (by omega), if_neg (by omega)]
    have s1 := lpc_step (body := fun s : Int64 × Int32 => fX11_findsWhere_b185 (nI N) r (nI b) (nI n) (nI (0 + 1 + 1)) s.1 s.2 τ) (s := (lN W, nI 1)) (stp W 1 (by omega) (by omega) (by omega))
    rw [show ((lN W, (1 : Int32)) : Int64 × Int32) = (lN W, nI 1) from rfl, s1]
    by_cases q : n + 2 ≤ N
    · rw [if_pos q]
      have s2 := lpc_step (body := fun s : Int64 × Int32 => fX11_findsWhere_b185 (nI N) r (nI b) (nI n) (nI (0 + 1 + 1)) s.1 s.2 τ) (s := (lN (W * ntW A.1 (n + 1) b), nI 2)) (stp _ 2 (by omega) q (by omega))
      rw [show nI (1 + 1) = nI 2 from rfl, s2, ← Nat.mul_assoc]
      exact lpc_exit (ext _ 3 (by omega) (by omega))
    · rw [if_neg q]
      exact lpc_exit (ext _ 2 (by omega) (by omega))
  · omega
theorem wt_63 {A : AbS} (hA : OKA A) {b n : Nat} (hb : b ≤ (aB A).length) : Wt A.1 b n < 2 ^ 63 := by
  have h1 := wt_le hA (n := n) hb
  have h2 := loA10 A b
  have h3 : (16 : Nat) ^ (loB A.1 b + 4) ≤ 16 ^ 14 := Nat.pow_le_pow_right (by omega) (by omega)
  exact Nat.lt_of_le_of_lt (Nat.le_trans h1 h3) (by decide)
/-- all that one n gives on -/
theorem m_one {A : AbS} {σ τ : St} {N b n : Nat} {r : Int64} (hA : OKA A) (h : IM A σ) (p : PSm (aB A) σ) (e : τ.1 = σ.1) (hb : b < (aB A).length) (hn : n < N) (hN : N ≤ 110) (hv : τ.2 57 n = lN (Wt A.1 b n)) : ∃ σ', lpc (fun s => fX11_findsWhere_b145 (nI N) r (nI b) (nI n) s.1 s.2) ((0 : Int32), τ) = some σ' ∧ Lf [58, 59] τ σ' ∧ (∀ q, q < N → σ'.2 58 q = τ.2 58 q + lN (toN A N b n q)) ∧ σ'.2 59 b = τ.2 59 b + lN (toW A N b n) ∧ ∀ c, c ≠ b → σ'.2 59 c = τ.2 59 c := by
  have hl := lenB A
  have hW := wt_63 hA (n := n) (b := b) (by omega)
  by_cases w0 : Wt A.1 b n = 0
  · refine ⟨τ, lpc_exit ?_, Lf.rf, fun q _ => ?_, ?_, fun _ _ => rfl⟩
    · show fX11_findsWhere_b145 (nI N) r (nI b) (nI n) (nI 0) τ = _
      unfold fX11_findsWhere_b145
      rw [if_neg (by decide), inb_nI (show n < 112 by omega) (by omega), if_pos rfl, nI_clamp (show n < 2 ^ 31 by omega), hv, w0, if_pos (by decide)]
    · unfold toN
      rw [sm_z _ (fun m _ => by unfold byM; rw [w0]; simp), lN0]
    · unfold toW
      rw [sm_z _ (fun m _ => by unfold byM; rw [w0]; simp), lN0]
  · refine lpc_cnt (a := 0) (b := 3) (fun k s => s.1 = nI k ∧ Lf [58, 59] τ s.2 ∧ (∀ q, q < N → s.2.2 58 q = τ.2 58 q + lN (sm (fun m => if n + m = q then byM A N b n m else 0) k)) ∧ s.2.2 59 b = τ.2 59 b + lN (sm (fun m => if N ≤ n + m then byM A N b n m else 0) k) ∧ ∀ c, c ≠ b → s.2.2 59 c = τ.2 59 c) _ (by omega) ?_ ?_ ⟨rfl, Lf.rf, fun q _ => (lN0 _).symm, (lN0 _).symm, fun _ _ => rfl⟩
    · rintro m ⟨x, υ⟩ _ hm ⟨f1, f2, f3, f4, f5⟩
      dsimp only at f1 f2 f3 f4 f5
      subst f1
      have e2 : υ.1 = σ.1 := f2.1.trans e
      show ∃ s', fX11_findsWhere_b145 (nI N) r (nI b) (nI n) (nI m) υ = some (.inl s') ∧ _
      unfold fX11_findsWhere_b145 fX11_findsWhere_j262
      simp only [ltb]
      have o16 : odB A.1 b m < 2 ^ 31 := by
        have := od_sum hA hb
        have h3 : odB A.1 b m ≤ odB A.1 b 0 + odB A.1 b 1 + odB A.1 b 2 := by
          rcases m with _ | _ | _ | m
          · omega
          · show odB A.1 b 1 ≤ _; omega
          · show odB A.1 b 2 ≤ _; omega
          · omega
        rw [this] at h3
        split at h3 <;> omega
      rw [if_neg (show ¬ (3 : Int32) ≤ nI m from nI_ge (b := 3) hm (by omega)), inb_nI (show n < 112 by omega) (by omega), if_pos rfl, nI_clamp (show n < 2 ^ 31 by omega), f2.2 57 (by decide), hv, if_neg (show ¬ lN (Wt A.1 b n) ≤ (0 : Int64) from fun z => w0 (Nat.le_zero.mp ((pk_lLE (b := 0) hW (by omega)).mp z))), m_says hA h p e2 hb hm, ob_s, lmul _ _ o16, m_prod hA h p e2 hb hm hn hN, ob_s, nI_add]
      have eby : Wt A.1 b n * odB A.1 b m * prM A N b n m = byM A N b n m := rfl
      rw [eby]
      by_cases q : n + m < N
      · rw [if_pos (nI_lt q (by omega)), inb_nI (show n + m < 112 by omega) (by omega), if_pos rfl, nI_clamp (show n + m < 2 ^ 31 by omega)]
        refine ⟨_, rfl, nI_1 m, f2.trans (Lf_sL (by decide)), fun q' hq' => ?_, ?_, fun c hc => ?_⟩
        · show (sL υ 58 (n + m) _).2 58 q' = _
          rw [g_sL, if_pos rfl, sm_s]
          by_cases z : n + m = q'
          · rw [if_pos z.symm, if_pos z, z, f3 q' hq', lNadd]
          · rw [if_neg (fun y => z y.symm), if_neg z, Nat.add_zero]; exact f3 q' hq'
        · show (sL υ 58 (n + m) _).2 59 b = _
          rw [g_sL, if_neg (by decide), sm_s, if_neg (by omega), Nat.add_zero]; exact f4
        · show (sL υ 58 (n + m) _).2 59 c = _
          rw [g_sL, if_neg (by decide)]; exact f5 c hc
      · rw [if_neg (fun z => q ((nI_ltI (by omega) (by omega)).mp z)), inb_nI (show b < 100 by omega) (by omega), if_pos rfl, nI_clamp (show b < 2 ^ 31 by omega)]
        refine ⟨_, rfl, nI_1 m, f2.trans (Lf_sL (by decide)), fun q' hq' => ?_, ?_, fun c hc => ?_⟩
        · show (sL υ 59 b _).2 58 q' = _
          rw [g_sL, if_neg (by decide), sm_s, if_neg (by omega), Nat.add_zero]; exact f3 q' hq'
        · show (sL υ 59 b _).2 59 b = _
          rw [g_sL, if_pos rfl, if_pos rfl, sm_s, if_pos (by omega), f4, lNadd]
        · show (sL υ 59 b _).2 59 c = _
          rw [g_sL, if_pos rfl, if_neg hc]; exact f5 c hc
    · rintro ⟨x, υ⟩ ⟨f1, f2, f3, f4, f5⟩
      dsimp only at f1 f2 f3 f4 f5
      subst f1
      exact ⟨υ, rfl, f2, f3, f4, f5⟩
theorem toN_eq {A : AbS} {N b q : Nat} (hq : q < N) : sm (fun n => toN A N b n q) N = Wt A.1 (b + 1) q := by
  have e : (fun n => toN A N b n q) = fun n => ((if n = q then Wt A.1 b n * odB A.1 b 0 * prM A N b n 0 else 0) + (if n + 1 = q then Wt A.1 b n * odB A.1 b 1 * prM A N b n 1 else 0)) + (if n + 2 = q then Wt A.1 b n * odB A.1 b 2 * prM A N b n 2 else 0) := funext (fun n => by
    show ((0 + (if n + 0 = q then byM A N b n 0 else 0)) + (if n + 1 = q then byM A N b n 1 else 0)) + (if n + 2 = q then byM A N b n 2 else 0) = _
    rw [Nat.zero_add]; rfl)
  rw [e, sm_add, sm_add, sm_pick (fun n => Wt A.1 b n * odB A.1 b 0 * prM A N b n 0), sm_pick1 (fun n => Wt A.1 b n * odB A.1 b 1 * prM A N b n 1), sm_pick2 (fun n => Wt A.1 b n * odB A.1 b 2 * prM A N b n 2), wt_s, if_pos hq]
  congr 1
  · congr 1
    · unfold prM
      rw [if_pos rfl, Nat.mul_one]
    · by_cases z : 1 ≤ q
      · rw [if_pos z, if_pos (by omega)]
        unfold prM
        rw [if_neg (by omega), if_pos rfl, show q - 1 + 1 = q by omega]
      · rw [if_neg z, if_neg (by omega)]
  · by_cases z : 2 ≤ q
    · rw [if_pos z, if_pos (by omega)]
      unfold prM
      rw [if_neg (by omega), if_neg (by omega), if_pos (by omega), show q - 2 + 1 = q - 1 by omega, show q - 2 + 2 = q by omega, ← Nat.mul_assoc]
    · rw [if_neg z, if_neg (by omega)]
theorem toW_eq {A : AbS} {N b : Nat} (hN : 1 ≤ N) : sm (fun n => toW A N b n) N = Ut A.1 N b := by
  have e : ∀ n, n < N → toW A N b n = (if n + 1 = N then Wt A.1 b n * (odB A.1 b 1 + odB A.1 b 2) * ntW A.1 (n + 1) b else 0) + (if n + 2 = N then Wt A.1 b n * odB A.1 b 2 * ntW A.1 (n + 1) b * ntW A.1 (n + 2) b else 0) := fun n hn => by
    show ((0 + (if N ≤ n + 0 then byM A N b n 0 else 0)) + (if N ≤ n + 1 then byM A N b n 1 else 0)) + (if N ≤ n + 2 then byM A N b n 2 else 0) = _
    rw [Nat.zero_add, if_neg (by omega), Nat.zero_add]
    unfold byM
    rw [prM_1, prM_2]
    by_cases z1 : n + 1 = N
    · rw [if_pos (by omega), if_pos (by omega), if_neg (by omega), if_pos z1, if_neg (show ¬ n + 2 = N by omega), Nat.mul_add, Nat.add_mul]; rfl
    · rw [if_neg (by omega), if_neg z1, Nat.zero_add, Nat.zero_add]
      by_cases z2 : n + 2 = N
      · rw [if_pos (by omega), if_pos (by omega), if_pos z2, ← Nat.mul_assoc]
      · rw [if_neg (by omega), if_neg z2]
  rw [sm_cg N e, sm_add, sm_pick1 (fun n => Wt A.1 b n * (odB A.1 b 1 + odB A.1 b 2) * ntW A.1 (n + 1) b), sm_pick2 (fun n => Wt A.1 b n * odB A.1 b 2 * ntW A.1 (n + 1) b * ntW A.1 (n + 2) b)]
  unfold Ut
  rw [if_pos (by omega), show N - 1 + 1 = N by omega]
  congr 1
  by_cases z : 2 ≤ N
  · rw [if_pos (by omega), if_pos z, show N - 2 + 1 = N - 1 by omega, show N - 2 + 2 = N by omega]
  · rw [if_neg (by omega), if_neg z]
theorem m_findsWhere {A : AbS} {σ : St} {N : Nat} (hA : OKA A) (h : IM A σ) (h1 : 1 ≤ N) (hN : N ≤ 110) : ∃ σ', fX11_findsWhere (nI N) σ = some σ' ∧ MS σ σ' ∧ PSm (aB A) σ' ∧ (∀ b, b < (aB A).length → σ'.2 59 b = lN (Sd A.1 N b)) ∧ σ'.2 44 22 = lN (Al A.1 N) := by
  have hl := lenB A
  have hlo := loA A
  unfold fX11_findsWhere
  obtain ⟨σ1, e1, k1, p1⟩ := m_reads h
  have hi : IM A σ1 := h.ms k1
  rw [e1, ob_s]
  have rst : lpc (fun s => fX11_findsWhere_b9 (nI N) s.1 s.2 σ1) ((1 : Int64), (0 : Int32)) = some (lN (16 ^ nlo (aB A))) := by
    refine lpc_for (body := fun s : Int64 × Int32 => fX11_findsWhere_b9 (nI N) s.1 s.2 σ1) (fun i => (lN (16 ^ i), nI i)) (a := 0) (b := nlo (aB A)) (Nat.zero_le _) (fun i _ hi => ?_) ?_
    · show fX11_findsWhere_b9 (nI N) (lN (16 ^ i)) (nI i) σ1 = _
      unfold fX11_findsWhere_b9
      simp only [ltb]
      rw [p1.2.1, if_neg (nI_ge hi (by omega)), show lN (16 ^ i) * (16 : Int64) = lN (16 ^ i * 16) from lN_mul _ 16, nI_1]; rfl
    · show fX11_findsWhere_b9 (nI N) (lN (16 ^ nlo (aB A))) (nI (nlo (aB A))) σ1 = _
      unfold fX11_findsWhere_b9
      rw [p1.2.1, if_pos (Int32.le_refl _)]
  rw [rst, ob_s]
  have fst : ∃ r, lpc (fun s => fX11_findsWhere_b33 (nI N) (lN (16 ^ nlo (aB A))) s.1 s.2) ((0 : Int32), σ1) = some r ∧ (Lf [57] σ1 r ∧ ∀ n, n < 112 → r.2 57 n = lN (Wt A.1 0 n)) := by
    refine lpc_cnt (a := 0) (b := 112) (fun k s => s.1 = nI k ∧ Lf [57] σ1 s.2 ∧ ∀ n, n < k → s.2.2 57 n = lN (Wt A.1 0 n)) _ (by omega) ?_ ?_ ⟨rfl, Lf.rf, fun n hn => absurd hn (Nat.not_lt_zero _)⟩
    · rintro k ⟨x, τ⟩ _ hk ⟨f1, f2, f3⟩
      dsimp only at f1 f2 f3
      subst f1
      have eb : fX11_findsWhere_b33 (nI N) (lN (16 ^ nlo (aB A))) (nI k) τ = some (.inl (nI k + 1, sL τ 57 k (lN (Wt A.1 0 k)))) := by
        unfold fX11_findsWhere_b33 fX11_findsWhere_j56 Wt
        rw [if_neg (show ¬ (112 : Int32) ≤ nI k from nI_ge (b := 112) hk (by omega)), inb_nI hk (by omega), if_pos rfl, if_pos rfl, nI_clamp (show k < 2 ^ 31 by omega)]
        by_cases q : k = 0
        · rw [if_pos (show nI k = (0 : Int32) by rw [q]; rfl), if_pos q]; rfl
        · rw [if_neg (show ¬ nI k = (0 : Int32) from fun z => q ((nI_zero_iff (by omega)).mp z)), if_neg q]; rfl
      refine ⟨_, eb, nI_1 k, f2.trans (Lf_sL (by simp)), fun n hn => ?_⟩
      show (sL τ 57 k _).2 57 n = _
      rw [g_sL, if_pos rfl]
      by_cases q : n = k
      · rw [if_pos q, q]
      · rw [if_neg q]; exact f3 n (by omega)
    · rintro ⟨x, τ⟩ ⟨f1, f2, f3⟩
      dsimp only at f1 f2 f3
      subst f1
      exact ⟨τ, rfl, f2, f3⟩
  obtain ⟨r3, e3, l3, v3⟩ := fst
  rw [e3, ob_s]
  have key : ∃ r, lpc (fun s => fX11_findsWhere_b71 (nI N) s.1 s.2.1 s.2.2) (lN (16 ^ nlo (aB A)), (0 : Int32), sL r3 44 22 0) = some r ∧ (Lf [44, 57, 58, 59] σ1 r ∧ (∀ c, c < (aB A).length → r.2 59 c = lN (Sd A.1 N c)) ∧ r.2 44 22 = lN (Al A.1 N)) := by
    refine lpc_cnt (a := 0) (b := (aB A).length) (fun b s => s.1 = lN (16 ^ (nlo (aB A) - loB A.1 b)) ∧ s.2.1 = nI b ∧ Lf [44, 57, 58, 59] σ1 s.2.2 ∧ (∀ n, n < N → s.2.2.2 57 n = lN (Wt A.1 b n)) ∧ (∀ c, c < b → s.2.2.2 59 c = lN (Sd A.1 N c)) ∧ s.2.2.2 44 22 = lN (sm (Sd A.1 N) b)) _ (Nat.zero_le _) ?_ ?_ ⟨by rw [lb_0]; rfl, rfl, (l3.mono (by decide)).trans (Lf_sL (by decide)), fun n hn => by rw [g_sL, if_neg (by decide)]; exact v3 n (by omega), fun c hc => absurd hc (Nat.not_lt_zero _), by rw [g_sL, if_pos rfl, if_pos rfl]; rfl⟩
    · rintro b ⟨x, y, τ⟩ _ hb ⟨f1, f2, f3, f4, f5, f6⟩
      dsimp only at f1 f2 f3 f4 f5 f6
      subst f1
      subst f2
      have hp : PSm (aB A) τ := p1.lf f3.1
      obtain ⟨g1, -, -⟩ := hp.2.2.2.at hb
      have hls := lb_s hb
      have hle := lb_le A (b + 1)
      have h16 : (16 : Nat) ^ (nlo (aB A) - loB A.1 b) < 2 ^ 63 := by
        have : (16 : Nat) ^ (nlo (aB A) - loB A.1 b) ≤ 16 ^ 10 := Nat.pow_le_pow_right (by omega) (by omega)
        exact Nat.lt_of_le_of_lt this (by decide)
      show ∃ s', fX11_findsWhere_b71 (nI N) (lN (16 ^ (nlo (aB A) - loB A.1 b))) (nI b) τ = some (.inl s') ∧ _
      have jj : ∃ s', fX11_findsWhere_j99 (nI N) (nI b) (lN (16 ^ (nlo (aB A) - loB A.1 b))) (lN (if kdB (aB A) b < 3 then 16 else 1)) τ = some (.inl s') ∧ s'.1 = lN (16 ^ (nlo (aB A) - loB A.1 (b + 1))) ∧ s'.2.1 = nI (b + 1) ∧ Lf [44, 57, 58, 59] σ1 s'.2.2 ∧ (∀ n, n < N → s'.2.2.2 57 n = lN (Wt A.1 (b + 1) n)) ∧ (∀ c, c < b + 1 → s'.2.2.2 59 c = lN (Sd A.1 N c)) ∧ s'.2.2.2 44 22 = lN (sm (Sd A.1 N) (b + 1)) := by
        unfold fX11_findsWhere_j99
        simp only [ltb]
        have hk1 : 0 < (if kdB (aB A) b < 3 then 16 else 1) ∧ (if kdB (aB A) b < 3 then 16 else 1) < 2 ^ 63 := by split <;> decide
        have hdv : lN (16 ^ (nlo (aB A) - loB A.1 b)) / lN (if kdB (aB A) b < 3 then 16 else 1) = lN (16 ^ (nlo (aB A) - loB A.1 (b + 1))) := by
          rw [pk_lDiv h16 hk1.1 hk1.2]
          by_cases k3 : kdB (aB A) b < 3
          · rw [if_pos k3] at hls ⊢
            rw [show nlo (aB A) - loB A.1 b = (nlo (aB A) - loB A.1 (b + 1)) + 1 by omega, Nat.pow_succ, Nat.mul_div_cancel _ (by omega)]
          · rw [if_neg k3] at hls ⊢
            rw [Nat.div_one, show nlo (aB A) - loB A.1 b = nlo (aB A) - loB A.1 (b + 1) by omega]
        rw [if_neg (lN_ne0 hk1.1 hk1.2), hdv, inb_nI (show b < 100 by omega) (by omega), if_pos rfl, nI_clamp (show b < 2 ^ 31 by omega)]
        generalize hR : lN (16 ^ (nlo (aB A) - loB A.1 (b + 1))) = R
        -- next is wiped
        have wip : ∃ r, lpc (fun s => fX11_findsWhere_b112 (nI N) R (nI b) s.1 s.2) ((0 : Int32), sL τ 59 b 0) = some r ∧ (Lf [58] (sL τ 59 b 0) r ∧ ∀ n, n < 112 → r.2 58 n = 0) := by
          refine lpc_cnt (a := 0) (b := 112) (fun k s => s.1 = nI k ∧ Lf [58] (sL τ 59 b 0) s.2 ∧ ∀ n, n < k → s.2.2 58 n = 0) _ (by omega) ?_ ?_ ⟨rfl, Lf.rf, fun n hn => absurd hn (Nat.not_lt_zero _)⟩
          · rintro k ⟨x, υ⟩ _ hk ⟨g1, g2, g3⟩
            dsimp only at g1 g2 g3
            subst g1
            have eb : fX11_findsWhere_b112 (nI N) R (nI b) (nI k) υ = some (.inl (nI k + 1, sL υ 58 k 0)) := by
              unfold fX11_findsWhere_b112
              rw [if_neg (show ¬ (112 : Int32) ≤ nI k from nI_ge (b := 112) hk (by omega)), inb_nI hk (by omega), if_pos rfl, nI_clamp (show k < 2 ^ 31 by omega)]
            refine ⟨_, eb, nI_1 k, g2.trans (Lf_sL (by simp)), fun n hn => ?_⟩
            show (sL υ 58 k _).2 58 n = _
            rw [g_sL, if_pos rfl]
            by_cases q : n = k
            · rw [if_pos q]
            · rw [if_neg q]; exact g3 n (by omega)
          · rintro ⟨x, υ⟩ ⟨g1, g2, g3⟩
            dsimp only at g1 g2 g3
            subst g1
            exact ⟨υ, rfl, g2, g3⟩
        obtain ⟨r4, e4, l4, v4⟩ := wip
        rw [e4, ob_s]
        have l4' : Lf [44, 57, 58, 59] σ1 r4 := (f3.trans (Lf_sL (by decide))).trans (l4.mono (by decide))
        have w59 : ∀ c, r4.2 59 c = if c = b then 0 else τ.2 59 c := fun c => by rw [l4.2 59 (by decide), g_sL, if_pos rfl]
        have w57 : ∀ n, n < N → r4.2 57 n = lN (Wt A.1 b n) := fun n hn => by rw [l4.2 57 (by decide), g_sL, if_neg (by decide)]; exact f4 n hn
        have all : ∃ r, lpc (fun s => fX11_findsWhere_b136 (nI N) R (nI b) s.1 s.2) ((0 : Int32), r4) = some r ∧ (Lf [58, 59] r4 r ∧ (∀ q, q < N → r.2 58 q = lN (Wt A.1 (b + 1) q)) ∧ r.2 59 b = lN (Ut A.1 N b) ∧ ∀ c, c ≠ b → r.2 59 c = r4.2 59 c) := by
          refine lpc_cnt (a := 0) (b := N) (fun k s => s.1 = nI k ∧ Lf [58, 59] r4 s.2 ∧ (∀ q, q < N → s.2.2 58 q = lN (sm (fun n => toN A N b n q) k)) ∧ s.2.2 59 b = lN (sm (fun n => toW A N b n) k) ∧ ∀ c, c ≠ b → s.2.2 59 c = r4.2 59 c) _ (Nat.zero_le _) ?_ ?_ ⟨rfl, Lf.rf, fun q hq => by rw [v4 q (by omega)]; rfl, by rw [w59, if_pos rfl]; rfl, fun _ _ => rfl⟩
          · rintro n ⟨x, υ⟩ _ hn ⟨g1, g2, g3, g4, g5⟩
            dsimp only at g1 g2 g3 g4 g5
            subst g1
            obtain ⟨υ', u1, u2, u3, u4, u5⟩ := m_one (σ := σ1) (τ := υ) (r := R) hA hi p1 (g2.1.trans l4'.1) hb hn hN (by rw [g2.2 57 (by decide)]; exact w57 n hn)
            show ∃ s', fX11_findsWhere_b136 (nI N) R (nI b) (nI n) υ = some (.inl s') ∧ _
            unfold fX11_findsWhere_b136
            rw [if_neg (nI_ge hn (by omega)), u1, ob_s]
            refine ⟨_, rfl, nI_1 n, g2.trans u2, fun q hq => ?_, ?_, fun c hc => ?_⟩
            · show υ'.2 58 q = _
              rw [u3 q hq, g3 q hq, lN_add, sm_s]
            · show υ'.2 59 b = _
              rw [u4, g4, lN_add, sm_s]
            · show υ'.2 59 c = _
              rw [u5 c hc]; exact g5 c hc
          · rintro ⟨x, υ⟩ ⟨g1, g2, g3, g4, g5⟩
            dsimp only at g1 g2 g3 g4 g5
            subst g1
            refine ⟨υ, ?_, g2, fun q hq => ?_, ?_, g5⟩
            · show fX11_findsWhere_b136 (nI N) R (nI b) (nI N) υ = _
              unfold fX11_findsWhere_b136
              rw [if_pos (Int32.le_refl _)]
            · rw [g3 q hq, toN_eq hq]
            · rw [g4, toW_eq h1]
        obtain ⟨r5, e5, l5, v5, w5, z5⟩ := all
        rw [e5, ob_s]
        have cpy : ∃ r, lpc (fun s => fX11_findsWhere_b277 (nI N) R (nI b) s.1 s.2) ((0 : Int32), r5) = some r ∧ (Lf [57] r5 r ∧ ∀ n, n < 112 → r.2 57 n = r5.2 58 n) := by
          refine lpc_cnt (a := 0) (b := 112) (fun k s => s.1 = nI k ∧ Lf [57] r5 s.2 ∧ ∀ n, n < k → s.2.2 57 n = r5.2 58 n) _ (by omega) ?_ ?_ ⟨rfl, Lf.rf, fun n hn => absurd hn (Nat.not_lt_zero _)⟩
          · rintro k ⟨x, υ⟩ _ hk ⟨g1, g2, g3⟩
            dsimp only at g1 g2 g3
            subst g1
            have eb : fX11_findsWhere_b277 (nI N) R (nI b) (nI k) υ = some (.inl (nI k + 1, sL υ 57 k (r5.2 58 k))) := by
              unfold fX11_findsWhere_b277
              rw [if_neg (show ¬ (112 : Int32) ≤ nI k from nI_ge (b := 112) hk (by omega)), inb_nI hk (by omega), if_pos rfl, nI_clamp (show k < 2 ^ 31 by omega), g2.2 58 (by decide)]
            refine ⟨_, eb, nI_1 k, g2.trans (Lf_sL (by simp)), fun n hn => ?_⟩
            show (sL υ 57 k _).2 57 n = _
            rw [g_sL, if_pos rfl]
            by_cases q : n = k
            · rw [if_pos q, q]
            · rw [if_neg q]; exact g3 n (by omega)
          · rintro ⟨x, υ⟩ ⟨g1, g2, g3⟩
            dsimp only at g1 g2 g3
            subst g1
            exact ⟨υ, rfl, g2, g3⟩
        obtain ⟨r6, e6, l6, v6⟩ := cpy
        rw [e6, ob_s, if_pos rfl]
        have l6' : Lf [44, 57, 58, 59] σ1 r6 := (l4'.trans (l5.mono (by decide))).trans (l6.mono (by decide))
        have w6 : r6.2 59 b * R = lN (Sd A.1 N b) := by
          rw [l6.2 59 (by decide), w5, ← hR, lN_mul]; rfl
        rw [w6]
        refine ⟨_, rfl, rfl, nI_1 b, (l6'.trans (Lf_sL (by decide))).trans (Lf_sL (by decide)), fun n hn => ?_, fun c hc => ?_, ?_⟩
        · show (sL (sL r6 59 b _) 44 22 _).2 57 n = _
          rw [g_sL, if_neg (by decide), g_sL, if_neg (by decide), v6 n (by omega), v5 n hn]
        · show (sL (sL r6 59 b _) 44 22 _).2 59 c = _
          rw [g_sL, if_neg (by decide), g_sL, if_pos rfl]
          by_cases q : c = b
          · rw [if_pos q, q]
          · rw [if_neg q, l6.2 59 (by decide), z5 c q, w59, if_neg q]; exact f5 c (by omega)
        · show (sL (sL r6 59 b _) 44 22 _).2 44 22 = _
          rw [g_sL, if_pos rfl, if_pos rfl, l6.2 44 (by decide), l5.2 44 (by decide), l4.2 44 (by decide), g_sL, if_neg (by decide), f6, lN_add, sm_s]
      unfold fX11_findsWhere_b71
      rw [hp.1, if_neg (nI_ge hb (by omega)), inb_nI (show b < 100 by omega) (by omega), if_pos rfl, nI_clamp (show b < 2 ^ 31 by omega), g1]
      by_cases k3 : kdB (aB A) b < 3
      · rw [if_neg (show ¬ (3 : Int32) ≤ kdB (aB A) b from Int32.not_le.mpr k3)]
        rw [if_pos k3] at jj
        exact jj
      · rw [if_pos (show (3 : Int32) ≤ kdB (aB A) b from Int32.not_lt.mp k3)]
        rw [if_neg k3] at jj
        exact jj
    · rintro ⟨x, y, τ⟩ ⟨f1, f2, f3, f4, f5, f6⟩
      dsimp only at f1 f2 f3 f4 f5 f6
      subst f2
      have hp : PSm (aB A) τ := p1.lf f3.1
      refine ⟨τ, ?_, f3, f5, f6⟩
      show fX11_findsWhere_b71 (nI N) x (nI (aB A).length) τ = _
      unfold fX11_findsWhere_b71
      rw [hp.1, if_pos (Int32.le_refl _)]
  obtain ⟨r, e, l, v, w⟩ := key
  rw [e, ob_s]
  exact ⟨r, rfl, k1.trans (l.MS (by decide)), p1.lf l.1, v, w⟩
