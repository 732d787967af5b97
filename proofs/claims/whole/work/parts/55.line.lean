/-! line -/
theorem fr_tr {a b c d e f : Nat} (d0 : 0 < d) (h1 : a * d ≤ c * b) (h2 : c * f < e * d) (b0 : 0 < b) : a * f < e * b := by
  have e1 : a * d * f ≤ c * b * f := Nat.mul_le_mul_right _ h1
  have e2 : c * f * b < e * d * b := Nat.mul_lt_mul_of_pos_right h2 b0
  have e3 : a * f * d < e * b * d := by
    rw [Nat.mul_right_comm a f d, Nat.mul_right_comm e b d]
    rw [Nat.mul_right_comm c b f] at e1
    omega
  exact Nat.lt_of_mul_lt_mul_right e3
/-- the first with the least mean cost -/
def LnM (A : AbS) (n R : Nat) : Prop := (1 ≤ R ∧ R < n ∧ Al A.1 R ≠ 0) ∧ ∀ N, 1 ≤ N → N < n → Al A.1 N ≠ 0 → cA A R * Al A.1 N < cA A N * Al A.1 R ∨ (cA A R * Al A.1 N = cA A N * Al A.1 R ∧ R ≤ N)
def LnP (A : AbS) (r : Int32) : Prop := (r = -1 ∧ ∀ N, 1 ≤ N → N < 111 → Al A.1 N ≠ 0 → ¬ cA A N < aS A 5 * Al A.1 N) ∨ ∃ R, r = nI R ∧ LnM A 111 R ∧ cA A R < aS A 5 * Al A.1 R
theorem LnM_u {A : AbS} {n R R' : Nat} (h : LnM A n R) (h' : LnM A n R') : R = R' := by
  obtain ⟨⟨a1, a2, a3⟩, a4⟩ := h
  obtain ⟨⟨b1, b2, b3⟩, b4⟩ := h'
  have c1 := a4 R' b1 b2 b3
  have c2 := b4 R a1 a2 a3
  omega
theorem LnP_u {A : AbS} (a b : Int32) (h : LnP A a) (h' : LnP A b) : a = b := by
  rcases h with ⟨e, h⟩ | ⟨R, e, h, g⟩ <;> rcases h' with ⟨e', h'⟩ | ⟨R', e', h', g'⟩
  · rw [e, e']
  · exact absurd g' (h R' h'.1.1 h'.1.2.1 h'.1.2.2)
  · exact absurd g (h' R h.1.1 h.1.2.1 h.1.2.2)
  · rw [e, e', LnM_u h h']
noncomputable def vLine (A : AbS) : Int32 := the (LnP A)
theorem LnM_keep {A : AbS} {n R : Nat} (h : LnM A n R) (hn : Al A.1 n = 0 ∨ ¬ cA A n * Al A.1 R < cA A R * Al A.1 n) : LnM A (n + 1) R := by
  obtain ⟨⟨a1, a2, a3⟩, a4⟩ := h
  refine ⟨⟨a1, by omega, a3⟩, fun N h1 h2 h3 => ?_⟩
  by_cases q : N = n
  · subst q
    rcases hn with z | z
    · exact absurd z h3
    · omega
  · exact a4 N h1 (by omega) h3
theorem LnM_new {A : AbS} {n : Nat} (h1 : 1 ≤ n) (hz : Al A.1 n ≠ 0) (h : ∀ N, 1 ≤ N → N < n → Al A.1 N ≠ 0 → cA A n * Al A.1 N < cA A N * Al A.1 n) : LnM A (n + 1) n := by
  refine ⟨⟨h1, by omega, hz⟩, fun N a1 a2 a3 => ?_⟩
  by_cases q : N = n
  · subst q; omega
  · exact Or.inl (h N a1 (by omega) a3)
theorem LnM_bet {A : AbS} {n R : Nat} (h : LnM A n R) (hz : Al A.1 n ≠ 0) (hl : cA A n * Al A.1 R < cA A R * Al A.1 n) : ∀ N, 1 ≤ N → N < n → Al A.1 N ≠ 0 → cA A n * Al A.1 N < cA A N * Al A.1 n := by
  obtain ⟨⟨a1, a2, a3⟩, a4⟩ := h
  intro N h1 h2 h3
  rcases a4 N h1 h2 h3 with z | z
  · exact fr_tr (d := Al A.1 R) (c := cA A R) (by omega) (by omega) z (by omega)
  · -- like the best so far
    have e1 : cA A n * Al A.1 R * Al A.1 N < cA A R * Al A.1 n * Al A.1 N := Nat.mul_lt_mul_of_pos_right hl (by omega)
    have e2 : cA A n * Al A.1 N * Al A.1 R < cA A N * Al A.1 n * Al A.1 R := by
      rw [Nat.mul_right_comm (cA A n)]
      rw [Nat.mul_right_comm (cA A R), z.1, Nat.mul_right_comm (cA A N)] at e1
      exact e1
    exact Nat.lt_of_mul_lt_mul_right e2
theorem c_line (A : AbS) (σ : St) (hA : OKA A) (h : IC A σ) : ∃ σ', fX10_line σ = some (vLine A, σ') ∧ IC A σ' ∧ CM σ σ' := by
  unfold fX10_line vLine
  obtain ⟨σ1, e1, i1, k1, wk⟩ := c_refresh hA h
  have s5 := (se45 hA).2
  have p := scW_pos A
  simp only [ltb]
  rw [e1, ob_s, show fX6_valueOf (5 : Int32) σ1 = some (σ1.1 8 5) from p_valueOf (i := 5) (by omega), ob_s, i1.2.2.2.1 5 (by omega), nI_l (by omega)]
  have key : ∃ r, lpc (fun s => fX10_line_b22 s.1 s.2.1 s.2.2.1 s.2.2.2 σ1) ((-1 : Int32), lN (aS A 5), (1 : Int64), (1 : Int32)) = some r ∧ LnP A r := by
    refine lpc_cnt (a := 1) (b := 111) (fun n s => s.2.2.2 = nI n ∧ ((s.1 = -1 ∧ s.2.1 = lN (aS A 5) ∧ s.2.2.1 = 1 ∧ ∀ N, 1 ≤ N → N < n → Al A.1 N ≠ 0 → ¬ cA A N < aS A 5 * Al A.1 N) ∨ ∃ R, s.1 = nI R ∧ s.2.1 = lN (scW A.1 * cA A R) ∧ s.2.2.1 = lN (scW A.1 * Al A.1 R) ∧ LnM A n R ∧ cA A R < aS A 5 * Al A.1 R)) _ (by omega) ?_ ?_ ⟨rfl, Or.inl ⟨rfl, rfl, rfl, fun N h1 h2 => by omega⟩⟩
    · rintro n ⟨x1, x2, x3, x4⟩ hn1 hn ⟨f1, f2⟩
      dsimp only at f1 f2
      subst f1
      have a := sc_al hA hn1
      show ∃ s', fX10_line_b22 x1 x2 x3 (nI n) σ1 = some (.inl s') ∧ _
      unfold fX10_line_b22 fX10_line_j78
      rw [if_neg (show ¬ (110 : Int32) < nI n from fun z => absurd ((nI_ltI (a := 110) (by omega) (by omega)).mp z) (by omega)), c_ofAll wk hn1 (by omega), ob_s]
      by_cases z : Al A.1 n = 0
      · rw [if_pos ((al0 (σ := σ) hA hn1).1.mpr z)]
        refine ⟨_, rfl, nI_1 n, ?_⟩
        rcases f2 with ⟨c1, c2, c3, c4⟩ | ⟨R, c1, c2, c3, c4, c5⟩
        · refine Or.inl ⟨c1, c2, c3, fun N h1 h2 h3 => ?_⟩
          by_cases q : N = n
          · rw [q] at h3; exact absurd z h3
          · exact c4 N h1 (by omega) h3
        · exact Or.inr ⟨R, c1, c2, c3, LnM_keep c4 (Or.inl z), c5⟩
      · have hcs := (cA_sc hA hn1).1
        have hap : 0 < scW A.1 * Al A.1 n := Nat.mul_pos p (by omega)
        rw [if_neg (fun y => z ((al0 (σ := σ) hA hn1).1.mp y)), c_cost hA i1 wk hn1 (by omega) z, ob_s, ob_s]
        rcases f2 with ⟨c1, c2, c3, c4⟩ | ⟨R, c1, c2, c3, c4, c5⟩
        · subst c1
          subst c2
          subst c3
          rw [show (1 : Int64) = lN 1 from rfl, c_isLess hcs (by omega) (by omega) (by omega) hap (by omega), ob_s]
          have ec : scW A.1 * cA A n * 1 < aS A 5 * (scW A.1 * Al A.1 n) ↔ cA A n < aS A 5 * Al A.1 n := by
            rw [Nat.mul_one, Nat.mul_left_comm]
            exact ⟨fun y => Nat.lt_of_mul_lt_mul_left y, fun y => Nat.mul_lt_mul_of_pos_left y p⟩
          by_cases q : cA A n < aS A 5 * Al A.1 n
          · rw [if_pos (ec.mpr q), if_neg one_ne]
            refine ⟨_, rfl, nI_1 n, Or.inr ⟨n, rfl, rfl, rfl, LnM_new hn1 z (fun N h1 h2 h3 => ?_), q⟩⟩
            have h4 := c4 N h1 h2 h3
            -- this one is less than what it costs to leave, that one is not
            have h5 : cA A n * 1 < aS A 5 * Al A.1 n := by omega
            have e1 : cA A n * Al A.1 N < aS A 5 * Al A.1 n * Al A.1 N := Nat.mul_lt_mul_of_pos_right q (by omega)
            have e2 : aS A 5 * Al A.1 N * Al A.1 n ≤ cA A N * Al A.1 n := Nat.mul_le_mul_right _ (by omega)
            rw [Nat.mul_right_comm (aS A 5)] at e2
            omega
          · rw [if_neg (fun y => q (ec.mp y)), if_pos rfl]
            refine ⟨_, rfl, nI_1 n, Or.inl ⟨rfl, rfl, rfl, fun N h1 h2 h3 => ?_⟩⟩
            by_cases y : N = n
            · rw [y]; exact q
            · exact c4 N h1 (by omega) h3
        · have hR := c4.1
          have hRa := sc_al hA hR.1
          have hRc := (cA_sc hA hR.1).1
          have hRp : 0 < scW A.1 * Al A.1 R := Nat.mul_pos p (by omega)
          subst c1
          subst c2
          subst c3
          rw [c_isLess hcs (by omega) hRc (by omega) hap hRp, ob_s]
          have ec : scW A.1 * cA A n * (scW A.1 * Al A.1 R) < scW A.1 * cA A R * (scW A.1 * Al A.1 n) ↔ cA A n * Al A.1 R < cA A R * Al A.1 n := by
            rw [Nat.mul_mul_mul_comm, Nat.mul_mul_mul_comm (scW A.1) (cA A R)]
            exact ⟨fun y => Nat.lt_of_mul_lt_mul_left y, fun y => Nat.mul_lt_mul_of_pos_left y (Nat.mul_pos p p)⟩
          by_cases q : cA A n * Al A.1 R < cA A R * Al A.1 n
          · rw [if_pos (ec.mpr q), if_neg one_ne]
            refine ⟨_, rfl, nI_1 n, Or.inr ⟨n, rfl, rfl, rfl, LnM_new hn1 z (LnM_bet c4 z q), ?_⟩⟩
            have e1 : cA A R * Al A.1 n < aS A 5 * Al A.1 R * Al A.1 n := Nat.mul_lt_mul_of_pos_right c5 (by omega)
            have e2 : cA A n * Al A.1 R < aS A 5 * Al A.1 n * Al A.1 R := by
              rw [Nat.mul_right_comm (aS A 5)]; omega
            exact Nat.lt_of_mul_lt_mul_right e2
          · rw [if_neg (fun y => q (ec.mp y)), if_pos rfl]
            exact ⟨_, rfl, nI_1 n, Or.inr ⟨R, rfl, rfl, rfl, LnM_keep c4 (Or.inr q), c5⟩⟩
    · rintro ⟨x1, x2, x3, x4⟩ ⟨f1, f2⟩
      dsimp only at f1 f2
      subst f1
      refine ⟨x1, rfl, ?_⟩
      rcases f2 with ⟨c1, c2, c3, c4⟩ | ⟨R, c1, c2, c3, c4, c5⟩
      · exact Or.inl ⟨c1, c4⟩
      · exact Or.inr ⟨R, c1, c4, c5⟩
  obtain ⟨r, e, hr⟩ := key
  rw [e, ob_s, the_eq hr LnP_u]
  exact ⟨σ1, rfl, i1, k1⟩
theorem m_lineNow (A : AbS) (σ : St) (hA : OKA A) (h : IM A σ) : ∃ σ', fX11_lineNow σ = some (vLine A, σ') ∧ MS σ σ' := by
  unfold fX11_lineNow vLine
  have s5 := (se45 hA).2
  have key : ∃ r, lpc (fun s => fX11_lineNow_b10 s.1 s.2.1 s.2.2.1 s.2.2.2.1 s.2.2.2.2) ((-1 : Int32), (0 : Int64), (1 : Int64), (1 : Int32), σ) = some r ∧ (MS σ r.2.2.2 ∧ ((r.1 = -1 ∧ ∀ N, 1 ≤ N → N < 111 → Al A.1 N = 0) ∨ ∃ R, r.1 = nI R ∧ r.2.1 = lN (cA A R) ∧ r.2.2.1 = lN (Al A.1 R) ∧ LnM A 111 R)) := by
    refine lpc_cnt (a := 1) (b := 111) (fun n s => s.2.2.2.1 = nI n ∧ MS σ s.2.2.2.2 ∧ ((s.1 = -1 ∧ ∀ N, 1 ≤ N → N < n → Al A.1 N = 0) ∨ ∃ R, s.1 = nI R ∧ s.2.1 = lN (cA A R) ∧ s.2.2.1 = lN (Al A.1 R) ∧ LnM A n R)) _ (by omega) ?_ ?_ ⟨rfl, MS.rf, Or.inl ⟨rfl, fun N h1 h2 => by omega⟩⟩
    · rintro n ⟨x1, x2, x3, x4, τ⟩ hn1 hn ⟨f1, f2, f3⟩
      dsimp only at f1 f2 f3
      subst f1
      have a := al_56 hA hn1
      obtain ⟨τ2, e2, k2, p2, v2, a2⟩ := m_findsWhere hA (h.ms f2) hn1 (show n ≤ 110 by omega)
      show ∃ s', fX11_lineNow_b10 x1 x2 x3 (nI n) τ = some (.inl s') ∧ _
      unfold fX11_lineNow_b10 fX11_lineNow_j78 fX11_lineNow_j90
      simp only [ltb]
      rw [if_neg (show ¬ (110 : Int32) < nI n from fun z => absurd ((nI_ltI (a := 110) (by omega) (by omega)).mp z) (by omega)), e2, ob_s]
      have hle : (τ2.2 44 22 ≤ (0 : Int64)) ↔ Al A.1 n = 0 := by
        rw [a2]
        exact ⟨fun z => Nat.le_zero.mp ((pk_lLE (b := 0) (by omega) (by omega)).mp z), fun z => by rw [z]; decide⟩
      by_cases z : Al A.1 n = 0
      · rw [if_pos (hle.mpr z)]
        refine ⟨_, rfl, nI_1 n, f2.trans k2, ?_⟩
        rcases f3 with ⟨c1, c2⟩ | ⟨R, c1, c2, c3, c4⟩
        · refine Or.inl ⟨c1, fun N h1 h2 => ?_⟩
          by_cases q : N = n
          · rw [q]; exact z
          · exact c2 N h1 (by omega)
        · exact Or.inr ⟨R, c1, c2, c3, LnM_keep c4 (Or.inl z)⟩
      · obtain ⟨d1, d2⟩ := m_cost (σ := τ) hA ((h.ms f2).ms k2) p2 v2 a2 z
        have hcs := (cA_sc hA hn1).2
        rw [if_neg (fun y => z (hle.mp y)), if_pos d1, d2, a2]
        rcases f3 with ⟨c1, c2⟩ | ⟨R, c1, c2, c3, c4⟩
        · subst c1
          rw [if_pos rfl]
          exact ⟨_, rfl, nI_1 n, f2.trans k2, Or.inr ⟨n, rfl, rfl, rfl, LnM_new hn1 z (fun N h1 h2 h3 => absurd (c2 N h1 h2) h3)⟩⟩
        · have hR := c4.1
          have hRa := al_56 hA hR.1
          have hRc := (cA_sc hA hR.1).2
          subst c1
          subst c2
          subst c3
          rw [if_neg (nI_nm1 (by omega)), m_isLess hcs (by omega) hRc (by omega) (by omega) (by omega), ob_s]
          by_cases q : cA A n * Al A.1 R < cA A R * Al A.1 n
          · rw [if_pos q, if_neg one_ne]
            exact ⟨_, rfl, nI_1 n, f2.trans k2, Or.inr ⟨n, rfl, rfl, rfl, LnM_new hn1 z (LnM_bet c4 z q)⟩⟩
          · rw [if_neg q, if_pos rfl]
            exact ⟨_, rfl, nI_1 n, f2.trans k2, Or.inr ⟨R, rfl, rfl, rfl, LnM_keep c4 (Or.inr q)⟩⟩
    · rintro ⟨x1, x2, x3, x4, τ⟩ ⟨f1, f2, f3⟩
      dsimp only at f1 f2 f3
      subst f1
      exact ⟨(x1, x2, x3, τ), rfl, f2, f3⟩
  obtain ⟨r, e, k, hr⟩ := key
  rw [e, ob_s]
  rcases hr with ⟨c1, c2⟩ | ⟨R, c1, c2, c3, c4⟩
  · rw [if_pos c1, the_eq (P := LnP A) (Or.inl ⟨rfl, fun N h1 h2 h3 => absurd (c2 N h1 h2) h3⟩) LnP_u]
    exact ⟨_, rfl, k⟩
  · have hR := c4.1
    have hRa := al_56 hA hR.1
    have hRc := (cA_sc hA hR.1).2
    have hi := h.ms k
    have hm : aS A 5 * Al A.1 R ≤ 99 * 2 ^ 56 := Nat.mul_le_mul s5 hRa
    rw [if_neg (show ¬ r.1 = (-1 : Int32) by rw [c1]; exact nI_nm1 (by omega)), c2, c3, hi.2.2.1 5 (by omega), nI_l (by omega), lN_mul]
    by_cases q : cA A R < aS A 5 * Al A.1 R
    · rw [if_neg (fun y => absurd ((pk_lLE (by omega) (by omega)).mp y) (by omega)), c1, the_eq (P := LnP A) (r := nI R) (Or.inr ⟨R, rfl, c4, q⟩) LnP_u]
      exact ⟨_, rfl, k⟩
    · rw [if_pos ((pk_lLE (by omega) (by omega)).mpr (by omega)), the_eq (P := LnP A) (r := -1) (Or.inl ⟨rfl, fun N h1 h2 h3 => ?_⟩) LnP_u]
      · exact ⟨_, rfl, k⟩
      · intro y
        have hle : cA A R * Al A.1 N ≤ cA A N * Al A.1 R := by
          have := c4.2 N h1 h2 h3; omega
        have e1 : cA A N * Al A.1 R < aS A 5 * Al A.1 N * Al A.1 R := Nat.mul_lt_mul_of_pos_right y (by omega)
        have e2 : cA A R * Al A.1 N < aS A 5 * Al A.1 R * Al A.1 N := by
          rw [Nat.mul_right_comm (aS A 5)]; omega
        exact q (Nat.lt_of_mul_lt_mul_right e2)
theorem m_line (A : AbS) (σ : St) (hA : OKA A) (h : IM A σ) : ∃ σ', fX11_line σ = some (vLine A, σ') ∧ MS σ σ' := by
  obtain ⟨σ', e, k⟩ := m_lineNow A σ hA h
  unfold fX11_line
  rw [e, ob_s]
  exact ⟨σ', rfl, k⟩
theorem l_line : ls_line Inv := fun σ h => ls_mkq vLine c_line m_line σ h
