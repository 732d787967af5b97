/-! where, likeliest, strike -/
theorem c_ofAll {A : AbS} {σ : St} {N : Nat} (w : WOK A.1 σ) (h1 : 1 ≤ N) (h2 : N ≤ 110) : fX9_ofAll (nI N) σ = some (lN (scW A.1 * Al A.1 N)) := by
  unfold fX9_ofAll
  rw [p_longAt (n := 111) rfl (by omega) (by omega), if_pos (by omega), ob_s, (w N h1 h2).1]
theorem sub_add10 (a b : Int32) : a - b + 10 = a + 10 - b := by
  rw [Int32.sub_eq_add_neg, Int32.sub_eq_add_neg, Int32.add_assoc, Int32.add_comm (-b), ← Int32.add_assoc]
theorem c_saidIn {A : AbS} {σ : St} {N b : Nat} (h : IC A σ) (w : WOK A.1 σ) (h1 : 1 ≤ N) (h2 : N ≤ 110) (hb : b < (aB A).length) : fX9_saidIn (nI N) (nI b) σ = some (lN (scW A.1 * Sd A.1 N b)) := by
  have hl := lenB A
  unfold fX9_saidIn fX9_saidIn_j46
  simp only [ltb]
  rw [p_hasBar1 h.ps hl hb, ob_s, if_neg one_ne, show nI N - (1 : Int32) = nI (N - 1) from pk_sub (b := 1) h1, sub_add10, show nI (N - 1) + (10 : Int32) = nI (N - 1 + 10) from nI_add _ 10, p_within, ob_s]
  by_cases q : b ≤ N + 9 ∧ N + 9 ≤ b + 20
  · rw [pk_sub (show b ≤ N - 1 + 10 by omega), if_pos (show (0 : Int32) ≤ nI (N - 1 + 10 - b) ∧ nI (N - 1 + 10 - b) ≤ 20 from ⟨nI_pos' (by omega), nI_le (b := 20) (by omega) (by omega)⟩), if_neg one_ne, show nI b * (21 : Int32) = nI (b * 21) from pk_mul b 21, nI_add, p_longAt (n := 2079) rfl (by omega) (by omega), if_pos (by omega), ob_s, (w N h1 h2).2 b hb (N - 1 + 10 - b) (by omega) (by omega)]
  · have nz : ¬ ((0 : Int32) ≤ nI (N - 1 + 10) - nI b ∧ nI (N - 1 + 10) - nI b ≤ 20) := by
      intro z
      by_cases q1 : b ≤ N - 1 + 10
      · rw [pk_sub q1] at z
        have := (nI_leI (b := 20) (by omega) (by omega)).mp z.2
        omega
      · have := pk_sneg (a := N - 1 + 10) (b := b) (by omega) (by omega)
        exact absurd this (Int32.not_lt.mpr z.1)
    rw [sd_out h1 hb q, Nat.mul_zero, if_neg nz, if_pos rfl]; rfl
theorem al0 {A : AbS} {σ : St} {N : Nat} (hA : OKA A) (h1 : 1 ≤ N) : (lN (scW A.1 * Al A.1 N) = (0 : Int64) ↔ Al A.1 N = 0) ∧ (lN (Al A.1 N) = (0 : Int64) ↔ Al A.1 N = 0) := by
  have a := sc_al hA h1
  have b := al_56 hA h1
  have p := scW_pos A
  refine ⟨⟨fun z => ?_, fun z => by rw [z, Nat.mul_zero]; rfl⟩, ⟨fun z => (pk_lEQ (b := 0) (by omega) (by omega)).mp z, fun z => by rw [z]; rfl⟩⟩
  have := (pk_lEQ (b := 0) (by omega) (by omega)).mp z
  rcases Nat.mul_eq_zero.mp this with q | q
  · omega
  · exact q
abbrev gWh (n w : Int32) : Prop := (1 ≤ n ∧ n ≤ 110) ∧ (0 ≤ w ∧ w ≤ 1)
def wWhere (A : AbS) (N b : Nat) (w : Int32) : Int64 := if Al A.1 N = 0 then noN else lN (lw (Sd A.1 N b) (Al A.1 N) w)
def vWhere (n x w : Int32) (A : AbS) : Int64 := Option.elim (ix (aB A).length x) noB (fun b => if gWh n w then wWhere A n.toNatClampNeg b w else noB)
theorem c_where (n x w : Int32) (A : AbS) (σ : St) (hA : OKA A) (h : IC A σ) : ∃ σ', fX10_where n x w σ = some (vWhere n x w A, σ') ∧ IC A σ' ∧ CM σ σ' := by
  have hl := lenB A
  unfold fX10_where fX10_where_j25 vWhere wWhere
  rw [p_isNumber, ob_s]
  by_cases g1 : 1 ≤ n ∧ n ≤ 110
  · rw [if_pos g1, if_neg one_ne]
    rcases pk_ix x (show (aB A).length < 2 ^ 31 by omega) with q | q | ⟨j, hj, rfl⟩
    · rw [p_hasBar0 h.ps (Or.inl q), ob_s, if_pos rfl, ix_neg q]; exact ⟨σ, rfl, h, CM.rf⟩
    · rw [p_hasBar0 h.ps (Or.inr q), ob_s, if_pos rfl, ix_ge q (by omega)]; exact ⟨σ, rfl, h, CM.rf⟩
    · rw [p_hasBar1 h.ps hl hj, ob_s, if_neg one_ne, p_isPart, ob_s, ix_nI hj (by omega)]
      show ∃ σ', _ = some (if gWh n w then _ else _, σ') ∧ _
      by_cases g2 : 0 ≤ w ∧ w ≤ 1
      · have g : gWh n w := ⟨g1, g2⟩
        obtain ⟨N, h1, h2, rfl⟩ := num_n g1
        obtain ⟨σ1, e1, i1, k1, wk⟩ := c_refresh hA h
        rw [if_pos g, if_pos g2, if_neg one_ne, e1, ob_s, c_ofAll wk h1 h2, ob_s, nI_clamp (by omega)]
        by_cases z : Al A.1 N = 0
        · rw [if_pos z, if_pos ((al0 (σ := σ) hA h1).1.mpr z)]; exact ⟨σ1, rfl, i1, k1⟩
        · have a := sc_al hA h1
          have b := sd_le (A := A) (N := N) hj
          have p := scW_pos A
          have c := Nat.mul_le_mul_left (scW A.1) b
          rw [if_neg z, if_neg (fun y => z ((al0 (σ := σ) hA h1).1.mp y)), c_saidIn i1 wk h1 h2 hj, ob_s, p_told (by omega) (by omega) (Nat.mul_pos p (by omega)), ob_s, lw_scale p]
          exact ⟨σ1, rfl, i1, k1⟩
      · rw [if_neg g2, if_pos rfl, if_neg (show ¬ gWh n w from fun z => g2 z.2)]; exact ⟨σ, rfl, h, CM.rf⟩
  · rw [if_neg g1, if_pos rfl]
    refine ⟨σ, ?_, h, CM.rf⟩
    cases ix (aB A).length x with
    | none => rfl
    | some j =>
      show _ = some (if gWh n w then _ else _, σ)
      rw [if_neg (show ¬ gWh n w from fun z => g1 z.1)]; rfl
theorem m_where (n x w : Int32) (A : AbS) (σ : St) (hA : OKA A) (h : IM A σ) : ∃ σ', fX11_where n x w σ = some (vWhere n x w A, σ') ∧ MS σ σ' := by
  have hl := lenB A
  unfold fX11_where fX11_where_j34 vWhere wWhere
  rw [p_isNumberM, ob_s]
  by_cases g1 : 1 ≤ n ∧ n ≤ 110
  · rw [if_pos g1, if_neg one_ne]
    obtain ⟨σ1, e1, k1, p1⟩ := m_isBar x h
    rw [e1, ob_s]
    cases hx : ix (aB A).length x with
    | none =>
      dsimp only
      rw [if_pos rfl, if_pos rfl]; exact ⟨σ1, rfl, k1⟩
    | some j =>
      obtain ⟨hj, rfl⟩ := ix_some hx (by omega)
      dsimp only
      rw [if_neg (show ¬ some j = none from fun q => by cases q), if_neg one_ne, p_in, ob_s]
      show ∃ σ', _ = some (if gWh n w then _ else _, σ') ∧ _
      by_cases g2 : 0 ≤ w ∧ w ≤ 1
      · have g : gWh n w := ⟨g1, g2⟩
        obtain ⟨N, h1, h2, rfl⟩ := num_n g1
        obtain ⟨σ2, e2, k2, p2, v2, a2⟩ := m_findsWhere hA (h.ms k1) h1 h2
        unfold fX11_whereOf
        rw [if_pos g, if_pos g2, if_neg one_ne, e2, ob_s, a2, nI_clamp (show N < 2 ^ 31 by omega)]
        by_cases z : Al A.1 N = 0
        · rw [if_pos z, if_pos ((al0 (σ := σ) hA h1).2.mpr z)]; exact ⟨σ2, rfl, k1.trans k2⟩
        · have a := al_56 hA h1
          have b := sd_le (A := A) (N := N) hj
          rw [if_neg z, if_neg (fun y => z ((al0 (σ := σ) hA h1).2.mp y)), inb_nI (show j < 100 by omega) (by omega), if_pos rfl, nI_clamp (show j < 2 ^ 31 by omega), v2 j hj, p_lowest (by omega) (by omega) (by omega), ob_s]
          exact ⟨σ2, rfl, k1.trans k2⟩
      · rw [if_neg g2, if_pos rfl, if_neg (show ¬ gWh n w from fun z => g2 z.2)]; exact ⟨σ1, rfl, k1⟩
  · rw [if_neg g1, if_pos rfl]
    refine ⟨σ, ?_, MS.rf⟩
    cases ix (aB A).length x with
    | none => rfl
    | some j =>
      show _ = some (if gWh n w then _ else _, σ)
      rw [if_neg (show ¬ gWh n w from fun z => g1 z.1)]; rfl
theorem l_where : ls_where Inv := fun σ n x w h => ls_mkq (vWhere n x w) (c_where n x w) (m_where n x w) σ h
/-! likeliest -/
abbrev LiP (A : AbS) (N : Nat) (r : Int32) : Prop := (r = -3 ∧ Al A.1 N = 0) ∨ (Al A.1 N ≠ 0 ∧ ∃ R, r = nI R ∧ Mx (aB A).length yes (Sd A.1 N) R)
theorem LiP_u {A : AbS} {N : Nat} (a b : Int32) (h : LiP A N a) (h' : LiP A N b) : a = b := by
  rcases h with ⟨e, z⟩ | ⟨z, R, e, m⟩ <;> rcases h' with ⟨e', z'⟩ | ⟨z', R', e', m'⟩
  · rw [e, e']
  · exact absurd z z'
  · exact absurd z' z
  · rw [e, e', Mx_u m m']
noncomputable def wLikely (A : AbS) (N : Nat) : Int32 := the (LiP A N)
noncomputable def vLikely (n : Int32) (A : AbS) : Int32 := if 1 ≤ n ∧ n ≤ 110 then wLikely A n.toNatClampNeg else -2
theorem al_pos {A : AbS} {N b : Nat} (hb : b < (aB A).length) (h : 0 < Sd A.1 N b) : Al A.1 N ≠ 0 := by
  have := sd_le (A := A) (N := N) hb; omega
theorem c_likely (n : Int32) (A : AbS) (σ : St) (hA : OKA A) (h : IC A σ) : ∃ σ', fX10_likeliest n σ = some (vLikely n A, σ') ∧ IC A σ' ∧ CM σ σ' := by
  have hl := lenB A
  unfold fX10_likeliest vLikely wLikely
  rw [p_isNumber, ob_s]
  by_cases g1 : 1 ≤ n ∧ n ≤ 110
  · obtain ⟨N, h1, h2, rfl⟩ := num_n g1
    obtain ⟨σ1, e1, i1, k1, wk⟩ := c_refresh hA h
    rw [if_pos g1, if_pos g1, if_neg one_ne, e1, ob_s, nI_clamp (by omega)]
    have a := sc_al hA h1
    have p := scW_pos A
    have hb63 : ∀ b, b < (aB A).length → scW A.1 * Sd A.1 N b < 2 ^ 63 := fun b hb => by
      have := Nat.mul_le_mul_left (scW A.1) (sd_le (A := A) (N := N) hb); omega
    have key : ∃ r, lpc (fun s => fX10_likeliest_b22 (nI N) s.1 s.2.1 s.2.2 σ1) ((-3 : Int32), (0 : Int64), (0 : Int32)) = some r ∧ LiP A N r := by
      refine lpc_cnt (a := 0) (b := (aB A).length) (fun k s => s.2.2 = nI k ∧ ((s.1 = -3 ∧ s.2.1 = 0 ∧ ∀ b, b < k → Sd A.1 N b = 0) ∨ ∃ R, s.1 = nI R ∧ s.2.1 = lN (scW A.1 * Sd A.1 N R) ∧ 0 < Sd A.1 N R ∧ Mx k yes (Sd A.1 N) R)) _ (Nat.zero_le _) ?_ ?_ ⟨rfl, Or.inl ⟨rfl, rfl, fun b hb => absurd hb (Nat.not_lt_zero _)⟩⟩
      · rintro k ⟨x1, x2, x3⟩ _ hk ⟨f1, f2⟩
        dsimp only at f1 f2
        subst f1
        show ∃ s', fX10_likeliest_b22 (nI N) x1 x2 (nI k) σ1 = some (.inl s') ∧ _
        unfold fX10_likeliest_b22 fX10_likeliest_j59
        rw [i1.ps.1, if_neg (nI_ge hk (by omega)), c_saidIn i1 wk h1 h2 hk, ob_s]
        rcases f2 with ⟨c1, c2, c3⟩ | ⟨R, c1, c2, c3, c4⟩
        · subst c2
          by_cases z : Sd A.1 N k = 0
          · rw [if_pos (show lN (scW A.1 * Sd A.1 N k) ≤ (0 : Int64) by rw [z, Nat.mul_zero]; decide)]
            refine ⟨_, rfl, nI_1 k, Or.inl ⟨c1, rfl, fun b hb => ?_⟩⟩
            by_cases y : b = k
            · rw [y]; exact z
            · exact c3 b (by omega)
          · have hp : 0 < scW A.1 * Sd A.1 N k := Nat.mul_pos p (by omega)
            rw [if_neg (show ¬ lN (scW A.1 * Sd A.1 N k) ≤ (0 : Int64) from fun y => absurd ((pk_lLE (b := 0) (hb63 k hk) (by omega)).mp y) (by omega))]
            exact ⟨_, rfl, nI_1 k, Or.inr ⟨k, rfl, rfl, by omega, Mx_new trivial (fun W hW _ => by rw [c3 W hW]; omega)⟩⟩
        · have hR := c4.1
          subst c2
          by_cases z : Sd A.1 N k ≤ Sd A.1 N R
          · rw [if_pos ((pk_lLE (hb63 k hk) (hb63 R (by omega))).mpr (Nat.mul_le_mul_left _ z))]
            exact ⟨_, rfl, nI_1 k, Or.inr ⟨R, c1, rfl, c3, Mx_keep c4 (Or.inr z)⟩⟩
          · rw [if_neg (fun y => z (Nat.le_of_mul_le_mul_left ((pk_lLE (hb63 k hk) (hb63 R (by omega))).mp y) p))]
            refine ⟨_, rfl, nI_1 k, Or.inr ⟨k, rfl, rfl, by omega, Mx_new trivial (fun W hW _ => ?_)⟩⟩
            have := c4.2.2 W hW trivial
            omega
      · rintro ⟨x1, x2, x3⟩ ⟨f1, f2⟩
        dsimp only at f1 f2
        subst f1
        refine ⟨x1, ?_, ?_⟩
        · show fX10_likeliest_b22 (nI N) x1 x2 (nI (aB A).length) σ1 = _
          unfold fX10_likeliest_b22
          rw [i1.ps.1, if_pos (Int32.le_refl _)]
        · rcases f2 with ⟨c1, c2, c3⟩ | ⟨R, c1, c2, c3, c4⟩
          · exact Or.inl ⟨c1, sm_z _ c3⟩
          · exact Or.inr ⟨al_pos c4.1 c3, R, c1, c4⟩
    obtain ⟨r, e, hr⟩ := key
    rw [e, ob_s, the_eq hr LiP_u]
    exact ⟨σ1, rfl, i1, k1⟩
  · rw [if_neg g1, if_neg g1, if_pos rfl]; exact ⟨σ, rfl, h, CM.rf⟩
theorem m_likelyOf {N : Nat} {A : AbS} {σ : St} (hA : OKA A) (h : IM A σ) (h1 : 1 ≤ N) (h2 : N ≤ 110) : ∃ σ', fX11_likeliestOf (nI N) σ = some (wLikely A N, σ') ∧ MS σ σ' := by
  have hl := lenB A
  unfold fX11_likeliestOf wLikely
  obtain ⟨σ2, e2, k2, p2, v2, a2⟩ := m_findsWhere hA h h1 h2
  have a := al_56 hA h1
  rw [e2, ob_s, a2]
  by_cases z : Al A.1 N = 0
  · rw [if_pos ((al0 (σ := σ) hA h1).2.mpr z), the_eq (P := LiP A N) (Or.inl ⟨rfl, z⟩) LiP_u]; exact ⟨σ2, rfl, k2⟩
  · rw [if_neg (fun y => z ((al0 (σ := σ) hA h1).2.mp y))]
    have hl0 : 0 < (aB A).length := by
      by_cases q : (aB A).length = 0
      · exfalso
        have : Al A.1 N = sm (Sd A.1 N) (aB A).length := rfl
        rw [q] at this
        exact z this
      · omega
    have hb63 : ∀ b, b < (aB A).length → Sd A.1 N b < 2 ^ 63 := fun b hb => by
      have := sd_le (A := A) (N := N) hb; omega
    have key : ∃ r, lpc (fun s => fX11_likeliestOf_b21 s.1 s.2 σ2) ((0 : Int32), (1 : Int32)) = some r ∧ ∃ R, r = nI R ∧ Mx (aB A).length yes (Sd A.1 N) R := by
      refine lpc_cnt (a := 1) (b := (aB A).length) (fun k s => s.2 = nI k ∧ ∃ R, s.1 = nI R ∧ Mx k yes (Sd A.1 N) R) _ hl0 ?_ ?_ ⟨rfl, 0, rfl, by omega, trivial, fun W hW _ => by rw [show W = 0 by omega]; omega⟩
      · rintro k ⟨x1, x2⟩ _ hk ⟨f1, R, f2, f3⟩
        dsimp only at f1 f2
        subst f1
        subst f2
        have hR := f3.1
        show ∃ s', fX11_likeliestOf_b21 (nI R) (nI k) σ2 = some (.inl s') ∧ _
        unfold fX11_likeliestOf_b21 fX11_likeliestOf_j50
        rw [p2.1, if_neg (nI_ge hk (by omega)), inb_nI (show k < 100 by omega) (by omega), if_pos rfl, inb_nI (show R < 100 by omega) (by omega), if_pos rfl, nI_clamp (show k < 2 ^ 31 by omega), nI_clamp (show R < 2 ^ 31 by omega), v2 k hk, v2 R (by omega)]
        by_cases y : Sd A.1 N k ≤ Sd A.1 N R
        · rw [if_pos ((pk_lLE (hb63 k hk) (hb63 R (by omega))).mpr y)]
          exact ⟨_, rfl, nI_1 k, R, rfl, Mx_keep f3 (Or.inr y)⟩
        · rw [if_neg (fun u => y ((pk_lLE (hb63 k hk) (hb63 R (by omega))).mp u))]
          refine ⟨_, rfl, nI_1 k, k, rfl, Mx_new trivial (fun W hW _ => ?_)⟩
          have := f3.2.2 W hW trivial
          omega
      · rintro ⟨x1, x2⟩ ⟨f1, f2⟩
        dsimp only at f1 f2
        subst f1
        refine ⟨x1, ?_, f2⟩
        show fX11_likeliestOf_b21 x1 (nI (aB A).length) σ2 = _
        unfold fX11_likeliestOf_b21
        rw [p2.1, if_pos (Int32.le_refl _)]
    obtain ⟨r, e, R, r1, mx⟩ := key
    rw [e, ob_s, the_eq (P := LiP A N) (r := r) (Or.inr ⟨z, R, r1, mx⟩) LiP_u]
    exact ⟨σ2, rfl, k2⟩
theorem m_likely (n : Int32) (A : AbS) (σ : St) (hA : OKA A) (h : IM A σ) : ∃ σ', fX11_likeliest n σ = some (vLikely n A, σ') ∧ MS σ σ' := by
  unfold fX11_likeliest vLikely
  rw [p_isNumberM, ob_s]
  by_cases g1 : 1 ≤ n ∧ n ≤ 110
  · obtain ⟨N, h1, h2, rfl⟩ := num_n g1
    obtain ⟨σ', e, k⟩ := m_likelyOf hA h h1 h2
    rw [if_pos g1, if_pos g1, if_neg one_ne, nI_clamp (by omega), e, ob_s]
    exact ⟨σ', rfl, k⟩
  · rw [if_neg g1, if_neg g1, if_pos rfl]; exact ⟨σ, rfl, MS.rf⟩
theorem l_likeliest : ls_likeliest Inv := fun σ n h => ls_mkq (vLikely n) (c_likely n) (m_likely n) σ h
/-! strike -/
def cA (A : AbS) (N : Nat) : Nat := aS A 4 * (Al A.1 N - Sd A.1 N ((aB A).length - 1))
theorem se45 {A : AbS} (hA : OKA A) : aS A 4 ≤ 99 ∧ aS A 5 ≤ 99 := ⟨hA.2.2.1 4 (by omega), hA.2.2.1 5 (by omega)⟩
theorem cA_sc {A : AbS} (hA : OKA A) {N : Nat} (h1 : 1 ≤ N) : scW A.1 * cA A N < 2 ^ 63 ∧ cA A N < 2 ^ 63 := by
  have a := sc_al hA h1
  have b := al_56 hA h1
  have s := (se45 hA).1
  have c1 : cA A N ≤ 99 * Al A.1 N := Nat.mul_le_mul s (Nat.sub_le _ _)
  have c2 : scW A.1 * cA A N ≤ 99 * (scW A.1 * Al A.1 N) := by
    rw [Nat.mul_left_comm]; exact Nat.mul_le_mul_left _ c1
  omega
theorem al_len {A : AbS} {N : Nat} (h : Al A.1 N ≠ 0) : 0 < (aB A).length := by
  by_cases q : (aB A).length = 0
  · exfalso
    have : Al A.1 N = sm (Sd A.1 N) (aB A).length := rfl
    rw [q] at this
    exact h this
  · omega
theorem c_cost {A : AbS} {σ : St} {N : Nat} (hA : OKA A) (h : IC A σ) (w : WOK A.1 σ) (h1 : 1 ≤ N) (h2 : N ≤ 110) (hz : Al A.1 N ≠ 0) : fX10_costAbove (nI N) σ = some (lN (scW A.1 * cA A N)) := by
  have hl0 := al_len hz
  have s := (se45 hA).1
  unfold fX10_costAbove
  have b := sd_le (A := A) (N := N) (b := (aB A).length - 1) (by omega)
  rw [h.ps.1, p_len1 (by omega), c_saidIn h w h1 h2 (by omega), ob_s, show fX6_valueOf (4 : Int32) σ = some (σ.1 8 4) from p_valueOf (i := 4) (by omega), ob_s, h.2.2.2.1 4 (by omega), c_ofAll w h1 h2, ob_s, lN_sub (Nat.mul_le_mul_left _ b), nI_l (by omega), lN_mul]
  unfold cA
  rw [← Nat.mul_sub, Nat.mul_left_comm]
theorem m_cost {A : AbS} {σ σ2 : St} {N : Nat} (hA : OKA A) (h : IM A σ2) (p2 : PSm (aB A) σ2) (v2 : ∀ b, b < (aB A).length → σ2.2 59 b = lN (Sd A.1 N b)) (a2 : σ2.2 44 22 = lN (Al A.1 N)) (hz : Al A.1 N ≠ 0) : inb (σ2.1 44 2 - (1 : Int32)) 100 = true ∧ (σ2.1 52 4).toInt64 * (σ2.2 44 22 - σ2.2 59 (σ2.1 44 2 - (1 : Int32)).toNatClampNeg) = lN (cA A N) := by
  have hl := lenB A
  have hl0 := al_len hz
  have s := (se45 hA).1
  have b := sd_le (A := A) (N := N) (b := (aB A).length - 1) (by omega)
  rw [p2.1, p_len1 (by omega), nI_clamp (show (aB A).length - 1 < 2 ^ 31 by omega), h.2.2.1 4 (by omega), a2, v2 _ (by omega), lN_sub b, nI_l (by omega), lN_mul]
  exact ⟨inb_nI (show (aB A).length - 1 < 100 by omega) (by omega), rfl⟩
def wStrike (A : AbS) (N : Nat) (w : Int32) : Int64 := if Al A.1 N = 0 then noN else lN (lw (cA A N) (Al A.1 N) w)
def vStrike (n w : Int32) (A : AbS) : Int64 := if gWh n w then wStrike A n.toNatClampNeg w else noB
theorem c_strike (n w : Int32) (A : AbS) (σ : St) (hA : OKA A) (h : IC A σ) : ∃ σ', fX10_strike n w σ = some (vStrike n w A, σ') ∧ IC A σ' ∧ CM σ σ' := by
  unfold fX10_strike fX10_strike_j14 vStrike wStrike
  rw [p_isNumber, ob_s, p_isPart, ob_s]
  by_cases g : gWh n w
  · rw [if_pos g, if_pos g.1, if_neg one_ne, if_pos g.2, if_neg one_ne]
    obtain ⟨N, h1, h2, rfl⟩ := num_n g.1
    obtain ⟨σ1, e1, i1, k1, wk⟩ := c_refresh hA h
    rw [e1, ob_s, c_ofAll wk h1 h2, ob_s, nI_clamp (by omega)]
    by_cases z : Al A.1 N = 0
    · rw [if_pos z, if_pos ((al0 (σ := σ) hA h1).1.mpr z)]; exact ⟨σ1, rfl, i1, k1⟩
    · have a := sc_al hA h1
      have p := scW_pos A
      rw [if_neg z, if_neg (fun y => z ((al0 (σ := σ) hA h1).1.mp y)), c_cost hA i1 wk h1 h2 z, ob_s, p_told (cA_sc hA h1).1 (by omega) (Nat.mul_pos p (by omega)), ob_s, lw_scale p]
      exact ⟨σ1, rfl, i1, k1⟩
  · rw [if_neg g]
    by_cases g1 : 1 ≤ n ∧ n ≤ 110
    · rw [if_pos g1, if_neg one_ne, if_neg (fun z => g ⟨g1, z⟩), if_pos rfl]; exact ⟨σ, rfl, h, CM.rf⟩
    · rw [if_neg g1, if_pos rfl]; exact ⟨σ, rfl, h, CM.rf⟩
theorem m_strikeOf {N : Nat} {w : Int32} {A : AbS} {σ : St} (hA : OKA A) (h : IM A σ) (h1 : 1 ≤ N) (h2 : N ≤ 110) : ∃ σ', fX11_strikeOf (nI N) w σ = some (wStrike A N w, σ') ∧ MS σ σ' := by
  unfold fX11_strikeOf wStrike
  obtain ⟨σ2, e2, k2, p2, v2, a2⟩ := m_findsWhere hA h h1 h2
  have a := al_56 hA h1
  rw [e2, ob_s]
  by_cases z : Al A.1 N = 0
  · rw [a2, if_pos z, if_pos ((al0 (σ := σ) hA h1).2.mpr z)]; exact ⟨σ2, rfl, k2⟩
  · obtain ⟨c1, c2⟩ := m_cost (σ := σ) hA (h.ms k2) p2 v2 a2 z
    rw [if_neg (show ¬ σ2.2 44 22 = (0 : Int64) from by rw [a2]; exact fun y => z ((al0 (σ := σ) hA h1).2.mp y)), if_neg z, if_pos c1, c2, a2, p_lowest (cA_sc hA h1).2 (by omega) (by omega), ob_s]
    exact ⟨σ2, rfl, k2⟩
theorem m_strike (n w : Int32) (A : AbS) (σ : St) (hA : OKA A) (h : IM A σ) : ∃ σ', fX11_strike n w σ = some (vStrike n w A, σ') ∧ MS σ σ' := by
  unfold fX11_strike fX11_strike_j25 vStrike
  rw [p_isNumberM, ob_s, p_in, ob_s]
  by_cases g : gWh n w
  · rw [if_pos g, if_pos g.1, if_neg one_ne, if_pos g.2, if_neg one_ne]
    obtain ⟨N, h1, h2, rfl⟩ := num_n g.1
    obtain ⟨σ', e, k⟩ := m_strikeOf (w := w) hA h h1 h2
    rw [nI_clamp (by omega), e, ob_s]
    exact ⟨σ', rfl, k⟩
  · rw [if_neg g]
    by_cases g1 : 1 ≤ n ∧ n ≤ 110
    · rw [if_pos g1, if_neg one_ne, if_neg (fun z => g ⟨g1, z⟩), if_pos rfl]; exact ⟨σ, rfl, MS.rf⟩
    · rw [if_neg g1, if_pos rfl]; exact ⟨σ, rfl, MS.rf⟩
theorem l_strike : ls_strike Inv := fun σ n w h => ls_mkq (vStrike n w) (c_strike n w) (m_strike n w) σ h
