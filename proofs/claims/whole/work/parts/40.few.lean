/-! few -/
theorem cmpF {c t s : Nat} (hc : c ≤ 13) : 16 ^ (13 - c) * t < 281474976710656 * s ↔ ¬ (s * 16 ^ c ≤ 16 * t) := by
  have h1 := pw13' hc
  have hp : 0 < (16 : Nat) ^ (13 - c) := Nat.pos_of_ne_zero (by simp)
  generalize (16 : Nat) ^ (13 - c) = p at *
  generalize (16 : Nat) ^ c = P at *
  have e1 : p * (s * P) = s * 2 ^ 52 := by rw [Nat.mul_left_comm, h1]
  have e2 : p * (16 * t) = 16 * (p * t) := Nat.mul_left_comm ..
  constructor
  · intro h q
    have := Nat.mul_le_mul_left p q
    rw [e1, e2] at this
    omega
  · intro h
    have := Nat.mul_lt_mul_of_pos_left (Nat.lt_of_not_le h) hp
    rw [e1, e2] at this
    omega
abbrev Gd (A : AbS) (s W : Nat) : Prop := on W 6 ≤ 3 ∧ s * 16 ^ sB A W ≤ 16 * sT A W
abbrev fon (W : Nat) : Nat := 7 - on W 6
def FewP (A : AbS) (s : Nat) (r : Int32) : Prop := (r = -1 ∧ ∀ W, W < 2 ^ ncu (aB A) → ¬ Gd A s W) ∨ ∃ R, r = nI R ∧ Mx (2 ^ ncu (aB A)) (Gd A s) fon R
theorem FewP_u {A : AbS} {s : Nat} (a b : Int32) (h : FewP A s a) (h' : FewP A s b) : a = b := by
  rcases h with ⟨e, h⟩ | ⟨R, e, h⟩ <;> rcases h' with ⟨e', h'⟩ | ⟨R', e', h'⟩
  · rw [e, e']
  · exact absurd h'.2.1 (h R' h'.1)
  · exact absurd h.2.1 (h' R h.1)
  · rw [e, e', Mx_u h h']
noncomputable def vFew (x : Int32) (A : AbS) : Int32 := if 0 ≤ x ∧ x ≤ 16 then (if (aB A).length = 0 then -3 else the (FewP A x.toNatClampNeg)) else -2
theorem c_few (x : Int32) (A : AbS) (σ : St) (hA : OKA A) (h : IC A σ) : ∃ σ', fX10_few x σ = some (vFew x A, σ') ∧ IC A σ' ∧ CM σ σ' := by
  have hcu := cuA A
  have h64 := two6 hcu
  unfold fX10_few vFew
  rw [p_within, ob_s]
  by_cases g : 0 ≤ x ∧ x ≤ 16
  · rw [if_pos g, if_pos g, if_neg one_ne, h.ps.1]
    by_cases h0 : (aB A).length = 0
    · rw [if_pos h0, if_pos (len0 h0)]; exact ⟨σ, rfl, h, CM.rf⟩
    · rw [if_neg h0, if_neg (lenN h0)]
      obtain ⟨s, hs, ek⟩ := i32_nat (m := 16) (by omega) g.1 g.2
      have hkx : x.toNatClampNeg = s := by rw [ek, nI_clamp (by omega)]
      rw [hkx, ek]
      simp only [ltb]
      rw [show (281474976710656 : Int64) * (nI s).toInt64 = lN (281474976710656 * s) from lmul 281474976710656 s (by omega)]
      have inn : ∀ k τ, k < 4 → CS σ τ → (∀ W, W < 2 ^ ncu (aB A) → on W 6 < k → ¬ Gd A s W) → ∃ r, lpc (fun s' => fX10_few_b45 (lN (281474976710656 * s)) (nI k) s'.1 s'.2) ((0 : Int32), τ) = some r ∧ Sum.elim (fun z : Int32 × St => CS σ z.2 ∧ FewP A s z.1) (fun z => CS σ z ∧ ∀ W, W < 2 ^ ncu (aB A) → on W 6 < k + 1 → ¬ Gd A s W) r := by
        intro k τ hk hτ hprev
        refine lpc_cntx (a := 0) (b := 2 ^ ncu (aB A)) (fun j s' => s'.1 = nI j ∧ CS σ s'.2 ∧ ∀ W, W < j → on W 6 = k → ¬ Gd A s W) _ (Nat.zero_le _) ?_ ?_ ⟨rfl, hτ, fun W hW => absurd hW (Nat.not_lt_zero _)⟩
        · rintro j ⟨y, υ⟩ _ hj ⟨f1, f2, f3⟩
          dsimp only at f1 f2 f3
          subst f1
          have hi : IC A υ := h.cs f2
          have ho6 := on_6 j (by omega)
          show (∃ s', fX10_few_b45 (lN (281474976710656 * s)) (nI k) (nI j) υ = some (.inl s') ∧ _) ∨ (∃ r, fX10_few_b45 (lN (281474976710656 * s)) (nI k) (nI j) υ = some (.inr r) ∧ _)
          unfold fX10_few_b45 fX10_few_j83
          rw [hi.ps.2.2.1, sh1 _ hcu, if_neg (nI_ge hj (by omega)), p_bitCount j (by omega), ob_s]
          by_cases q : on j 6 = k
          · rw [if_pos (show nI (on j 6) = nI k by rw [q])]
            obtain ⟨υ', e, l⟩ := c_safety hA hi h0 (show j < 64 by omega) (by omega)
            rw [e, ob_s]
            dsimp only
            have hlt := sT_52 hA (W := j) (by omega) (by omega)
            have hc : sB A j ≤ 13 := sc_13 (q := qS A j) (by show (aB A).length - 1 ≤ (aB A).length; omega) (show on j 6 ≤ 3 by omega)
            have hcm := cmpF (c := sB A j) (t := sT A j) (s := s) hc
            by_cases gd : s * 16 ^ sB A j ≤ 16 * sT A j
            · right
              rw [if_neg (fun z => absurd gd (hcm.mp ((pk_lLT hlt (by omega)).mp z)))]
              refine ⟨_, rfl, f2.trans l, Or.inr ⟨j, rfl, hj, ⟨by omega, gd⟩, fun W hW hp => ?_⟩⟩
              have hw6 := on_6 W (by omega)
              unfold fon
              by_cases a1 : on W 6 < k
              · exact absurd hp (hprev W hW a1)
              · by_cases a2 : on W 6 = k
                · right
                  refine ⟨by rw [a2, q], ?_⟩
                  by_cases a3 : W < j
                  · exact absurd hp (f3 W a3 a2)
                  · omega
                · left; omega
            · left
              rw [if_pos ((pk_lLT hlt (by omega)).mpr (hcm.mpr gd))]
              refine ⟨_, rfl, nI_1 j, f2.trans l, fun W hW hk => ?_⟩
              by_cases e : W = j
              · rw [e]; exact fun z => gd z.2
              · exact f3 W (by omega) hk
          · left
            rw [if_neg (fun z => q (nI_inj (by omega) (by omega) z))]
            refine ⟨_, rfl, nI_1 j, f2, fun W hW hk => ?_⟩
            by_cases e : W = j
            · rw [e] at hk; exact absurd hk q
            · exact f3 W (by omega) hk
        · rintro ⟨y, υ⟩ ⟨f1, f2, f3⟩
          dsimp only at f1 f2 f3
          subst f1
          have hi : IC A υ := h.cs f2
          refine ⟨.inr υ, ?_, f2, fun W hW hk => ?_⟩
          · show fX10_few_b45 (lN (281474976710656 * s)) (nI k) (nI (2 ^ ncu (aB A))) υ = _
            unfold fX10_few_b45
            rw [hi.ps.2.2.1, sh1 _ hcu, if_pos (Int32.le_refl _)]
          · by_cases e : on W 6 = k
            · exact f3 W hW e
            · exact hprev W hW (by omega)
      have key : ∃ r, lpc (fun s' => fX10_few_b36 (lN (281474976710656 * s)) s'.1 s'.2) ((0 : Int32), σ) = some r ∧ Sum.elim (fun z : Int32 × St => CS σ z.2 ∧ FewP A s z.1) (fun z => CS σ z ∧ FewP A s (-1)) r := by
        refine lpc_cntx (a := 0) (b := 4) (fun k s' => s'.1 = nI k ∧ CS σ s'.2 ∧ ∀ W, W < 2 ^ ncu (aB A) → on W 6 < k → ¬ Gd A s W) _ (by omega) ?_ ?_ ⟨rfl, Fr.rf, fun W _ hW => absurd hW (Nat.not_lt_zero _)⟩
        · rintro k ⟨y, υ⟩ _ hk ⟨f1, f2, f3⟩
          dsimp only at f1 f2 f3
          subst f1
          obtain ⟨r, e, hr⟩ := inn k υ hk f2 f3
          show (∃ s', fX10_few_b36 (lN (281474976710656 * s)) (nI k) υ = some (.inl s') ∧ _) ∨ (∃ r, fX10_few_b36 (lN (281474976710656 * s)) (nI k) υ = some (.inr r) ∧ _)
          unfold fX10_few_b36
          rw [if_neg (show ¬ (3 : Int32) < nI k from fun z => absurd ((nI_ltI (a := 3) (by omega) (by omega)).mp z) (by omega)), e, ob_s]
          cases r with
          | inl z =>
            right
            exact ⟨_, rfl, hr⟩
          | inr z =>
            left
            exact ⟨_, rfl, nI_1 k, hr⟩
        · rintro ⟨y, υ⟩ ⟨f1, f2, f3⟩
          dsimp only at f1 f2 f3
          subst f1
          exact ⟨.inr υ, rfl, f2, Or.inl ⟨rfl, fun W hW z => f3 W hW (by have := z.1; omega) z⟩⟩
      obtain ⟨r, e, hr⟩ := key
      rw [e, ob_s]
      cases r with
      | inl z =>
        have hr : CS σ z.2 ∧ FewP A s z.1 := hr
        rw [the_eq hr.2 FewP_u]
        exact ⟨z.2, rfl, h.cs hr.1, hr.1.CM⟩
      | inr z =>
        have hr : CS σ z ∧ FewP A s (-1) := hr
        rw [the_eq hr.2 FewP_u]
        exact ⟨z, rfl, h.cs hr.1, hr.1.CM⟩
  · rw [if_neg g, if_neg g, if_pos rfl]; exact ⟨σ, rfl, h, CM.rf⟩
theorem m_fewOf {x : Int32} {A : AbS} {σ : St} (hA : OKA A) (h : IM A σ) (g : 0 ≤ x ∧ x ≤ 16) : ∃ σ', fX11_fewOf x σ = some (vFew x A, σ') ∧ MS σ σ' ∧ PSm (aB A) σ' := by
  have hcu := cuA A
  have h64 := two6 hcu
  unfold fX11_fewOf vFew
  obtain ⟨σ1, e1, k1, p1⟩ := m_reads h
  rw [e1, ob_s, p1.1, if_pos g]
  by_cases h0 : (aB A).length = 0
  · rw [if_pos h0, if_pos (len0 h0)]; exact ⟨σ1, rfl, k1, p1⟩
  · rw [if_neg h0, if_neg (lenN h0)]
    obtain ⟨s, hs, ek⟩ := i32_nat (m := 16) (by omega) g.1 g.2
    have hkx : x.toNatClampNeg = s := by rw [ek, nI_clamp (by omega)]
    rw [hkx, ek]
    have key : ∃ r, lpc (fun s' => fX11_fewOf_b18 (nI s) s'.1 s'.2.1 s'.2.2) ((-1 : Int32), (0 : Int32), σ1) = some r ∧ (Lf [44, 60, 61] σ1 r.2 ∧ FewP A s r.1) := by
      refine lpc_cnt (a := 0) (b := 2 ^ ncu (aB A)) (fun j s' => s'.2.1 = nI j ∧ Lf [44, 60, 61] σ1 s'.2.2 ∧ ((s'.1 = -1 ∧ ∀ W, W < j → ¬ Gd A s W) ∨ ∃ R, s'.1 = nI R ∧ Mx j (Gd A s) fon R)) _ (Nat.zero_le _) ?_ ?_ ⟨rfl, Lf.rf, Or.inl ⟨rfl, fun W hW => absurd hW (Nat.not_lt_zero _)⟩⟩
      · rintro j ⟨b, y, τ⟩ _ hj ⟨f1, f2, f3⟩
        dsimp only at f1 f2 f3
        subst f1
        have hi : IM A τ := (h.ms k1).lf f2.1
        have hp : PSm (aB A) τ := p1.lf f2.1
        have ho6 := on_6 j (by omega)
        show ∃ s', fX11_fewOf_b18 (nI s) b (nI j) τ = some (.inl s') ∧ _
        unfold fX11_fewOf_b18
        rw [hp.2.2.1, sh1 _ hcu, if_neg (nI_ge hj (by omega)), p_ones (show j < 64 by omega), ob_s, ob_s]
        have ev : on j 6 ≤ 3 → ∃ τ', fX11_fewOf_j52 (nI s) b (nI j) τ = some (.inl (if s * 16 ^ sB A j ≤ 16 * sT A j then nI j else b, nI (j + 1), τ')) ∧ Lf [44, 60, 61] τ τ' := by
          intro h3
          have hc : sB A j ≤ 13 := by
            have hlo : nlo (aB A) ≤ 10 := (BG_bsOf (aT A)).1.2.1
            rw [sB_k h0 hj]; omega
          obtain ⟨τ', e, l, a⟩ := m_safeBy hA hi hp h0 (show j < 64 by omega) hc
          have hle := sT_le hA (W := j) (by omega) hc
          have hpw := pw_52 (q := qS A j) (e := (aB A).length - 1) hc
          have hm : s * 16 ^ sB A j ≤ 16 * 2 ^ 52 := Nat.mul_le_mul hs hpw.2
          refine ⟨τ', ?_, l⟩
          unfold fX11_fewOf_j52 fX11_fewOf_j81 fX11_fewOf_j82
          rw [e, ob_s]
          dsimp only
          rw [a, nI_l (by omega), lN_mul, show (16 : Int64) * lN (sT A j) = lN (16 * sT A j) from lN_mul 16 _, nI_1]
          by_cases gd : s * 16 ^ sB A j ≤ 16 * sT A j
          · rw [if_pos gd, if_neg (fun z => absurd ((pk_lLT (by omega) (by omega)).mp z) (by omega))]
          · rw [if_neg gd, if_pos ((pk_lLT (by omega) (by omega)).mpr (by omega))]
        by_cases h4 : on j 6 ≤ 3
        · rw [if_neg (show ¬ (4 : Int32) ≤ nI _ from nI_ge (b := 4) (by omega) (by omega))]
          obtain ⟨τ', e, l⟩ := ev h4
          rcases f3 with ⟨b1, b2⟩ | ⟨R, b1, b2⟩
          · rw [if_pos b1, e]
            refine ⟨_, rfl, rfl, f2.trans l, ?_⟩
            dsimp only
            by_cases gd : s * 16 ^ sB A j ≤ 16 * sT A j
            · rw [if_pos gd]
              exact Or.inr ⟨j, rfl, Mx_new ⟨h4, gd⟩ (fun W hW hp => absurd hp (b2 W hW))⟩
            · rw [if_neg gd]
              refine Or.inl ⟨b1, fun W hW => ?_⟩
              by_cases q : W = j
              · rw [q]; exact fun z => gd z.2
              · exact b2 W (by omega)
          · have hR := b2.1
            have hr3 := b2.2.1.1
            rw [if_neg (by rw [b1]; exact nI_nm1 (by omega)), e, b1, p_ones (show R < 64 by omega), ob_s]
            by_cases q : on R 6 ≤ on j 6
            · rw [if_pos (nI_le q (by omega))]
              exact ⟨_, rfl, nI_1 j, f2, Or.inr ⟨R, rfl, Mx_keep b2 (Or.inr (by unfold fon; omega))⟩⟩
            · rw [if_neg (fun z => q ((nI_leI (by omega) (by omega)).mp z))]
              refine ⟨_, rfl, rfl, f2.trans l, ?_⟩
              dsimp only
              by_cases gd : s * 16 ^ sB A j ≤ 16 * sT A j
              · rw [if_pos gd]
                refine Or.inr ⟨j, rfl, Mx_new ⟨h4, gd⟩ (fun W hW hp => ?_)⟩
                have := b2.2.2 W hW hp
                unfold fon at *
                omega
              · rw [if_neg gd]
                exact Or.inr ⟨R, rfl, Mx_keep b2 (Or.inl (fun z => gd z.2))⟩
        · rw [if_pos (show (4 : Int32) ≤ nI _ from nI_le (a := 4) (by omega) (by omega))]
          refine ⟨_, rfl, nI_1 j, f2, ?_⟩
          rcases f3 with ⟨b1, b2⟩ | ⟨R, b1, b2⟩
          · refine Or.inl ⟨b1, fun W hW => ?_⟩
            by_cases q : W = j
            · rw [q]; exact fun z => h4 z.1
            · exact b2 W (by omega)
          · exact Or.inr ⟨R, b1, Mx_keep b2 (Or.inl (fun z => h4 z.1))⟩
      · rintro ⟨b, y, τ⟩ ⟨f1, f2, f3⟩
        dsimp only at f1 f2 f3
        subst f1
        have hp : PSm (aB A) τ := p1.lf f2.1
        refine ⟨(b, τ), ?_, f2, f3⟩
        show fX11_fewOf_b18 (nI s) b (nI (2 ^ ncu (aB A))) τ = _
        unfold fX11_fewOf_b18
        rw [hp.2.2.1, sh1 _ hcu, if_pos (Int32.le_refl _)]
    obtain ⟨r, e, l, hr⟩ := key
    rw [e, ob_s, the_eq hr FewP_u]
    exact ⟨r.2, rfl, k1.trans (l.MS (by decide)), p1.lf l.1⟩
theorem m_few (x : Int32) (A : AbS) (σ : St) (hA : OKA A) (h : IM A σ) : ∃ σ', fX11_few x σ = some (vFew x A, σ') ∧ MS σ σ' := by
  unfold fX11_few
  rw [p_in, ob_s]
  by_cases g : 0 ≤ x ∧ x ≤ 16
  · obtain ⟨σ', e, k, -⟩ := m_fewOf hA h g
    rw [if_pos g, if_neg one_ne, e, ob_s]
    exact ⟨σ', rfl, k⟩
  · unfold vFew
    rw [if_neg g, if_pos rfl, if_neg g]; exact ⟨σ, rfl, MS.rf⟩
theorem l_few : ls_few Inv := fun σ x h => ls_mkq (vFew x) (c_few x) (m_few x) σ h
