/-! prime -/
abbrev yes (_ : Nat) : Prop := True
def PrP (A : AbS) (R H : Nat) : Prop := Mx 60 yes (eT A) R ∧ R + H ≤ 60 ∧ (∀ i, i < H → eT A (R + i) = eT A R) ∧ (R + H = 60 ∨ eT A (R + H) ≠ eT A R)
theorem PrP_u {A : AbS} {R H R' H' : Nat} (h : PrP A R H) (h' : PrP A R' H') : R = R' ∧ H = H' := by
  obtain ⟨h1, h2, h3, h4⟩ := h
  obtain ⟨g1, g2, g3, g4⟩ := h'
  have e := Mx_u h1 g1
  subst e
  refine ⟨rfl, ?_⟩
  by_cases q : H < H'
  · have := g3 H q
    rcases h4 with z | z
    · omega
    · exact absurd this z
  · by_cases q2 : H' < H
    · have := h3 H' q2
      rcases g4 with z | z
      · omega
      · exact absurd this z
    · omega
abbrev PrR (A : AbS) (w r : Int32) : Prop := ∃ R H, r = (if w = 0 then nI R else nI H) ∧ PrP A R H
theorem PrR_u {A : AbS} {w : Int32} (a b : Int32) (h : PrR A w a) (h' : PrR A w b) : a = b := by
  obtain ⟨R, H, e, p⟩ := h
  obtain ⟨R', H', e', p'⟩ := h'
  obtain ⟨q1, q2⟩ := PrP_u p p'
  rw [e, e', q1, q2]
noncomputable def wPrime (w : Int32) (A : AbS) : Int32 := if (aB A).length = 0 then -3 else the (PrR A w)
noncomputable def vPrime (w : Int32) (A : AbS) : Int32 := if 0 ≤ w ∧ w ≤ 1 then wPrime w A else -2
theorem ODr.cg {m m' d d' : Nat → Nat} {f g : Nat → Int32} (h : ODr m d f g) (h' : ODr m' d' f g) (b : ∀ k, k < 3 → m k ≤ 16 ∧ m' k ≤ 16 ∧ d k ≤ 16 ∧ d' k ≤ 16) : ∀ k, k < 3 → m k = m' k ∧ d k = d' k := fun k hk => by
  have b := b k hk
  exact ⟨nI_inj (by omega) (by omega) ((h k hk).1.symm.trans (h' k hk).1), nI_inj (by omega) (by omega) ((h k hk).2.symm.trans (h' k hk).2)⟩
theorem c_prime (w : Int32) (A : AbS) (σ : St) (hA : OKA A) (h : IC A σ) : ∃ σ', fX10_prime w σ = some (vPrime w A, σ') ∧ IC A σ' ∧ CM σ σ' := by
  have hlo := loA A
  unfold fX10_prime vPrime wPrime
  rw [p_within, ob_s]
  by_cases g : 0 ≤ w ∧ w ≤ 1
  · rw [if_pos g, if_pos g, if_neg one_ne, h.ps.1]
    by_cases h0 : (aB A).length = 0
    · rw [if_pos h0, if_pos (len0 h0)]; exact ⟨σ, rfl, h, CM.rf⟩
    · rw [if_neg h0, if_neg (lenN h0)]
      have hb : ∀ e, 16 ^ (13 - nlo (aB A)) * eT A e < 2 ^ 63 := fun e => Nat.lt_of_le_of_lt (eT_52 hA h0 e) (by decide)
      have hp : 0 < (16 : Nat) ^ (13 - nlo (aB A)) := Nat.pos_of_ne_zero (by simp)
      generalize hpp : (16 : Nat) ^ (13 - nlo (aB A)) = p at hb hp
      have key : ∃ r, lpc (fun s => fX10_prime_b40 w s.1 s.2.1 s.2.2.1 s.2.2.2.1 s.2.2.2.2.1 s.2.2.2.2.2) ((0 : Int32), (0 : Int32), (-1 : Int64), (0 : Int64), (0 : Int32), σ) = some r ∧ (CS σ r.2.2 ∧ ∃ R H, r.1 = nI R ∧ r.2.1 = nI H ∧ PrP A R H) := by
        refine lpc_cnt (a := 0) (b := 60) (fun e s => s.2.2.2.2.1 = nI e ∧ CS σ s.2.2.2.2.2 ∧ ((e = 0 ∧ s.2.2.1 = -1) ∨ (∃ e', e = e' + 1 ∧ s.2.2.2.1 = lN (p * eT A e') ∧ ODr (mE A e') (aD A) (s.2.2.2.2.2.1 13) (s.2.2.2.2.2.1 14)) ∧ ∃ R H, s.1 = nI R ∧ s.2.1 = nI H ∧ s.2.2.1 = lN (p * eT A R) ∧ Mx e yes (eT A) R ∧ R + H ≤ e ∧ (∀ i, i < H → eT A (R + i) = eT A R) ∧ (R + H = e ∨ eT A (R + H) ≠ eT A R))) _ (by omega) ?_ ?_ ⟨rfl, Fr.rf, Or.inl ⟨rfl, rfl⟩⟩
        · rintro e ⟨b, hd, m, c, y, τ⟩ _ he ⟨f1, f2, f3⟩
          dsimp only at f1 f2 f3
          subst f1
          have hi : IC A τ := h.cs f2
          show ∃ s', fX10_prime_b40 w b hd m c (nI e) τ = some (.inl s') ∧ _
          obtain ⟨r, τ1, e1, l1, o1, z1⟩ := c_comeTo hA hi he
          have k1 : CS σ τ1 := f2.trans (l1.mono (by decide))
          -- what stands behind the looking at one evening
          have fin : ∀ τ2, CS σ τ2 → ODr (mE A e) (aD A) (τ2.1 13) (τ2.1 14) → ∃ s', fX10_prime_j67 w b hd m (lN (p * eT A e)) (nI e) τ2 = some (.inl s') ∧ s'.2.2.2.2.1 = nI (e + 1) ∧ CS σ s'.2.2.2.2.2 ∧ ((e + 1 = 0 ∧ s'.2.2.1 = -1) ∨ (∃ e', e + 1 = e' + 1 ∧ s'.2.2.2.1 = lN (p * eT A e') ∧ ODr (mE A e') (aD A) (s'.2.2.2.2.2.1 13) (s'.2.2.2.2.2.1 14)) ∧ ∃ R H, s'.1 = nI R ∧ s'.2.1 = nI H ∧ s'.2.2.1 = lN (p * eT A R) ∧ Mx (e + 1) yes (eT A) R ∧ R + H ≤ e + 1 ∧ (∀ i, i < H → eT A (R + i) = eT A R) ∧ (R + H = e + 1 ∨ eT A (R + H) ≠ eT A R)) := by
            intro τ2 k2 o2
            unfold fX10_prime_j67 fX10_prime_j106
            have new : (∀ W, W < e → yes W → eT A W < eT A e) → ∃ s' : Int32 × Int32 × Int64 × Int64 × Int32 × St, some ((Sum.inl (nI e, (1 : Int32), lN (p * eT A e), lN (p * eT A e), nI e + 1, τ2) : (Int32 × Int32 × Int64 × Int64 × Int32 × St) ⊕ (Int32 × Int32 × St))) = some (.inl s') ∧ s'.2.2.2.2.1 = nI (e + 1) ∧ CS σ s'.2.2.2.2.2 ∧ ((e + 1 = 0 ∧ s'.2.2.1 = -1) ∨ (∃ e', e + 1 = e' + 1 ∧ s'.2.2.2.1 = lN (p * eT A e') ∧ ODr (mE A e') (aD A) (s'.2.2.2.2.2.1 13) (s'.2.2.2.2.2.1 14)) ∧ ∃ R H, s'.1 = nI R ∧ s'.2.1 = nI H ∧ s'.2.2.1 = lN (p * eT A R) ∧ Mx (e + 1) yes (eT A) R ∧ R + H ≤ e + 1 ∧ (∀ i, i < H → eT A (R + i) = eT A R) ∧ (R + H = e + 1 ∨ eT A (R + H) ≠ eT A R)) := fun hW =>
              ⟨_, rfl, nI_1 e, k2, Or.inr ⟨⟨e, rfl, rfl, o2⟩, e, 1, rfl, rfl, rfl, Mx_new trivial hW, Nat.le_refl _, fun i hi => by rw [show i = 0 by omega, Nat.add_zero], Or.inl rfl⟩⟩
            rcases f3 with ⟨z0, zm⟩ | ⟨-, R, H, g1, g2, g3, g4, g5, g6, g7⟩
            · rw [zm, if_neg (lNm1 (hb e))]
              exact new (fun W hW => by omega)
            · rw [g3]
              by_cases q : eT A e ≤ eT A R
              · rw [if_pos ((pk_lLE (hb _) (hb _)).mpr (Nat.mul_le_mul_left _ q))]
                have hR := g4.1
                by_cases q2 : eT A e = eT A R
                · rw [if_pos (by rw [q2]), g1, g2, nI_add]
                  by_cases q3 : R + H = e
                  · rw [if_pos (by rw [q3])]
                    refine ⟨_, rfl, nI_1 e, k2, Or.inr ⟨⟨e, rfl, rfl, o2⟩, R, H + 1, rfl, nI_1 H, rfl, Mx_keep g4 (Or.inr q), by omega, fun i hi => ?_, Or.inl (by omega)⟩⟩
                    by_cases e3 : i = H
                    · rw [e3, q3, q2]
                    · exact g6 i (by omega)
                  · rw [if_neg (fun z => q3 (nI_inj (by omega) (by omega) z))]
                    refine ⟨_, rfl, nI_1 e, k2, Or.inr ⟨⟨e, rfl, rfl, o2⟩, R, H, rfl, rfl, rfl, Mx_keep g4 (Or.inr q), by omega, g6, Or.inr ?_⟩⟩
                    rcases g7 with z | z
                    · exact absurd z q3
                    · exact z
                · rw [if_neg (fun z => q2 (Nat.eq_of_mul_eq_mul_left hp ((pk_lEQ (hb _) (hb _)).mp z)))]
                  refine ⟨_, rfl, nI_1 e, k2, Or.inr ⟨⟨e, rfl, rfl, o2⟩, R, H, g1, g2, rfl, Mx_keep g4 (Or.inr q), by omega, g6, Or.inr ?_⟩⟩
                  rcases g7 with z | z
                  · rw [z]; exact q2
                  · exact z
              · rw [if_neg (fun z => q (Nat.le_of_mul_le_mul_left ((pk_lLE (hb _) (hb _)).mp z) hp))]
                refine new (fun W hW _ => ?_)
                have := g4.2.2 W hW trivial
                omega
          -- one evening is walked
          have j61 : ∃ s', fX10_prime_j61 w b hd m (nI e) τ1 = some (.inl s') ∧ s'.2.2.2.2.1 = nI (e + 1) ∧ CS σ s'.2.2.2.2.2 ∧ ((e + 1 = 0 ∧ s'.2.2.1 = -1) ∨ (∃ e', e + 1 = e' + 1 ∧ s'.2.2.2.1 = lN (p * eT A e') ∧ ODr (mE A e') (aD A) (s'.2.2.2.2.2.1 13) (s'.2.2.2.2.2.1 14)) ∧ ∃ R H, s'.1 = nI R ∧ s'.2.1 = nI H ∧ s'.2.2.1 = lN (p * eT A R) ∧ Mx (e + 1) yes (eT A) R ∧ R + H ≤ e + 1 ∧ (∀ i, i < H → eT A (R + i) = eT A R) ∧ (R + H = e + 1 ∨ eT A (R + H) ≠ eT A R)) := by
            obtain ⟨τ2, e2, l2⟩ := c_later hA (h.cs k1) h0 o1
            unfold fX10_prime_j61
            rw [e2, ob_s, hpp]
            exact fin τ2 (k1.trans (l2.Fr.mono (by decide))) (by rw [l2.1]; exact o1)
          unfold fX10_prime_b40
          rw [if_neg (show ¬ (60 : Int32) ≤ nI e from nI_ge (b := 60) he (by omega)), e1, ob_s]
          dsimp only
          by_cases hr : r = 0
          · rw [if_pos hr]
            by_cases he0 : e = 0
            · rw [if_pos (by rw [he0]; rfl)]; exact j61
            · rw [if_neg (show ¬ nI e = (0 : Int32) from fun z => he0 ((nI_zero_iff (by omega)).mp z))]
              rcases f3 with ⟨z0, zm⟩ | ⟨⟨e', q1, q2, q3⟩, f3'⟩
              · exact absurd z0 he0
              · have hcg := ODr.cg q3 (z1 hr) (fun k hk => by
                  have a1 := mE_le (A := A) e' k
                  have a2 := mE_le (A := A) e k
                  have a3 := hA.2.1 k hk
                  omega)
                have hs : eT A e' = eT A e := (sl_cg (T := aT A) (h := aS A 6) (W := 0) (h' := aS A 6) (W' := 0) hcg (fun b _ => ⟨fun z => absurd z gW0, fun z => absurd z gW0⟩) (fun b _ z => absurd z gW0) ((aB A).length - 1) (by show (aB A).length - 1 ≤ (aB A).length; omega)).2 10
                rw [q2, hs]
                exact fin τ1 k1 o1
          · rw [if_neg hr]; exact j61
        · rintro ⟨b, hd, m, c, y, τ⟩ ⟨f1, f2, f3⟩
          dsimp only at f1 f2 f3
          subst f1
          rcases f3 with ⟨z0, -⟩ | ⟨-, R, H, g1, g2, g3, g4, g5, g6, g7⟩
          · exact absurd z0 (by omega)
          · exact ⟨(b, hd, τ), rfl, f2, R, H, g1, g2, g4, g5, g6, g7⟩
      obtain ⟨r, e, l, R, H, r1, r2, pr⟩ := key
      rw [e, ob_s, r1, r2]
      have hr : PrR A w (if w = 0 then nI R else nI H) := ⟨R, H, rfl, pr⟩
      rw [the_eq hr PrR_u]
      by_cases w0 : w = 0
      · rw [if_pos w0, if_pos w0]; exact ⟨r.2.2, rfl, h.cs l, l.CM⟩
      · rw [if_neg w0, if_neg w0]; exact ⟨r.2.2, rfl, h.cs l, l.CM⟩
  · rw [if_neg g, if_neg g, if_pos rfl]; exact ⟨σ, rfl, h, CM.rf⟩
theorem m_primeOf {w : Int32} {A : AbS} {σ : St} (hA : OKA A) (h : IM A σ) : ∃ σ', fX11_primeOf w σ = some (wPrime w A, σ') ∧ MS σ σ' := by
  unfold fX11_primeOf wPrime
  obtain ⟨σ1, e1, k1, p1⟩ := m_reads h
  have h1 : IM A σ1 := h.ms k1
  rw [e1, ob_s, p1.1]
  by_cases h0 : (aB A).length = 0
  · rw [if_pos h0, if_pos (len0 h0)]; exact ⟨σ1, rfl, k1⟩
  · rw [if_neg h0, if_neg (lenN h0)]
    have hb : ∀ e, eT A e < 2 ^ 63 := fun e => by have := eT_le hA h0 e; omega
    have key : ∃ r, lpc (fun s => fX11_primeOf_b18 w s.1 s.2.1 s.2.2) ((0 : Int32), (1 : Int32), σ1) = some r ∧ (Lf [44, 60, 61] σ1 r.2 ∧ ∃ R, r.1 = nI R ∧ Mx 60 yes (eT A) R) := by
      refine lpc_cnt (a := 1) (b := 60) (fun e s => s.2.1 = nI e ∧ Lf [44, 60, 61] σ1 s.2.2 ∧ ∃ R, s.1 = nI R ∧ Mx e yes (eT A) R) _ (by omega) ?_ ?_ ⟨rfl, Lf.rf, 0, rfl, by omega, trivial, fun W hW _ => by rw [show W = 0 by omega]; omega⟩
      · rintro e ⟨b, y, τ⟩ _ he ⟨f1, f2, R, g1, g2⟩
        dsimp only at f1 f2 g1
        subst f1
        subst g1
        have hR := g2.1
        obtain ⟨τ1, e2, l2, -⟩ := m_eBy hA (h1.lf f2.1) (p1.lf f2.1) h0 he
        have f3 := f2.trans l2
        obtain ⟨τ2, e3, l3, -⟩ := m_eBy hA (h1.lf f3.1) (p1.lf f3.1) h0 (show R < 60 by omega)
        show ∃ s', fX11_primeOf_b18 w (nI R) (nI e) τ = some (.inl s') ∧ _
        unfold fX11_primeOf_b18 fX11_primeOf_j43
        rw [if_neg (show ¬ (60 : Int32) ≤ nI e from nI_ge (b := 60) he (by omega)), e2, ob_s]
        dsimp only
        rw [e3, ob_s]
        dsimp only
        by_cases q : eT A e ≤ eT A R
        · rw [if_pos ((pk_lLE (hb _) (hb _)).mpr q)]
          exact ⟨_, rfl, nI_1 e, f3.trans l3, R, rfl, Mx_keep g2 (Or.inr q)⟩
        · rw [if_neg (fun z => q ((pk_lLE (hb _) (hb _)).mp z))]
          refine ⟨_, rfl, nI_1 e, f3.trans l3, e, rfl, Mx_new trivial (fun W hW _ => ?_)⟩
          have := g2.2.2 W hW trivial
          omega
      · rintro ⟨b, y, τ⟩ ⟨f1, f2, f3⟩
        dsimp only at f1 f2 f3
        subst f1
        exact ⟨(b, τ), rfl, f2, f3⟩
    obtain ⟨r, e, l, R, r1, mx⟩ := key
    have hR := mx.1
    rw [e, ob_s, r1]
    have key2 : ∃ r', lpc (fun s => fX11_primeOf_b52 w (nI R) s.1 s.2) ((0 : Int32), r.2) = some r' ∧ (Lf [44, 60, 61] σ1 r'.2 ∧ ∃ H, r'.1 = nI H ∧ R + H ≤ 60 ∧ (∀ i, i < H → eT A (R + i) = eT A R) ∧ (R + H = 60 ∨ eT A (R + H) ≠ eT A R)) := by
      refine lpc_cntx (a := 0) (b := 60 - R) (fun k s => s.1 = nI k ∧ Lf [44, 60, 61] σ1 s.2 ∧ ∀ i, i < k → eT A (R + i) = eT A R) _ (by omega) ?_ ?_ ⟨rfl, l, fun i hi => absurd hi (Nat.not_lt_zero _)⟩
      · rintro k ⟨y, τ⟩ _ hk ⟨f1, f2, f3⟩
        dsimp only at f1 f2 f3
        subst f1
        obtain ⟨τ1, e2, l2, -⟩ := m_eBy hA (h1.lf f2.1) (p1.lf f2.1) h0 (show R + k < 60 by omega)
        have f4 := f2.trans l2
        obtain ⟨τ2, e3, l3, -⟩ := m_eBy hA (h1.lf f4.1) (p1.lf f4.1) h0 hR
        show (∃ s', fX11_primeOf_b52 w (nI R) (nI k) τ = some (.inl s') ∧ _) ∨ (∃ r, fX11_primeOf_b52 w (nI R) (nI k) τ = some (.inr r) ∧ _)
        unfold fX11_primeOf_b52
        rw [nI_add, if_neg (show ¬ (60 : Int32) ≤ nI (R + k) from nI_ge (b := 60) (by omega) (by omega)), e2, ob_s]
        dsimp only
        rw [e3, ob_s]
        dsimp only
        by_cases q : eT A (R + k) = eT A R
        · left
          rw [if_pos (by rw [q])]
          refine ⟨_, rfl, nI_1 k, f4.trans l3, fun i hi => ?_⟩
          by_cases e4 : i = k
          · rw [e4]; exact q
          · exact f3 i (by omega)
        · right
          rw [if_neg (fun z => q ((pk_lEQ (hb _) (hb _)).mp z))]
          exact ⟨_, rfl, f4.trans l3, k, rfl, by omega, f3, Or.inr q⟩
      · rintro ⟨y, τ⟩ ⟨f1, f2, f3⟩
        dsimp only at f1 f2 f3
        subst f1
        refine ⟨(nI (60 - R), τ), ?_, f2, 60 - R, rfl, by omega, f3, Or.inl (by omega)⟩
        show fX11_primeOf_b52 w (nI R) (nI (60 - R)) τ = _
        unfold fX11_primeOf_b52
        rw [nI_add, show R + (60 - R) = 60 by omega, if_pos (show (60 : Int32) ≤ nI 60 by decide)]
    obtain ⟨r', e', l', H, r1', p2, p3, p4⟩ := key2
    rw [e', ob_s, r1']
    have hr : PrR A w (if w = 0 then nI R else nI H) := ⟨R, H, rfl, mx, p2, p3, p4⟩
    rw [the_eq hr PrR_u]
    by_cases w0 : w = 0
    · rw [if_pos w0, if_pos w0]; exact ⟨r'.2, rfl, k1.trans (l'.MS (by decide))⟩
    · rw [if_neg w0, if_neg w0]; exact ⟨r'.2, rfl, k1.trans (l'.MS (by decide))⟩
theorem m_prime (w : Int32) (A : AbS) (σ : St) (hA : OKA A) (h : IM A σ) : ∃ σ', fX11_prime w σ = some (vPrime w A, σ') ∧ MS σ σ' := by
  unfold fX11_prime vPrime
  rw [p_in, ob_s]
  by_cases g : 0 ≤ w ∧ w ≤ 1
  · obtain ⟨σ', e, k⟩ := m_primeOf (w := w) hA h
    rw [if_pos g, if_pos g, if_neg one_ne, e, ob_s]
    exact ⟨σ', rfl, k⟩
  · rw [if_neg g, if_neg g, if_pos rfl]; exact ⟨σ, rfl, MS.rf⟩
theorem l_prime : ls_prime Inv := fun σ w h => ls_mkq (vPrime w) (c_prime w) (m_prime w) σ h
