/-! the reference's looks -/
theorem sooner_b {l : List (Nat × Nat)} {p q : Nat} (h : sooner l p q) : brL l p < brL l q ∨ (brL l p = brL l q ∧ p < q) := h
theorem p_isIn8 {x p : Nat} (hx : x < 256) (hp : p < 8) : fX11_isIn (nI x) (nI p) = some (if x.testBit p then 1 else 0) := by
  unfold fX11_isIn
  rw [tb_shr x hx p hp]
  by_cases h : x.testBit p = true
  · rw [if_pos h, if_pos rfl]
  · rw [if_neg h, if_neg (by decide)]
abbrev cand (l : List (Nat × Nat)) (S D t p : Nat) : Prop := (S.testBit p = true ∧ D.testBit p = false) ∧ brL l p ≤ t + 3 ∧ t < brL l p
def BsP (l : List (Nat × Nat)) (S D t k : Nat) (r : Int32) : Prop := (r = -1 ∧ ∀ p, p < k → ¬ cand l S D t p) ∨ ∃ P, r = nI P ∧ P < k ∧ cand l S D t P ∧ ∀ p, p < k → cand l S D t p → brL l P < brL l p ∨ (brL l P = brL l p ∧ P ≤ p)
theorem win {b t : Nat} (h1 : 1 ≤ b) (h2 : b ≤ 98) (ht : t < 99) : (nI b - (3 : Int32) ≤ nI t ∧ nI t ≤ nI b - (1 : Int32)) ↔ (b ≤ t + 3 ∧ t < b) := by
  rw [Int32.le_iff_toInt_le, Int32.le_iff_toInt_le, show (3 : Int32) = nI 3 from rfl, show (1 : Int32) = nI 1 from rfl, pk_sub_toInt (by omega) (by omega), pk_sub_toInt (by omega) (by omega), nI_toInt (by omega)]
  omega
theorem m_cand {A : AbS} {σ : St} {S D t : Nat} (hA : OKA A) (pl : PLr (aP A) (σ.1 44 26) (σ.1 62) (σ.1 63)) (hS : S < 256) (ht : t < 99) : ∃ r, lpc (fun s => fX11_looksBy_b16 (nI S) (nI D) (nI t) s.1 s.2 σ) ((-1 : Int32), (0 : Int32)) = some r ∧ BsP (aP A) S D t (aP A).length r := by
  have hn := hA.2.2.2.2.2.1.1
  refine lpc_cnt (a := 0) (b := (aP A).length) (fun k s => s.2 = nI k ∧ BsP (aP A) S D t k s.1) _ (Nat.zero_le _) ?_ ?_ ⟨rfl, Or.inl ⟨rfl, fun p hp => absurd hp (Nat.not_lt_zero _)⟩⟩
  · rintro k ⟨b, y⟩ _ hk ⟨f1, f2⟩
    dsimp only at f1 f2
    subst f1
    obtain ⟨b1, b2, b3, b4⟩ := pl_b hA hk
    have keep : ¬ cand (aP A) S D t k → ∃ s' : Int32 × Int32, some ((Sum.inl (b, nI k + 1) : (Int32 × Int32) ⊕ Int32)) = some (.inl s') ∧ s'.2 = nI (k + 1) ∧ BsP (aP A) S D t (k + 1) s'.1 := by
      intro nc
      refine ⟨_, rfl, nI_1 k, ?_⟩
      rcases f2 with ⟨e, h⟩ | ⟨Q, e, h1, h2, h3⟩
      · refine Or.inl ⟨e, fun p hp => ?_⟩
        by_cases q : p = k
        · rw [q]; exact nc
        · exact h p (by omega)
      · refine Or.inr ⟨Q, e, by omega, h2, fun p hp hc => ?_⟩
        by_cases q : p = k
        · rw [q] at hc; exact absurd hc nc
        · exact h3 p (by omega) hc
    show ∃ s', fX11_looksBy_b16 (nI S) (nI D) (nI t) b (nI k) σ = some (.inl s') ∧ _
    unfold fX11_looksBy_b16 fX11_looksBy_j67 fX11_looksBy_j68 fX11_looksBy_j103 fX11_looksBy_j98 fX11_looksBy_j105
    rw [pl.1, if_neg (nI_ge hk (by omega)), wo_I, p_isIn8 (wo_lt hS) (by omega), ob_s, wo_tb _ _ (by omega), inb_nI (show k < 8 by omega) (by omega), if_pos rfl, nI_clamp (show k < 2 ^ 31 by omega), (pl.get hk).1, p_in, ob_s, if_pos rfl]
    by_cases q : (S.testBit k && !D.testBit k) = true
    · rw [if_pos q, if_neg one_ne]
      have q' : S.testBit k = true ∧ D.testBit k = false := by
        rw [Bool.and_eq_true, Bool.not_eq_true'] at q; exact q
      have hw := win b1 b2 ht
      by_cases w : brL (aP A) k ≤ t + 3 ∧ t < brL (aP A) k
      · have hc : cand (aP A) S D t k := ⟨q', w⟩
        rw [if_pos (hw.mpr w), if_neg one_ne, if_neg one_ne]
        rcases f2 with ⟨e, h⟩ | ⟨Q, e, h1, h2, h3⟩
        · rw [if_pos e]
          refine ⟨_, rfl, nI_1 k, Or.inr ⟨k, rfl, by omega, hc, fun p hp hc' => ?_⟩⟩
          by_cases z : p = k
          · rw [z]; omega
          · exact absurd hc' (h p (by omega))
        · subst e
          have hQ := pl_b hA (show Q < (aP A).length by omega)
          rw [if_neg (nI_nm1 (by omega)), inb_nI (show Q < 8 by omega) (by omega), if_pos rfl, nI_clamp (show Q < 2 ^ 31 by omega), (pl.get (show Q < (aP A).length by omega)).1]
          by_cases z : brL (aP A) Q ≤ brL (aP A) k
          · rw [if_pos (nI_le z (by omega))]
            refine ⟨_, rfl, nI_1 k, Or.inr ⟨Q, rfl, by omega, h2, fun p hp hc' => ?_⟩⟩
            by_cases y : p = k
            · rw [y]; omega
            · exact h3 p (by omega) hc'
          · rw [if_neg (fun y => z ((nI_leI (by omega) (by omega)).mp y))]
            refine ⟨_, rfl, nI_1 k, Or.inr ⟨k, rfl, by omega, hc, fun p hp hc' => ?_⟩⟩
            by_cases y : p = k
            · rw [y]; omega
            · have := h3 p (by omega) hc'; omega
      · rw [if_neg (fun z => w (hw.mp z)), if_pos rfl]
        exact keep (fun z => w z.2)
    · rw [if_neg q, if_pos rfl]
      exact keep (fun z => q (by rw [Bool.and_eq_true, Bool.not_eq_true']; exact z.1))
  · rintro ⟨b, y⟩ ⟨f1, f2⟩
    dsimp only at f1 f2
    subst f1
    refine ⟨b, ?_, f2⟩
    show fX11_looksBy_b16 (nI S) (nI D) (nI t) b (nI (aP A).length) σ = _
    unfold fX11_looksBy_b16
    rw [pl.1, if_pos (Int32.le_refl _)]
/-- who has been looked at before bar t -/
def ExD (l : List (Nat × Nat)) (S F t D : Nat) : Prop := ∀ p, D.testBit p = true ↔ ∃ i, i < F ∧ S.testBit (oL l i) = true ∧ oL l i = p ∧ tmL l S i < t
/-- one bar of the reference -/
theorem ex_step {l : List (Nat × Nat)} {S F t D : Nat} {r : Int32} (hn : l.length ≤ 8) (hF : F ≤ l.length) (hfe : feas l S F) (hex : ExD l S F t D) (hreg : F = l.length ∨ t < frL l S F) (hb : BsP l S D t l.length r) : (r = -1 ∧ ExD l S F (t + 1) D ∧ ∀ i, i < F → S.testBit (oL l i) = true → tmL l S i ≠ t) ∨ ∃ J, J < F ∧ r = nI (oL l J) ∧ ExD l S F (t + 1) (D ||| 2 ^ oL l J) ∧ S.testBit (oL l J) = true ∧ tmL l S J = t := by
  have ho := oL_s l
  -- the first that is not done
  by_cases hJ : ∃ J, J < F ∧ S.testBit (oL l J) = true ∧ t ≤ tmL l S J
  · obtain ⟨J, ⟨hJF, hJb, hJt⟩, hmin⟩ := pk_least (fun J => J < F ∧ S.testBit (oL l J) = true ∧ t ≤ tmL l S J) hJ
    have hlow : ∀ i, i < J → S.testBit (oL l i) = true → tmL l S i < t := fun i hi hb => by
      by_cases q : tmL l S i < t
      · exact q
      · exact absurd ⟨by omega, hb, by omega⟩ (hmin i hi)
    have hfr := fr_le J hlow
    -- a candidate comes not before J
    have hcd : ∀ p, p < l.length → cand l S D t p → ∃ i, J ≤ i ∧ i < l.length ∧ oL l i = p := by
      intro p hp hc
      obtain ⟨i, hi, e⟩ := ho.2.2 p hp
      refine ⟨i, ?_, hi, e⟩
      by_cases q : J ≤ i
      · exact q
      · exfalso
        have h1 : S.testBit (oL l i) = true := by rw [e]; exact hc.1.1
        have h2 := (hex p).mpr ⟨i, by omega, h1, e, hlow i (by omega) h1⟩
        rw [hc.1.2] at h2; cases h2
    have hJn : J < l.length := by omega
    have hord : ∀ i, J ≤ i → i < l.length → i = J ∨ sooner l (oL l J) (oL l i) := fun i h1 h2 => by
      by_cases q : i = J
      · exact Or.inl q
      · exact Or.inr (ho.2.1 J i (by omega) h2)
    by_cases hT : tmL l S J = t
    · right
      have hc : cand l S D t (oL l J) := by
        refine ⟨⟨hJb, ?_⟩, ?_, ?_⟩
        · cases hd : D.testBit (oL l J) with
          | false => rfl
          | true =>
            obtain ⟨i, h1, h2, h3, h4⟩ := (hex _).mp hd
            have := ho.inj (by omega) hJn h3
            subst this; omega
        · have : brL l (oL l J) - 3 ≤ tmL l S J := by unfold tmL; omega
          omega
        · have := hfe J hJF hJb; omega
      rcases hb with ⟨e, h⟩ | ⟨Q, e, h1, h2, h3⟩
      · exact absurd hc (h _ (ho.1 J hJn))
      · have hQ : Q = oL l J := by
          obtain ⟨i, i1, i2, i3⟩ := hcd Q h1 h2
          have a1 := h3 _ (ho.1 J hJn) hc
          rcases hord i i1 i2 with q | q
          · rw [← i3, q]
          · rw [i3] at q
            have q := sooner_b q
            omega
        refine ⟨J, hJF, by rw [e, hQ], fun p => ?_, hJb, hT⟩
        rw [tb_set, Bool.or_eq_true, decide_eq_true_iff]
        constructor
        · rintro (z | z)
          · obtain ⟨i, i1, i2, i3, i4⟩ := (hex p).mp z
            exact ⟨i, i1, i2, i3, by omega⟩
          · exact ⟨J, hJF, hJb, z.symm, by omega⟩
        · rintro ⟨i, i1, i2, i3, i4⟩
          by_cases q : tmL l S i < t
          · exact Or.inl ((hex p).mpr ⟨i, i1, i2, i3, q⟩)
          · right
            have : i = J := by
              by_cases y : i < J
              · exact absurd (hlow i y i2) q
              · by_cases y2 : J < i
                · have := tm_lt (l := l) y2 hJb; omega
                · omega
            rw [← i3, this]
    · left
      have hbig : t + 3 < brL l (oL l J) := by
        have : tmL l S J = max (frL l S J) (brL l (oL l J) - 3) := rfl
        omega
      have nc : ∀ p, p < l.length → ¬ cand l S D t p := by
        intro p hp hc
        obtain ⟨i, i1, i2, i3⟩ := hcd p hp hc
        rcases hord i i1 i2 with q | q
        · rw [q] at i3; rw [← i3] at hc; have := hc.2.1; omega
        · have := sooner_b q
          rw [i3] at this
          have := hc.2.1
          omega
      have hno : ∀ i, i < F → S.testBit (oL l i) = true → tmL l S i ≠ t := by
        intro i hi hb' z
        by_cases y : i < J
        · have := hlow i y hb'; omega
        · by_cases y2 : J < i
          · have := tm_lt (l := l) y2 hJb; omega
          · have : i = J := by omega
            subst this; exact hT z
      rcases hb with ⟨e, h⟩ | ⟨Q, e, h1, h2, h3⟩
      · refine ⟨e, fun p => ?_, hno⟩
        rw [hex p]
        constructor
        · rintro ⟨i, i1, i2, i3, i4⟩; exact ⟨i, i1, i2, i3, by omega⟩
        · rintro ⟨i, i1, i2, i3, i4⟩; exact ⟨i, i1, i2, i3, by have := hno i i1 i2; omega⟩
      · exact absurd h2 (nc Q h1)
  · left
    have hall : ∀ i, i < F → S.testBit (oL l i) = true → tmL l S i < t := fun i hi hb => by
      by_cases q : tmL l S i < t
      · exact q
      · exact absurd ⟨i, hi, hb, by omega⟩ hJ
    have hfr := fr_le F hall
    have hFn : F = l.length := by
      rcases hreg with q | q
      · exact q
      · omega
    have nc : ∀ p, p < l.length → ¬ cand l S D t p := by
      intro p hp hc
      obtain ⟨i, hi, e⟩ := ho.2.2 p hp
      have h1 : S.testBit (oL l i) = true := by rw [e]; exact hc.1.1
      have h2 := (hex p).mpr ⟨i, by omega, h1, e, hall i (by omega) h1⟩
      rw [hc.1.2] at h2; cases h2
    rcases hb with ⟨e, h⟩ | ⟨Q, e, h1, h2, h3⟩
    · refine ⟨e, fun p => ?_, fun i hi hb' z => by have := hall i hi hb'; omega⟩
      rw [hex p]
      constructor
      · rintro ⟨i, i1, i2, i3, i4⟩; exact ⟨i, i1, i2, i3, by omega⟩
      · rintro ⟨i, i1, i2, i3, i4⟩; exact ⟨i, i1, i2, i3, hall i i1 i2⟩
    · exact absurd h2 (nc Q h1)
theorem PLr.fr {A : AbS} {σ τ : St} (h : IM A σ) (f : Fr [64] σ τ) : PLr (aP A) (τ.1 44 26) (τ.1 62) (τ.1 63) := by
  rw [f.1 44 (by decide), f.1 62 (by decide), f.1 63 (by decide)]; exact h.2.2.2.2.2.2.1
theorem m_looksBy {A : AbS} {σ : St} {S F : Nat} (hA : OKA A) (h : IM A σ) (hS : S < 2 ^ (aP A).length) (hF : F ≤ (aP A).length) (hfe : feas (aP A) S F) (hfail : F < (aP A).length → S.testBit (oL (aP A) F) = true ∧ brL (aP A) (oL (aP A) F) ≤ tmL (aP A) S F) : ∃ σ' D, fX11_looksBy (nI S) σ = some (nI D, σ') ∧ Fr [64] σ σ' ∧ D < 256 ∧ (F = (aP A).length → D = S ∧ ∀ t, t < 99 → LkP (aP A) S t (σ'.1 64 t)) ∧ (F < (aP A).length → D ≠ S) := by
  have hn := hA.2.2.2.2.2.1.1
  have ho := oL_s (aP A)
  obtain ⟨h8, -⟩ := two8 hn
  unfold fX11_looksBy
  have key : ∃ r, lpc (fun s => fX11_looksBy_b4 (nI S) s.1 s.2.1 s.2.2) ((0 : Int32), (0 : Int32), σ) = some r ∧ ∃ D, r.1 = nI D ∧ Fr [64] σ r.2 ∧ D < 256 ∧ ((F = (aP A).length ∨ 99 ≤ frL (aP A) S F) → ExD (aP A) S F 99 D) ∧ ((F < (aP A).length ∧ frL (aP A) S F ≤ 99) → D.testBit (oL (aP A) F) = false) ∧ (F = (aP A).length → ∀ u, u < 99 → LkP (aP A) S u (r.2.1 64 u)) := by
    refine lpc_cnt (a := 0) (b := 99) (fun t s => s.2.1 = nI t ∧ ∃ D, s.1 = nI D ∧ Fr [64] σ s.2.2 ∧ D < 256 ∧ ((F = (aP A).length ∨ t ≤ frL (aP A) S F) → ExD (aP A) S F t D) ∧ ((F < (aP A).length ∧ frL (aP A) S F ≤ t) → D.testBit (oL (aP A) F) = false) ∧ (F = (aP A).length → ∀ u, u < t → LkP (aP A) S u (s.2.2.1 64 u))) _ (by omega) ?_ ?_ ⟨rfl, 0, rfl, Fr.rf, by omega, fun _ p => ?_, fun _ => Nat.zero_testBit _, fun _ u hu => absurd hu (Nat.not_lt_zero _)⟩
    · rintro t ⟨d, y, τ⟩ _ ht ⟨f1, D, f2, f3, f4, f5, f6, f7⟩
      dsimp only at f1 f2 f3 f7
      subst f1
      subst f2
      have pl := PLr.fr h f3
      obtain ⟨r, e, hb⟩ := m_cand (S := S) (D := D) (t := t) hA pl (by omega) ht
      show ∃ s', fX11_looksBy_b4 (nI S) (nI D) (nI t) τ = some (.inl s') ∧ _
      unfold fX11_looksBy_b4 fX11_looksBy_j136
      rw [if_neg (show ¬ (99 : Int32) ≤ nI t from nI_ge (b := 99) ht (by omega)), e, ob_s, inb_nI ht (by omega), if_pos rfl, nI_clamp (show t < 2 ^ 31 by omega)]
      simp only [ltb]
      -- the one that can't be looked at is no candidate once its bar has come
      have ncF : F < (aP A).length → frL (aP A) S F ≤ t → ¬ cand (aP A) S D t (oL (aP A) F) := fun q1 q2 hc => by
        have h1 := (hfail q1).2
        have h2 : tmL (aP A) S F = max (frL (aP A) S F) (brL (aP A) (oL (aP A) F) - 3) := rfl
        have h3 := hc.2.2
        omega
      -- in the exact time none that fails is done
      have exF : ∀ D' t', ExD (aP A) S F t' D' → F < (aP A).length → D'.testBit (oL (aP A) F) = false := fun D' t' hex q1 => by
        cases hd : D'.testBit (oL (aP A) F) with
        | false => rfl
        | true =>
          obtain ⟨i, h1, h2, h3, h4⟩ := (hex _).mp hd
          have := ho.inj (by omega) q1 h3
          omega
      have lk : (F = (aP A).length → LkP (aP A) S t r) → F = (aP A).length → ∀ u, u < t + 1 → LkP (aP A) S u ((sI τ 64 t r).1 64 u) := by
        intro hr hFn u hu
        rw [g_sI, if_pos rfl]
        by_cases q : u = t
        · rw [if_pos q, q]; exact hr hFn
        · rw [if_neg q]; exact f7 hFn u (by omega)
      by_cases q : r = -1
      · rw [if_pos q, show nI D ||| (0 : Int32) = nI (D ||| 0) from zI_or D 0, Nat.or_zero]
        have st : (F = (aP A).length ∨ t < frL (aP A) S F) → ExD (aP A) S F (t + 1) D ∧ ∀ i, i < F → S.testBit (oL (aP A) i) = true → tmL (aP A) S i ≠ t := fun hreg => by
          rcases ex_step hn hF hfe (f5 (by omega)) hreg hb with ⟨-, a, b⟩ | ⟨J, a, b, -⟩
          · exact ⟨a, b⟩
          · exact absurd (b.symm.trans q) (nI_nm1 (by have := ho.1 J (by omega); omega))
        refine ⟨_, rfl, nI_1 t, D, rfl, f3.trans (Fr_sI (by decide)), f4, fun z => (st (by omega)).1, fun z => ?_, lk (fun hFn => Or.inl ⟨q, fun i hi hb' => (st (Or.inl hFn)).2 i (by omega) hb'⟩)⟩
        by_cases z2 : frL (aP A) S F ≤ t
        · exact f6 ⟨z.1, z2⟩
        · exact exF D _ (st (by omega)).1 z.1
      · rw [if_neg q]
        rcases hb with ⟨e', -⟩ | ⟨Q, e', hQ, hQc, hQm⟩
        · exact absurd e' q
        · have hb : BsP (aP A) S D t (aP A).length r := Or.inr ⟨Q, e', hQ, hQc, hQm⟩
          have er : nI D ||| ((1 : Int32) <<< (r &&& 31)) = nI (D ||| 2 ^ Q) := by rw [e', tb_sh1 Q (by omega), zI_or]
          rw [er]
          have st : (F = (aP A).length ∨ t < frL (aP A) S F) → ExD (aP A) S F (t + 1) (D ||| 2 ^ Q) ∧ ∃ J, J < F ∧ Q = oL (aP A) J ∧ S.testBit (oL (aP A) J) = true ∧ tmL (aP A) S J = t := fun hreg => by
            rcases ex_step hn hF hfe (f5 (by omega)) hreg hb with ⟨a, -⟩ | ⟨J, a, b, c, d1, d2⟩
            · exact absurd a q
            · have hJ := ho.1 J (by omega)
              have eQ : Q = oL (aP A) J := nI_inj (by omega) (by omega) (e'.symm.trans b)
              rw [eQ]
              exact ⟨c, J, a, rfl, d1, d2⟩
          refine ⟨_, rfl, nI_1 t, D ||| 2 ^ Q, rfl, f3.trans (Fr_sI (by decide)), Nat.or_lt_two_pow (n := 8) f4 (Nat.pow_lt_pow_right (by omega) (by omega)), fun z => (st (by omega)).1, fun z => ?_, lk (fun hFn => ?_)⟩
          · by_cases z2 : frL (aP A) S F ≤ t
            · rw [tb_set, f6 ⟨z.1, z2⟩, Bool.false_or, decide_eq_false_iff_not]
              intro y
              rw [← y] at hQc
              exact ncF z.1 z2 hQc
            · exact exF _ _ (st (by omega)).1 z.1
          · obtain ⟨-, J, j1, j2, j3, j4⟩ := st (Or.inl hFn)
            exact Or.inr ⟨J, by omega, j3, j4, by rw [e', j2]⟩
    · rintro ⟨d, y, τ⟩ ⟨f1, D, f2, f3, f4, f5, f6, f7⟩
      dsimp only at f1 f2 f3 f7
      subst f1
      exact ⟨(d, τ), rfl, D, f2, f3, f4, f5, f6, f7⟩
    · rw [Nat.zero_testBit]
      refine ⟨(fun z => by cases z), ?_⟩
      rintro ⟨i, i1, i2, i3, i4⟩
      exact absurd i4 (Nat.not_lt_zero _)
  obtain ⟨r, e, D, r1, r2, r3, r4, r5, r6⟩ := key
  rw [e, ob_s, r1]
  refine ⟨r.2, D, rfl, r2, r3, fun hFn => ⟨?_, r6 hFn⟩, fun hlt eD => ?_⟩
  · have hex := r4 (Or.inl hFn)
    refine Nat.eq_of_testBit_eq (fun p => ?_)
    have hiff : D.testBit p = true ↔ S.testBit p = true := by
      rw [hex p]
      constructor
      · rintro ⟨i, i1, i2, i3, i4⟩; rw [← i3]; exact i2
      · intro hp
        have hpl := tb_lt hS hp
        obtain ⟨i, hi, e⟩ := ho.2.2 p hpl
        have h1 : S.testBit (oL (aP A) i) = true := by rw [e]; exact hp
        have h2 := hfe i (by omega) h1
        have h3 := (pl_b hA (ho.1 i hi)).2.1
        exact ⟨i, by omega, h1, e, by omega⟩
    cases h1 : D.testBit p <;> cases h2 : S.testBit p
    · rfl
    · rw [hiff.mpr h2] at h1; cases h1
    · rw [hiff.mp h1] at h2; cases h2
    · rfl
  · have hb := (hfail hlt).1
    have hd : D.testBit (oL (aP A) F) = false := by
      by_cases q : frL (aP A) S F ≤ 99
      · exact r5 ⟨hlt, q⟩
      · have hex := r4 (Or.inr (by omega))
        cases hd : D.testBit (oL (aP A) F) with
        | false => rfl
        | true =>
          obtain ⟨i, h1, h2, h3, h4⟩ := (hex _).mp hd
          have := ho.inj (by omega) hlt h3
          omega
    rw [eD, hb] at hd; cases hd
/-- the first in order that can't be looked at -/
theorem fst_fail {l : List (Nat × Nat)} {S : Nat} (h : ¬ feas l S l.length) : ∃ F, F < l.length ∧ feas l S F ∧ S.testBit (oL l F) = true ∧ brL l (oL l F) ≤ tmL l S F := by
  have hex : ∃ F, F < l.length ∧ S.testBit (oL l F) = true ∧ brL l (oL l F) ≤ tmL l S F := by
    refine Classical.byContradiction (fun q => h (fun i hi hb => ?_))
    by_cases z : tmL l S i < brL l (oL l i)
    · exact z
    · exact absurd ⟨i, hi, hb, by omega⟩ q
  obtain ⟨F, ⟨h1, h2, h3⟩, hm⟩ := pk_least _ hex
  refine ⟨F, h1, fun i hi hb => ?_, h2, h3⟩
  by_cases z : tmL l S i < brL l (oL l i)
  · exact z
  · exact absurd ⟨by omega, hb, by omega⟩ (hm i hi)
theorem m_looksT {A : AbS} {σ : St} {S : Nat} (hA : OKA A) (h : IM A σ) (hS : S < 2 ^ (aP A).length) (hfe : feas (aP A) S (aP A).length) : ∃ σ', fX11_looksBy (nI S) σ = some (nI S, σ') ∧ Fr [64] σ σ' ∧ ∀ t, t < 99 → LkP (aP A) S t (σ'.1 64 t) := by
  obtain ⟨σ', D, e, l, d, h1, -⟩ := m_looksBy hA h hS (Nat.le_refl _) hfe (fun z => absurd z (Nat.lt_irrefl _))
  obtain ⟨h2, h3⟩ := h1 rfl
  subst h2
  exact ⟨σ', e, l, h3⟩
theorem m_looksF {A : AbS} {σ : St} {S : Nat} (hA : OKA A) (h : IM A σ) (hS : S < 2 ^ (aP A).length) (hfe : ¬ feas (aP A) S (aP A).length) : ∃ σ' D, fX11_looksBy (nI S) σ = some (nI D, σ') ∧ Fr [64] σ σ' ∧ D < 256 ∧ D ≠ S := by
  obtain ⟨F, f1, f2, f3, f4⟩ := fst_fail hfe
  obtain ⟨σ', D, e, l, d, -, h1⟩ := m_looksBy hA h hS (by omega) f2 (fun _ => ⟨f3, f4⟩)
  exact ⟨σ', D, e, l, d, h1 f1⟩
