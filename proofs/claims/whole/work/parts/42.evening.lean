/-! evening, prime -/
def mE (A : AbS) (e k : Nat) : Nat := if (aM A k - e * aS A 7 / 4) + e * aS A 8 / 8 ≤ 16 - aD A k then (aM A k - e * aS A 7 / 4) + e * aS A 8 / 8 else 16 - aD A k
theorem mE_le {A : AbS} (e k : Nat) : mE A e k ≤ 16 - aD A k := by unfold mE; split <;> omega
theorem eL {A : AbS} (hA : OKA A) {e : Nat} (he : e < 60) : e * aS A 7 ≤ 240 ∧ e * aS A 8 ≤ 240 := by
  have h7 : aS A 7 ≤ 4 := hA.2.2.1 7 (by omega)
  have h8 : aS A 8 ≤ 4 := hA.2.2.1 8 (by omega)
  have h1 : e * aS A 7 ≤ 60 * 4 := Nat.mul_le_mul (by omega) h7
  have h2 : e * aS A 8 ≤ 60 * 4 := Nat.mul_le_mul (by omega) h8
  omega
theorem sub_cases {m l : Nat} (hm : m < 2 ^ 30) (hl : l < 2 ^ 30) : (l ≤ m ∧ nI m - nI l = nI (m - l)) ∨ (m < l ∧ nI m - nI l < 0) := by
  by_cases q : l ≤ m
  · exact Or.inl ⟨q, pk_sub q⟩
  · exact Or.inr ⟨by omega, pk_sneg hl (by omega)⟩
theorem max0 {m l : Nat} (hm : m < 2 ^ 30) (hl : l < 2 ^ 30) : (if (0 : Int32) < nI m - nI l then nI m - nI l else 0) = nI (m - l) := by
  rcases sub_cases hm hl with ⟨q, e⟩ | ⟨q, e⟩
  · rw [e]
    by_cases z : m - l = 0
    · rw [z]; rfl
    · rw [if_pos (show (0 : Int32) < nI (m - l) from nI_lt (a := 0) (by omega) (by omega))]
  · rw [if_neg (fun z => Int32.lt_irrefl (Int32.lt_trans z e)), show m - l = 0 by omega]; rfl
theorem min_le {a b : Nat} (ha : a < 2 ^ 31) (hb : b < 2 ^ 31) : (if nI b < nI a then nI b else nI a) = nI (if a ≤ b then a else b) := by
  by_cases q : a ≤ b
  · rw [if_pos q, if_neg (fun z => absurd ((nI_ltI hb ha).mp z) (by omega))]
  · rw [if_neg q, if_pos (nI_lt (by omega) ha)]
theorem c_comeTo {A : AbS} {σ : St} {e : Nat} (hA : OKA A) (h : IC A σ) (he : e < 60) : ∃ r σ', fX10_comeTo (nI e) σ = some (r, σ') ∧ Fr [13, 14] σ σ' ∧ ODr (mE A e) (aD A) (σ'.1 13) (σ'.1 14) ∧ (r = 0 → ODr (mE A e) (aD A) (σ.1 13) (σ.1 14)) := by
  have h7 := h.2.2.2.1 7 (by omega)
  have h8 := h.2.2.2.1 8 (by omega)
  obtain ⟨b7, b8⟩ := eL hA he
  unfold fX10_comeTo
  simp only [ltb]
  rw [show fX6_valueOf (7 : Int32) σ = some (σ.1 8 7) from p_valueOf (i := 7) (by omega), ob_s, show fX6_valueOf (8 : Int32) σ = some (σ.1 8 8) from p_valueOf (i := 8) (by omega), ob_s, h7, h8, pk_mul, pk_mul, show nI (e * aS A 7) / (4 : Int32) = nI (e * aS A 7 / 4) from pk_div (d := 4) (by omega) (by omega) (by omega), show nI (e * aS A 8) / (8 : Int32) = nI (e * aS A 8 / 8) from pk_div (d := 8) (by omega) (by omega) (by omega)]
  have key : ∃ r, lpc (fun s => fX10_comeTo_b35 (nI (e * aS A 7 / 4)) (nI (e * aS A 8 / 8)) s.1 s.2.1 s.2.2) ((0 : Int32), (0 : Int32), σ) = some r ∧ (Fr [13, 14] σ r.2 ∧ ODr (mE A e) (aD A) (r.2.1 13) (r.2.1 14) ∧ (r.1 = 0 ∨ r.1 = 1) ∧ (r.1 = 0 → ODr (mE A e) (aD A) (σ.1 13) (σ.1 14))) := by
    refine lpc_cnt (a := 0) (b := 3) (fun k s => s.2.1 = nI k ∧ Fr [13, 14] σ s.2.2 ∧ (∀ j, j < k → s.2.2.1 13 j = nI (mE A e j) ∧ s.2.2.1 14 j = nI (aD A j)) ∧ (∀ j, k ≤ j → s.2.2.1 13 j = σ.1 13 j ∧ s.2.2.1 14 j = σ.1 14 j) ∧ (s.1 = 0 ∨ s.1 = 1) ∧ (s.1 = 0 → ∀ j, j < k → σ.1 13 j = nI (mE A e j) ∧ σ.1 14 j = nI (aD A j))) _ (by omega) ?_ ?_ ⟨rfl, Fr.rf, fun j hj => absurd hj (Nat.not_lt_zero _), fun _ _ => ⟨rfl, rfl⟩, Or.inl rfl, fun _ j hj => absurd hj (Nat.not_lt_zero _)⟩
    · rintro k ⟨s1, s2, τ⟩ _ hk ⟨f1, f2, f3, f4, f5, f6⟩
      dsimp only at f1 f2 f3 f4 f5 f6
      subst f1
      have hi : IC A τ := h.cs (f2.mono (by decide))
      have hmd := hA.2.1 k hk
      show ∃ s', fX10_comeTo_b35 (nI (e * aS A 7 / 4)) (nI (e * aS A 8 / 8)) s1 (nI k) τ = some (.inl s') ∧ _
      have em : (if nI (16 - aD A k) < nI (aM A k - e * aS A 7 / 4 + e * aS A 8 / 8) then nI (16 - aD A k) else nI (aM A k - e * aS A 7 / 4 + e * aS A 8 / 8)) = nI (mE A e k) := min_le (by omega) (by omega)
      have j121 : ∀ t0 : Int32, fX10_comeTo_j121 (nI (e * aS A 7 / 4)) (nI (e * aS A 8 / 8)) (nI k) (nI (aD A k)) (nI (mE A e k)) t0 τ = some (.inl (t0, nI (k + 1), sI (sI τ 13 k (nI (mE A e k))) 14 k (nI (aD A k)))) := by
        intro t0
        unfold fX10_comeTo_j121 fX3_become
        rw [if_pos (show isO 12 = true from rfl), if_neg (nI_pos (by omega)), if_neg (show ¬ (3 : Int32) ≤ nI k from nI_ge (b := 3) hk (by omega)), if_neg (show ¬ (3 : Int32) ≤ nI k from nI_ge (b := 3) hk (by omega)), inb_nI hk (by omega), if_pos rfl, nI_clamp (by omega), ob_s, nI_1]
      unfold fX10_comeTo_b35 fX10_comeTo_j116
      rw [if_neg (show ¬ (2 : Int32) < nI k from fun z => absurd ((nI_ltI (a := 2) (by omega) (by omega)).mp z) (by omega)), (hi.ms9 hk).1, (hi.ms9 hk).2, ob_s, ob_s, p_max, ob_s, max0 (by omega) (by omega)]
      simp only [ltb]
      rw [nI_add, show (16 : Int32) - nI (aD A k) = nI (16 - aD A k) from pk_sub (a := 16) (by omega), p_min, ob_s, em, p_mis (o := 12) (Or.inr rfl) hk, p_dou (o := 12) (Or.inr rfl) hk, ob_s, ob_s, j121, j121]
      have rest : ∀ t0 : Int32, (t0 = 0 ∨ t0 = 1) → (t0 = 0 → ∀ j, j < k + 1 → σ.1 13 j = nI (mE A e j) ∧ σ.1 14 j = nI (aD A j)) → ∃ s' : Int32 × Int32 × St, some (Sum.inl (t0, nI (k + 1), sI (sI τ 13 k (nI (mE A e k))) 14 k (nI (aD A k)))) = some ((Sum.inl s' : (Int32 × Int32 × St) ⊕ (Int32 × St))) ∧ s'.2.1 = nI (k + 1) ∧ Fr [13, 14] σ s'.2.2 ∧ (∀ j, j < k + 1 → s'.2.2.1 13 j = nI (mE A e j) ∧ s'.2.2.1 14 j = nI (aD A j)) ∧ (∀ j, k + 1 ≤ j → s'.2.2.1 13 j = σ.1 13 j ∧ s'.2.2.1 14 j = σ.1 14 j) ∧ (s'.1 = 0 ∨ s'.1 = 1) ∧ (s'.1 = 0 → ∀ j, j < k + 1 → σ.1 13 j = nI (mE A e j) ∧ σ.1 14 j = nI (aD A j)) := by
        intro t0 ht0 hp
        refine ⟨_, rfl, rfl, (f2.trans (Fr_sI (by decide))).trans (Fr_sI (by decide)), fun j hj => ?_, fun j hj => ?_, ht0, hp⟩
        · dsimp only
          rw [sI_o (by decide), g_sI, if_pos rfl, g_sI, if_pos rfl, sI_o (by decide)]
          by_cases q : j = k
          · rw [if_pos q, if_pos q, q]; exact ⟨rfl, rfl⟩
          · rw [if_neg q, if_neg q]; exact f3 j (by omega)
        · dsimp only
          rw [sI_o (by decide), g_sI, if_pos rfl, g_sI, if_pos rfl, sI_o (by decide), if_neg (by omega), if_neg (by omega)]
          exact f4 j (by omega)
      by_cases q0 : s1 = 0
      · rw [if_pos q0]
        by_cases q1 : nI (mE A e k) = τ.1 (12 + 1) k
        · rw [if_pos q1]
          by_cases q2 : nI (aD A k) = τ.1 (12 + 2) k
          · rw [if_pos q2]
            refine rest 0 (Or.inl rfl) (fun _ j hj => ?_)
            by_cases q : j = k
            · rw [q]; have := f4 k (Nat.le_refl _); exact ⟨this.1.symm.trans q1.symm, this.2.symm.trans q2.symm⟩
            · exact f6 q0 j (by omega)
          · rw [if_neg q2]; exact rest 1 (Or.inr rfl) (fun z => absurd z one_ne)
        · rw [if_neg q1]; exact rest 1 (Or.inr rfl) (fun z => absurd z one_ne)
      · rw [if_neg q0]; exact rest 1 (Or.inr rfl) (fun z => absurd z one_ne)
    · rintro ⟨s1, s2, τ⟩ ⟨f1, f2, f3, f4, f5, f6⟩
      dsimp only at f1 f2 f3 f4 f5 f6
      subst f1
      exact ⟨(s1, τ), rfl, f2, f3, f5, f6⟩
  obtain ⟨r, e1, l, o, z, c⟩ := key
  rw [e1, ob_s]
  refine ⟨r.1, r.2, ?_, l, o, c⟩
  rcases z with z | z
  · rw [z]; rfl
  · rw [z]; rfl
abbrev qE (A : AbS) (e : Nat) : SP := (aT A, mE A e, aD A, aS A 6, 0)
theorem qE_ok {A : AbS} (hA : OKA A) (e : Nat) : SPok (qE A e) := ⟨fun k hk => by have h1 := mE_le (A := A) e k; have h2 := hA.2.1 k hk; show mE A e k + aD A k ≤ 16; omega, hA.2.2.1 6 (by omega), by show (0 : Nat) < 64; omega⟩
abbrev eT (A : AbS) (e : Nat) : Nat := sl (qE A e) ((aB A).length - 1) 10
theorem eB {A : AbS} (h0 : (aB A).length ≠ 0) (e : Nat) : sc (qE A e) ((aB A).length - 1) = nlo (aB A) := by
  have h1 := sc_on (q := qE A e) ((aB A).length - 1) (by show (aB A).length - 1 ≤ (aB A).length; omega)
  obtain ⟨t1, t2⟩ := take_last (bNe h0)
  have h2 : sc (qE A e) ((aB A).length - 1) = nlo ((bsOf (aT A)).take ((bsOf (aT A)).length - 1)) + on 0 (ncu ((bsOf (aT A)).take ((bsOf (aT A)).length - 1))) := h1
  rw [h2, t1, on0]; rfl
theorem loA (A : AbS) : nlo (aB A) ≤ 10 := (BG_bsOf (aT A)).1.2.1
theorem eT_52 {A : AbS} (hA : OKA A) (h0 : (aB A).length ≠ 0) (e : Nat) : 16 ^ (13 - nlo (aB A)) * eT A e ≤ 2 ^ 52 := by
  have := sl_52 (qE_ok hA e) (b := (aB A).length - 1) (by show (aB A).length - 1 ≤ (aB A).length; omega) (by rw [eB h0]; have := loA A; omega) 10
  rw [eB h0] at this
  exact this
theorem c_later {A : AbS} {σ : St} {e : Nat} (hA : OKA A) (h : IC A σ) (h0 : (aB A).length ≠ 0) (ho : ODr (mE A e) (aD A) (σ.1 13) (σ.1 14)) : ∃ σ', fX10_trueLater σ = some (lN (16 ^ (13 - nlo (aB A)) * eT A e), σ') ∧ Lf [25, 26] σ σ' := by
  have hlo := loA A
  unfold fX10_trueLater
  obtain ⟨c1, c2⟩ := sl_cg (T := aT A) (m := mE A e) (d := aD A) (h := 0) (W := 0) (m' := mE A e) (d' := aD A) (h' := aS A 6) (W' := 0) (fun k _ => ⟨rfl, rfl⟩) (fun b _ => ⟨fun z => absurd z gW0, fun z => absurd z gW0⟩) (fun b _ z => absurd z gW0) ((aB A).length - 1) (by show (aB A).length - 1 ≤ (aB A).length; omega)
  have hq := qE_ok hA e
  obtain ⟨σ', e1, l, v⟩ := p_walk (σ := σ) (q := (aT A, mE A e, aD A, 0, 0)) (o := 12) (e := (aB A).length - 1) (Or.inr rfl) ⟨hq.1, Nat.zero_le 16, Nat.zero_lt_succ 63⟩ h.ps ho (by show (aB A).length - 1 ≤ (aB A).length; omega) (by rw [c1]; have := eB h0 e; show sc (qE A e) _ ≤ 13; rw [this]; omega)
  rw [h.ps.1, p_len1 h0, show fX8_walk 12 (nI ((aB A).length - 1)) (0 : Int32) (0 : Int32) σ = some σ' from e1, ob_s, p_chance (i := 10) (by omega) rfl, ob_s, v 10 (by omega), c1, c2]
  have h3 := eB h0 e
  refine ⟨σ', ?_, l⟩
  show some (lN (16 ^ (13 - sc (qE A e) ((aB A).length - 1)) * eT A e), σ') = _
  rw [h3]
abbrev gEv (x w : Int32) : Prop := (0 ≤ x ∧ x ≤ 59) ∧ (0 ≤ w ∧ w ≤ 1)
def wEvening (A : AbS) (e : Nat) (w : Int32) : Int64 := if (aB A).length = 0 then noN else lN (lw (eT A e) (16 ^ nlo (aB A)) w)
def vEvening (x w : Int32) (A : AbS) : Int64 := if gEv x w then wEvening A x.toNatClampNeg w else noB
theorem c_evening (x w : Int32) (A : AbS) (σ : St) (hA : OKA A) (h : IC A σ) : ∃ σ', fX10_evening x w σ = some (vEvening x w A, σ') ∧ IC A σ' ∧ CM σ σ' := by
  have hlo := loA A
  unfold fX10_evening fX10_evening_j17 vEvening wEvening
  rw [p_within, ob_s, p_isPart, ob_s]
  by_cases g : gEv x w
  · rw [if_pos g, if_pos g.1, if_neg one_ne, if_pos g.2, if_neg one_ne, h.ps.1]
    obtain ⟨e, he, rfl⟩ := i32_nat (m := 59) (by omega) g.1.1 g.1.2
    rw [nI_clamp (by omega)]
    by_cases h0 : (aB A).length = 0
    · rw [if_pos h0, if_pos (len0 h0)]; exact ⟨σ, rfl, h, CM.rf⟩
    · rw [if_neg h0, if_neg (lenN h0)]
      obtain ⟨r, σ1, e1, f1, o1, -⟩ := c_comeTo hA h (show e < 60 by omega)
      have k1 : CS σ σ1 := f1.mono (by decide)
      obtain ⟨σ2, e2, l2⟩ := c_later hA (h.cs k1) h0 o1
      have k2 : CS σ σ2 := k1.trans (l2.Fr.mono (by decide))
      have h52 := eT_52 hA h0 e
      rw [e1, ob_s, e2, ob_s]
      dsimp only
      have hl : lw (16 ^ (13 - nlo (aB A)) * eT A e) (2 ^ 52) w = lw (eT A e) (16 ^ nlo (aB A)) w := by
        rw [← pw13' (k := nlo (aB A)) (by omega), lw_scale (Nat.pos_of_ne_zero (by simp))]
      have hT : fX10_told (lN (16 ^ (13 - nlo (aB A)) * eT A e)) (4503599627370496 : Int64) w = some (lN (lw (16 ^ (13 - nlo (aB A)) * eT A e) (2 ^ 52) w)) := by
        rw [show (4503599627370496 : Int64) = lN (2 ^ 52) from by decide]
        exact p_told (Nat.lt_of_le_of_lt h52 (by decide)) (by omega) (by omega)
      rw [hT, ob_s, hl]
      exact ⟨σ2, rfl, h.cs k2, k2.CM⟩
  · rw [if_neg g]
    by_cases g1 : 0 ≤ x ∧ x ≤ 59
    · rw [if_pos g1, if_neg one_ne, if_neg (fun z => g ⟨g1, z⟩), if_pos rfl]; exact ⟨σ, rfl, h, CM.rf⟩
    · rw [if_neg g1, if_pos rfl]; exact ⟨σ, rfl, h, CM.rf⟩
theorem m_miE {A : AbS} {σ : St} {e k : Nat} (hA : OKA A) (h : IM A σ) (he : e < 60) (hk : k < 3) : fX11_missedIn (nI k) (nI e) σ = some (nI (mE A e k)) := by
  obtain ⟨b7, b8⟩ := eL hA he
  have hmd := hA.2.1 k hk
  unfold fX11_missedIn fX11_missedIn_j40
  rw [if_neg (nI_nm1 (by omega)), inb_nI hk (by omega), if_pos rfl, nI_clamp (by omega), (h.od hk).1, (h.od hk).2, h.2.2.1 7 (by omega), h.2.2.1 8 (by omega)]
  simp only [ltb]
  rw [if_pos trivial, if_pos trivial, pk_mul, pk_mul, show nI (e * aS A 7) / (4 : Int32) = nI (e * aS A 7 / 4) from pk_div (d := 4) (by omega) (by omega) (by omega), show nI (e * aS A 8) / (8 : Int32) = nI (e * aS A 8 / 8) from pk_div (d := 8) (by omega) (by omega) (by omega), show (16 : Int32) - nI (aD A k) = nI (16 - aD A k) from pk_sub (a := 16) (by omega)]
  unfold mE
  have fin : ∀ a : Nat, a ≤ 16 → (if nI a + nI (e * aS A 8 / 8) ≤ nI (16 - aD A k) then some (nI a + nI (e * aS A 8 / 8)) else some (nI (16 - aD A k))) = some (nI (if a + e * aS A 8 / 8 ≤ 16 - aD A k then a + e * aS A 8 / 8 else 16 - aD A k)) := by
    intro a ha
    rw [nI_add]
    by_cases q : a + e * aS A 8 / 8 ≤ 16 - aD A k
    · rw [if_pos q, if_pos (nI_le q (by omega))]
    · rw [if_neg q, if_neg (fun z => q ((nI_leI (by omega) (by omega)).mp z))]
  rcases sub_cases (m := aM A k) (l := e * aS A 7 / 4) (by omega) (by omega) with ⟨q, eq⟩ | ⟨q, eq⟩
  · rw [eq, if_pos (show (0 : Int32) ≤ nI _ from nI_pos' (by omega))]
    exact fin _ (by omega)
  · rw [if_neg (fun z => absurd eq (Int32.not_lt.mpr z)), show aM A k - e * aS A 7 / 4 = 0 by omega]
    exact fin 0 (by omega)
theorem m_eBy {A : AbS} {σ : St} {e : Nat} (hA : OKA A) (h : IM A σ) (p : PSm (aB A) σ) (h0 : (aB A).length ≠ 0) (he : e < 60) : ∃ σ', fX11_eveningBy (nI e) σ = some (lN (eT A e), σ') ∧ Lf [44, 60, 61] σ σ' ∧ σ'.2 44 25 = lN (16 ^ nlo (aB A)) := by
  have hlo := loA A
  unfold fX11_eveningBy
  obtain ⟨σ', e1, l, v, a⟩ := p_slipsM (σ := σ) (q := qE A e) (e := (aB A).length - 1) (ev := nI e) (qE_ok hA e) p (fun k hk => m_miE hA h he hk) (fun k hk => (h.od hk).2) (h.2.2.1 6 (by omega)) (by show (aB A).length - 1 ≤ (aB A).length; omega) (by rw [eB h0]; omega)
  rw [p.1, p_len1 h0, show fX11_findsSlips (nI ((aB A).length - 1)) (0 : Int32) (nI e) σ = some σ' from e1, ob_s, v 10 (by omega)]
  rw [eB h0] at a
  exact ⟨σ', rfl, l, a⟩
theorem eT_le {A : AbS} (hA : OKA A) (h0 : (aB A).length ≠ 0) (e : Nat) : eT A e ≤ 16 ^ nlo (aB A) ∧ 0 < 16 ^ nlo (aB A) ∧ 16 ^ nlo (aB A) ≤ 2 ^ 52 := by
  have h1 := sl_le (qE_ok hA e) ((aB A).length - 1) (by show (aB A).length - 1 ≤ (aB A).length; omega) 10
  rw [eB h0] at h1
  have hlo := loA A
  have h2 : (16 : Nat) ^ nlo (aB A) ≤ 16 ^ 13 := Nat.pow_le_pow_right (by omega) (by omega)
  exact ⟨h1, Nat.pos_of_ne_zero (by simp), h2⟩
theorem m_eveningOf {A : AbS} {σ : St} {e : Nat} {w : Int32} (hA : OKA A) (h : IM A σ) (he : e < 60) : ∃ σ', fX11_eveningOf (nI e) w σ = some (wEvening A e w, σ') ∧ MS σ σ' := by
  unfold fX11_eveningOf wEvening
  obtain ⟨σ1, e1, k1, p1⟩ := m_reads h
  rw [e1, ob_s, p1.1]
  by_cases h0 : (aB A).length = 0
  · rw [if_pos h0, if_pos (len0 h0)]; exact ⟨σ1, rfl, k1⟩
  · rw [if_neg h0, if_neg (lenN h0)]
    obtain ⟨σ2, e2, l2, a2⟩ := m_eBy hA (h.ms k1) p1 h0 he
    obtain ⟨t1, t2, t3⟩ := eT_le hA h0 e
    rw [e2, ob_s]
    dsimp only
    rw [a2, p_lowest (by omega) (by omega) t2, ob_s]
    exact ⟨σ2, rfl, k1.trans (l2.MS (by decide))⟩
theorem m_evening (x w : Int32) (A : AbS) (σ : St) (hA : OKA A) (h : IM A σ) : ∃ σ', fX11_evening x w σ = some (vEvening x w A, σ') ∧ MS σ σ' := by
  unfold fX11_evening fX11_evening_j28 vEvening
  rw [p_in, ob_s, p_in, ob_s]
  by_cases g : gEv x w
  · rw [if_pos g, if_pos g.1, if_neg one_ne, if_pos g.2, if_neg one_ne]
    obtain ⟨e, he, rfl⟩ := i32_nat (m := 59) (by omega) g.1.1 g.1.2
    obtain ⟨σ', e1, k1⟩ := m_eveningOf (w := w) hA h (show e < 60 by omega)
    rw [nI_clamp (by omega), e1, ob_s]
    exact ⟨σ', rfl, k1⟩
  · rw [if_neg g]
    by_cases g1 : 0 ≤ x ∧ x ≤ 59
    · rw [if_pos g1, if_neg one_ne, if_neg (fun z => g ⟨g1, z⟩), if_pos rfl]; exact ⟨σ, rfl, MS.rf⟩
    · rw [if_neg g1, if_pos rfl]; exact ⟨σ, rfl, MS.rf⟩
theorem l_evening : ls_evening Inv := fun σ x w h => ls_mkq (vEvening x w) (c_evening x w) (m_evening x w) σ h
