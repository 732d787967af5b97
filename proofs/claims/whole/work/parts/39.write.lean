/-! write, few -/
theorem lpc_cntx {S R : Type} {body : S → Option (S ⊕ R)} (I : Nat → S → Prop) (P : R → Prop) {a b : Nat} (hab : a ≤ b) (hs : ∀ i s, a ≤ i → i < b → I i s → (∃ s', body s = some (.inl s') ∧ I (i + 1) s') ∨ ∃ r, body s = some (.inr r) ∧ P r) (he : ∀ s, I b s → ∃ r, body s = some (.inr r) ∧ P r) {s : S} (h : I a s) : ∃ r, lpc body s = some r ∧ P r := by
  obtain ⟨d, rfl⟩ : ∃ d, b = a + d := ⟨b - a, by omega⟩
  clear hab
  induction d generalizing a s with
  | zero =>
    obtain ⟨r, h1, h2⟩ := he s h
    exact ⟨r, lpc_exit h1, h2⟩
  | succ d ih =>
    rcases hs a s (Nat.le_refl _) (by omega) h with ⟨s', h1, h2⟩ | ⟨r, h1, h2⟩
    · rw [lpc_step h1]
      exact ih (a := a + 1) h2 (fun i s q1 q2 => hs i s (by omega) (by omega)) (by rw [show a + 1 + d = a + (d + 1) by omega]; exact he)
    · exact ⟨r, lpc_exit h1, h2⟩
noncomputable def the (P : Int32 → Prop) : Int32 := @dite _ (∃ r, P r) (Classical.propDecidable _) (fun h => Classical.choose h) (fun _ => 0)
theorem the_eq {P : Int32 → Prop} {r : Int32} (h : P r) (u : ∀ a b, P a → P b → a = b) : the P = r := by
  unfold the
  have he : ∃ r, P r := ⟨r, h⟩
  rw [dif_pos he]
  exact u _ _ (Classical.choose_spec he) h
/-- the first with the most -/
def Mx (n : Nat) (P : Nat → Prop) (f : Nat → Nat) (R : Nat) : Prop := R < n ∧ P R ∧ ∀ W, W < n → P W → f W < f R ∨ (f W = f R ∧ R ≤ W)
theorem Mx_u {n : Nat} {P : Nat → Prop} {f : Nat → Nat} {R R' : Nat} (h : Mx n P f R) (h' : Mx n P f R') : R = R' := by
  have h1 := h.2.2 R' h'.1 h'.2.1
  have h2 := h'.2.2 R h.1 h.2.1
  omega
theorem Mx_keep {n : Nat} {P : Nat → Prop} {f : Nat → Nat} {R : Nat} (h : Mx n P f R) (hn : ¬ P n ∨ f n ≤ f R) : Mx (n + 1) P f R := by
  refine ⟨Nat.lt_succ_of_lt h.1, h.2.1, fun W hW hp => ?_⟩
  by_cases e : W = n
  · subst e
    have := h.1
    rcases hn with q | q
    · exact absurd hp q
    · omega
  · exact h.2.2 W (by omega) hp
theorem Mx_new {n : Nat} {P : Nat → Prop} {f : Nat → Nat} (hp : P n) (h : ∀ W, W < n → P W → f W < f n) : Mx (n + 1) P f n := by
  refine ⟨Nat.lt_succ_self _, hp, fun W hW hp => ?_⟩
  by_cases e : W = n
  · subst e; omega
  · exact Or.inl (h W (by omega) hp)
theorem lNm1 {x : Nat} (h : x < 2 ^ 63) : ¬ lN x ≤ (-1 : Int64) := fun q => by
  rw [Int64.le_iff_toInt_le, pk_lT h, show (-1 : Int64).toInt = -1 from rfl] at q
  omega
theorem sB_k {A : AbS} (h0 : (aB A).length ≠ 0) {W : Nat} (hW : W < 2 ^ ncu (aB A)) : sB A W = nlo (aB A) + on W 6 := by
  have h1 := sc_on (q := qS A W) ((aB A).length - 1) (by show (aB A).length - 1 ≤ (aB A).length; omega)
  obtain ⟨t1, t2⟩ := take_last (bNe h0)
  have h2 : sB A W = nlo ((bsOf (aT A)).take ((bsOf (aT A)).length - 1)) + on W (ncu ((bsOf (aT A)).take ((bsOf (aT A)).length - 1))) := h1
  rw [h2, t1, t2, on_hi _ (cuA A) _ hW]
theorem two6 {n : Nat} (h : n < 7) : 2 ^ n ≤ 64 := by
  have : (2 : Nat) ^ n ≤ 2 ^ 6 := Nat.pow_le_pow_right (by omega) (by omega)
  exact this
theorem sT_52 {A : AbS} (hA : OKA A) {W : Nat} (hW : W < 64) (ho : on W 6 ≤ 3) : 16 ^ (13 - sB A W) * sT A W < 2 ^ 63 := Nat.lt_of_le_of_lt (sl_52 (qS_ok hA hW) (by show (aB A).length - 1 ≤ (aB A).length; omega) (sc_13 (q := qS A W) (by show (aB A).length - 1 ≤ (aB A).length; omega) ho) 10) (by decide)
theorem sT_le {A : AbS} (hA : OKA A) {W : Nat} (hW : W < 64) (hc : sB A W ≤ 13) : sT A W ≤ 2 ^ 52 := Nat.le_trans (sl_le (qS_ok hA hW) _ (by show (aB A).length - 1 ≤ (aB A).length; omega) 10) (pw_52 hc).2
abbrev isK (k : Nat) (W : Nat) : Prop := on W 6 = k
abbrev gWr (x : Int32) (A : AbS) : Prop := 0 ≤ x ∧ x ≤ nI (if ncu (aB A) < 3 then ncu (aB A) else 3)
noncomputable def vWrite (x : Int32) (A : AbS) : Int32 := if gWr x A then (if (aB A).length = 0 then -3 else the (fun r => ∃ R, r = nI R ∧ Mx (2 ^ ncu (aB A)) (isK x.toNatClampNeg) (sT A) R)) else -2
theorem vWr_eq {x : Int32} {A : AbS} {R : Nat} (h : Mx (2 ^ ncu (aB A)) (isK x.toNatClampNeg) (sT A) R) : the (fun r => ∃ R, r = nI R ∧ Mx (2 ^ ncu (aB A)) (isK x.toNatClampNeg) (sT A) R) = nI R :=
  the_eq ⟨R, rfl, h⟩ (by rintro a b ⟨R1, rfl, h1⟩ ⟨R2, rfl, h2⟩; rw [Mx_u h1 h2])
theorem ex_k : ∀ n, n < 7 → ∀ k, k ≤ (if n < 3 then n else 3) → on (2 ^ k - 1) 6 = k ∧ 2 ^ k - 1 < 2 ^ n := by
  intro n hn k hk
  have hk3 : k ≤ 3 ∧ k ≤ n := by split at hk <;> omega
  refine ⟨?_, ?_⟩
  · have : ∀ k, k < 4 → on (2 ^ k - 1) 6 = k := by decide
    exact this k (by omega)
  · have : (2 : Nat) ^ k ≤ 2 ^ n := Nat.pow_le_pow_right (by omega) hk3.2
    have h1 : 0 < (2 : Nat) ^ k := Nat.pos_of_ne_zero (by simp)
    omega
theorem ne_m1 {n : Nat} (h : n < 2 ^ 31) : ¬ (-1 : Int32) = nI n := fun q => nI_nm1 h q.symm
theorem c_writeQ (x : Int32) (A : AbS) (σ : St) (hA : OKA A) (h : IC A σ) : ∃ σ', fX10_write x σ = some (vWrite x A, σ') ∧ IC A σ' ∧ CM σ σ' := by
  have hcu := cuA A
  have h64 := two6 hcu
  unfold fX10_write vWrite
  rw [h.ps.2.2.1, p_min, ob_s, p_within, ob_s]
  have em : (if nI (ncu (aB A)) < (3 : Int32) then nI (ncu (aB A)) else 3) = nI (if ncu (aB A) < 3 then ncu (aB A) else 3) := by
    by_cases q : ncu (aB A) < 3
    · rw [if_pos q, if_pos (show nI _ < (3 : Int32) from nI_lt (b := 3) q (by omega))]
    · rw [if_neg q, if_neg (show ¬ nI _ < (3 : Int32) from fun z => q ((nI_ltI (b := 3) (by omega) (by omega)).mp z))]; rfl
  rw [em]
  by_cases g : gWr x A
  · rw [if_pos g, if_pos g, if_neg one_ne, h.ps.1]
    by_cases h0 : (aB A).length = 0
    · rw [if_pos h0, if_pos (len0 h0)]; exact ⟨σ, rfl, h, CM.rf⟩
    · rw [if_neg h0, if_neg (lenN h0)]
      have hmin : (if ncu (aB A) < 3 then ncu (aB A) else 3) ≤ 3 := by split <;> omega
      obtain ⟨k, hk, ek⟩ := i32_nat (m := if ncu (aB A) < 3 then ncu (aB A) else 3) (by omega) g.1 g.2
      obtain ⟨x1, x2⟩ := ex_k _ hcu k hk
      have hkx : x.toNatClampNeg = k := by rw [ek, nI_clamp (by omega)]
      rw [ek]
      have key : ∃ r, lpc (fun s => fX10_write_b44 (nI k) s.1 s.2.1 s.2.2.1 s.2.2.2) ((0 : Int32), (-1 : Int64), (0 : Int32), σ) = some r ∧ (CS σ r.2 ∧ ∃ R, r.1 = nI R ∧ Mx (2 ^ ncu (aB A)) (isK k) (sT A) R) := by
        refine lpc_cnt (a := 0) (b := 2 ^ ncu (aB A)) (fun j s => s.2.2.1 = nI j ∧ CS σ s.2.2.2 ∧ ((s.2.1 = -1 ∧ ∀ W, W < j → ¬ isK k W) ∨ ∃ R, s.1 = nI R ∧ s.2.1 = lN (16 ^ (13 - (nlo (aB A) + k)) * sT A R) ∧ Mx j (isK k) (sT A) R)) _ (by omega) ?_ ?_ ⟨rfl, Fr.rf, Or.inl ⟨rfl, fun W hW => absurd hW (Nat.not_lt_zero _)⟩⟩
        · rintro j ⟨b, m, y, τ⟩ _ hj ⟨f1, f2, f3⟩
          dsimp only at f1 f2 f3
          subst f1
          have hi : IC A τ := h.cs f2
          have ho6 := on_6 j (by omega)
          show ∃ s', fX10_write_b44 (nI k) b m (nI j) τ = some (.inl s') ∧ _
          unfold fX10_write_b44
          rw [hi.ps.2.2.1, sh1 _ hcu, if_neg (nI_ge hj (by omega)), p_bitCount j (by omega), ob_s]
          by_cases q : on j 6 = k
          · rw [if_pos (show nI (on j 6) = nI k by rw [q])]
            obtain ⟨τ', e, l⟩ := c_safety hA hi h0 (show j < 64 by omega) (by omega)
            rw [e, ob_s]
            dsimp only
            have hlt := sT_52 hA (W := j) (by omega) (by omega)
            rw [sB_k h0 hj, q] at hlt ⊢
            rcases f3 with ⟨e1, e2⟩ | ⟨R, e1, e2, e3⟩
            · rw [e1, if_neg (lNm1 hlt)]
              exact ⟨_, rfl, nI_1 j, f2.trans l, Or.inr ⟨j, rfl, rfl, Mx_new q (fun W hW hp => absurd hp (e2 W hW))⟩⟩
            · have hlt2 := sT_52 hA (W := R) (by have := e3.1; omega) (by have := e3.2.1; omega)
              rw [sB_k h0 (by have := e3.1; omega), e3.2.1] at hlt2
              rw [e2]
              by_cases q2 : sT A j ≤ sT A R
              · rw [if_pos ((pk_lLE hlt hlt2).mpr (Nat.mul_le_mul_left _ q2))]
                exact ⟨_, rfl, nI_1 j, f2.trans l, Or.inr ⟨R, e1, rfl, Mx_keep e3 (Or.inr q2)⟩⟩
              · rw [if_neg (fun z => q2 (Nat.le_of_mul_le_mul_left ((pk_lLE hlt hlt2).mp z) (Nat.pos_of_ne_zero (by simp))))]
                refine ⟨_, rfl, nI_1 j, f2.trans l, Or.inr ⟨j, rfl, rfl, Mx_new q (fun W hW hp => ?_)⟩⟩
                have := e3.2.2 W hW hp
                omega
          · rw [if_neg (fun z => q (nI_inj (by omega) (by omega) z))]
            refine ⟨_, rfl, nI_1 j, f2, ?_⟩
            rcases f3 with ⟨e1, e2⟩ | ⟨R, e1, e2, e3⟩
            · refine Or.inl ⟨e1, fun W hW => ?_⟩
              by_cases e : W = j
              · rw [e]; exact q
              · exact e2 W (by omega)
            · exact Or.inr ⟨R, e1, e2, Mx_keep e3 (Or.inl q)⟩
        · rintro ⟨b, m, y, τ⟩ ⟨f1, f2, f3⟩
          dsimp only at f1 f2 f3
          subst f1
          have hi : IC A τ := h.cs f2
          refine ⟨(b, τ), ?_, f2, ?_⟩
          · show fX10_write_b44 (nI k) b m (nI (2 ^ ncu (aB A))) τ = _
            unfold fX10_write_b44
            rw [hi.ps.2.2.1, sh1 _ hcu, if_pos (Int32.le_refl _)]
          · rcases f3 with ⟨e1, e2⟩ | ⟨R, e1, e2, e3⟩
            · exact absurd x1 (e2 _ x2)
            · exact ⟨R, e1, e3⟩
      obtain ⟨r, e, l, R, r1, mx⟩ := key
      rw [e, ob_s]
      rw [← hkx] at mx
      rw [← ek, vWr_eq mx, r1]
      exact ⟨r.2, rfl, h.cs l, l.CM⟩
  · rw [if_neg g, if_neg g, if_pos rfl]; exact ⟨σ, rfl, h, CM.rf⟩
theorem m_writeOf {A : AbS} {σ : St} {k : Nat} (hA : OKA A) (h : IM A σ) (p : PSm (aB A) σ) (hk : k ≤ (if ncu (aB A) < 3 then ncu (aB A) else 3)) (h0 : (aB A).length ≠ 0) : ∃ σ' R, fX11_writeOf (nI k) σ = some (nI R, σ') ∧ Lf [44, 60, 61] σ σ' ∧ Mx (2 ^ ncu (aB A)) (isK k) (sT A) R := by
  have hcu := cuA A
  have h64 := two6 hcu
  have hmin : (if ncu (aB A) < 3 then ncu (aB A) else 3) ≤ 3 := by split <;> omega
  obtain ⟨x1, x2⟩ := ex_k _ hcu k hk
  have hlo : nlo (aB A) ≤ 10 := (BG_bsOf (aT A)).1.2.1
  unfold fX11_writeOf
  rw [p.1, if_neg (lenN h0)]
  have key : ∃ r, lpc (fun s => fX11_writeOf_b17 (nI k) s.1 s.2.1 s.2.2.1 s.2.2.2) ((-1 : Int32), (0 : Int64), (0 : Int32), σ) = some r ∧ (Lf [44, 60, 61] σ r.2 ∧ ∃ R, r.1 = nI R ∧ Mx (2 ^ ncu (aB A)) (isK k) (sT A) R) := by
    refine lpc_cnt (a := 0) (b := 2 ^ ncu (aB A)) (fun j s => s.2.2.1 = nI j ∧ Lf [44, 60, 61] σ s.2.2.2 ∧ ((s.1 = -1 ∧ ∀ W, W < j → ¬ isK k W) ∨ ∃ R, s.1 = nI R ∧ s.2.1 = lN (sT A R) ∧ Mx j (isK k) (sT A) R)) _ (by omega) ?_ ?_ ⟨rfl, Lf.rf, Or.inl ⟨rfl, fun W hW => absurd hW (Nat.not_lt_zero _)⟩⟩
    · rintro j ⟨b, m, y, τ⟩ _ hj ⟨f1, f2, f3⟩
      dsimp only at f1 f2 f3
      subst f1
      have hi : IM A τ := h.lf f2.1
      have hp : PSm (aB A) τ := p.lf f2.1
      have ho6 := on_6 j (by omega)
      show ∃ s', fX11_writeOf_b17 (nI k) b m (nI j) τ = some (.inl s') ∧ _
      unfold fX11_writeOf_b17
      rw [hp.2.2.1, sh1 _ hcu, if_neg (nI_ge hj (by omega)), p_ones (show j < 64 by omega), ob_s]
      unfold fX11_writeOf_j49 fX11_writeOf_j75 fX11_writeOf_j70 fX11_writeOf_j76 fX11_writeOf_j89
      by_cases q : on j 6 = k
      · rw [if_pos (show nI (on j 6) = nI k by rw [q])]
        have hc : sB A j ≤ 13 := by rw [sB_k h0 hj]; omega
        obtain ⟨τ', e, l, -⟩ := m_safeBy hA hi hp h0 (show j < 64 by omega) hc
        rw [e, ob_s]
        dsimp only
        have hle := sT_le hA (W := j) (by omega) hc
        rw [if_neg (show ¬ lN (sT A j) < (0 : Int64) from fun z => absurd ((pk_lLT (b := 0) (by omega) (by omega)).mp z) (Nat.not_lt_zero _))]
        rcases f3 with ⟨e1, e2⟩ | ⟨R, e1, e2, e3⟩
        · rw [if_pos e1, if_pos rfl]
          exact ⟨_, rfl, nI_1 j, f2.trans l, Or.inr ⟨j, rfl, rfl, Mx_new q (fun W hW hp => absurd hp (e2 W hW))⟩⟩
        · have hR := e3.1
          have hcR : sB A R ≤ 13 := by rw [sB_k h0 (by omega), e3.2.1]; omega
          have hle2 := sT_le hA (W := R) (by omega) hcR
          subst e1
          rw [if_neg (nI_nm1 (by omega)), e2]
          by_cases q2 : sT A j ≤ sT A R
          · rw [if_pos ((pk_lLE (by omega) (by omega)).mpr q2), if_neg (fun z => absurd (nI_inj (by omega) (by omega) z) (by omega))]
            exact ⟨_, rfl, nI_1 j, f2.trans l, Or.inr ⟨R, rfl, rfl, Mx_keep e3 (Or.inr q2)⟩⟩
          · rw [if_neg (fun z => q2 ((pk_lLE (by omega) (by omega)).mp z)), if_pos rfl]
            refine ⟨_, rfl, nI_1 j, f2.trans l, Or.inr ⟨j, rfl, rfl, Mx_new q (fun W hW hp => ?_)⟩⟩
            have := e3.2.2 W hW hp
            omega
      · rw [if_neg (fun z => q (nI_inj (by omega) (by omega) z)), if_pos (by decide)]
        rcases f3 with ⟨e1, e2⟩ | ⟨R, e1, e2, e3⟩
        · subst e1
          rw [if_neg (ne_m1 (by omega))]
          refine ⟨_, rfl, nI_1 j, f2, Or.inl ⟨rfl, fun W hW => ?_⟩⟩
          by_cases e : W = j
          · rw [e]; exact q
          · exact e2 W (by omega)
        · have hR := e3.1
          subst e1
          rw [if_neg (fun z => absurd (nI_inj (by omega) (by omega) z) (by omega))]
          exact ⟨_, rfl, nI_1 j, f2, Or.inr ⟨R, rfl, e2, Mx_keep e3 (Or.inl q)⟩⟩
    · rintro ⟨b, m, y, τ⟩ ⟨f1, f2, f3⟩
      dsimp only at f1 f2 f3
      subst f1
      have hp : PSm (aB A) τ := p.lf f2.1
      refine ⟨(b, τ), ?_, f2, ?_⟩
      · show fX11_writeOf_b17 (nI k) b m (nI (2 ^ ncu (aB A))) τ = _
        unfold fX11_writeOf_b17
        rw [hp.2.2.1, sh1 _ hcu, if_pos (Int32.le_refl _)]
      · rcases f3 with ⟨e1, e2⟩ | ⟨R, e1, e2, e3⟩
        · exact absurd x1 (e2 _ x2)
        · exact ⟨R, e1, e3⟩
  obtain ⟨r, e, l, R, r1, mx⟩ := key
  rw [e, ob_s, r1]
  exact ⟨r.2, R, rfl, l, mx⟩
theorem m_writeQ (x : Int32) (A : AbS) (σ : St) (hA : OKA A) (h : IM A σ) : ∃ σ', fX11_write x σ = some (vWrite x A, σ') ∧ MS σ σ' := by
  have hcu := cuA A
  unfold fX11_write fX11_write_j17 fX11_cuesNow vWrite
  obtain ⟨σ1, e1, k1, p1⟩ := m_reads h
  rw [e1, ob_s, ob_s]
  dsimp only
  rw [p1.2.2.1, p_in, p_in, ob_s, ob_s]
  have em : (if (3 : Int32) ≤ nI (ncu (aB A)) then (if (if (0 : Int32) ≤ x ∧ x ≤ 3 then (1 : Int32) else 0) = 0 then some ((-2 : Int32), σ1) else (fX11_writeOf x σ1).bind fun q3 => some (q3.1, q3.2)) else (if (if (0 : Int32) ≤ x ∧ x ≤ nI (ncu (aB A)) then (1 : Int32) else 0) = 0 then some ((-2 : Int32), σ1) else (fX11_writeOf x σ1).bind fun q3 => some (q3.1, q3.2))) = (if gWr x A then (fX11_writeOf x σ1).bind fun q3 => some (q3.1, q3.2) else some ((-2 : Int32), σ1)) := by
    unfold gWr
    by_cases q : ncu (aB A) < 3
    · rw [if_neg (show ¬ (3 : Int32) ≤ nI _ from nI_ge (b := 3) q (by omega)), if_pos q]
      by_cases g : 0 ≤ x ∧ x ≤ nI (ncu (aB A))
      · rw [if_pos g, if_neg one_ne, if_pos g]
      · rw [if_neg g, if_pos rfl, if_neg g]
    · rw [if_pos (show (3 : Int32) ≤ nI _ from nI_le (a := 3) (by omega) (by omega)), if_neg q]
      by_cases g : 0 ≤ x ∧ x ≤ nI 3
      · rw [if_pos g, if_pos (show (0 : Int32) ≤ x ∧ x ≤ 3 from g), if_neg one_ne]
      · rw [if_neg g, if_neg (show ¬ ((0 : Int32) ≤ x ∧ x ≤ 3) from g), if_pos rfl]
  rw [em]
  by_cases g : gWr x A
  · rw [if_pos g, if_pos g]
    by_cases h0 : (aB A).length = 0
    · rw [if_pos h0]
      unfold fX11_writeOf
      rw [p1.1, if_pos (len0 h0), ob_s]
      exact ⟨σ1, rfl, k1⟩
    · rw [if_neg h0]
      have hmin : (if ncu (aB A) < 3 then ncu (aB A) else 3) ≤ 3 := by split <;> omega
      obtain ⟨k, hk, ek⟩ := i32_nat (m := if ncu (aB A) < 3 then ncu (aB A) else 3) (by omega) g.1 g.2
      have hkx : x.toNatClampNeg = k := by rw [ek, nI_clamp (by omega)]
      obtain ⟨σ2, R, e2, l2, mx⟩ := m_writeOf hA (h.ms k1) p1 hk h0
      rw [← hkx] at mx
      rw [vWr_eq mx, ek, e2, ob_s]
      exact ⟨σ2, rfl, k1.trans (l2.MS (by decide))⟩
  · rw [if_neg g, if_neg g]; exact ⟨σ1, rfl, k1⟩
theorem l_write : ls_write Inv := fun σ x h => ls_mkq (vWrite x) (c_writeQ x) (m_writeQ x) σ h
