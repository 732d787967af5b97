/-! digest: the reference -/
def DgM {β : Type} (σ : St) (Z : β) (o : Option (β × St)) : Prop := ∃ σ', o = some (Z, σ') ∧ MS σ σ'
theorem mqb {α β : Type} {σ τ : St} {v : α} {Z : β} {f : Option (α × St)} {F : α × St → Option (β × St)} (k0 : MS σ τ) (hf : ∃ σ', f = some (v, σ') ∧ MS τ σ') (hF : ∀ σ', MS σ σ' → DgM σ Z (F (v, σ'))) : DgM σ Z (f.bind F) := by
  obtain ⟨s, e, k⟩ := hf
  rw [e]
  exact hF s (k0.trans k)
theorem mvb {α β : Type} {σ : St} {v : α} {Z : β} {f : Option α} {F : α → Option (β × St)} (e : f = some v) (hF : DgM σ Z (F v)) : DgM σ Z (f.bind F) := by
  rw [e]; exact hF
theorem lbb {β : Type} {σ : St} {a b : Int64} {Z : β} {F : Int64 → Option (β × St)} (hF : DgM σ Z (F (mix a b))) : DgM σ Z (ltb ((31 : Int64) * a + b) F) := hF
theorem m_dg1 {A : AbS} {σ : St} (h : IM A σ) : ∃ σ', lpc (fun s => fX11_digest_b6 s.1 s.2.1 s.2.2) ((17 : Int64), (0 : Int32), σ) = some (fD (fun k => (vCount (nI k) A).toInt64) 8 17, σ') ∧ MS σ σ' := by
  have key : ∃ r, lpc (fun s => fX11_digest_b6 s.1 s.2.1 s.2.2) ((17 : Int64), (0 : Int32), σ) = some r ∧ (r.1 = fD (fun k => (vCount (nI k) A).toInt64) 8 17 ∧ MS σ r.2) := by
    refine lpc_cnt (a := 0) (b := 8) (fun k s => s.2.1 = nI k ∧ s.1 = fD (fun k => (vCount (nI k) A).toInt64) k 17 ∧ MS σ s.2.2) _ (by omega) ?_ ?_ ⟨rfl, rfl, MS.rf⟩
    · rintro k ⟨y, z, τ⟩ _ hk ⟨f1, f2, f3⟩
      dsimp only at f1 f2 f3
      subst f1
      subst f2
      show ∃ s', fX11_digest_b6 (fD _ k 17) (nI k) τ = some (.inl s') ∧ _
      unfold fX11_digest_b6
      obtain ⟨s1, e1, k1⟩ := m_count (nI k) (h.ms f3)
      rw [if_neg (show ¬ (8 : Int32) ≤ nI k from nI_ge (b := 8) hk (by omega)), e1, ob_s]
      exact ⟨_, rfl, nI_1 k, rfl, f3.trans k1⟩
    · rintro ⟨y, z, τ⟩ ⟨f1, f2, f3⟩
      dsimp only at f1 f2 f3
      subst f1
      exact ⟨(y, τ), rfl, f2, f3⟩
  obtain ⟨r, e, r1, r2⟩ := key
  exact ⟨r.2, by rw [e, ← r1], r2⟩
theorem m_likelyD {A : AbS} {N : Nat} (σ : St) (hA : OKA A) (h : IM A σ) (h1 : 1 ≤ N) (h2 : N ≤ 110) : ∃ σ', fX11_likeliestOf (nI N) σ = some (vLikely (nI N) A, σ') ∧ MS σ σ' := by
  unfold vLikely
  rw [if_pos ⟨show (1 : Int32) ≤ nI N from nI_le (a := 1) h1 (by omega), show nI N ≤ (110 : Int32) from nI_le (b := 110) h2 (by omega)⟩, nI_clamp (by omega)]
  exact m_likelyOf hA h h1 h2
theorem m_strikeD {A : AbS} {N : Nat} (w : Int32) (σ : St) (hA : OKA A) (h : IM A σ) (h1 : 1 ≤ N) (h2 : N ≤ 110) (g : 0 ≤ w ∧ w ≤ 1) : ∃ σ', fX11_strikeOf (nI N) w σ = some (vStrike (nI N) w A, σ') ∧ MS σ σ' := by
  have g' : gWh (nI N) w := ⟨⟨show (1 : Int32) ≤ nI N from nI_le (a := 1) h1 (by omega), show nI N ≤ (110 : Int32) from nI_le (b := 110) h2 (by omega)⟩, g⟩
  unfold vStrike
  rw [if_pos g', nI_clamp (by omega)]
  exact m_strikeOf hA h h1 h2
theorem m_nd {A : AbS} {N : Nat} (x : Int64) (σ : St) (hA : OKA A) (h : IM A σ) (h1 : 1 ≤ N) (h2 : N ≤ 110) : ∃ σ', fX11_numberDigest x (nI N) σ = some (nD A x (nI N), σ') ∧ MS σ σ' := by
  have key : DgM σ (nD A x (nI N)) (fX11_numberDigest x (nI N) σ) := by
    unfold fX11_numberDigest
    refine mqb MS.rf (m_where (nI N) 9 0 A σ hA h) (fun s1 k1 => ?_)
    refine lbb ?_
    refine mqb k1 (m_where (nI N) 9 1 A s1 hA (h.ms k1)) (fun s2 k2 => ?_)
    refine lbb ?_
    refine mqb k2 (m_likelyD s2 hA (h.ms k2) h1 h2) (fun s3 k3 => ?_)
    refine lbb ?_
    refine mqb k3 (m_strikeD 0 s3 hA (h.ms k3) h1 h2 (by decide)) (fun s4 k4 => ?_)
    refine lbb ?_
    refine mqb k4 (m_strikeD 1 s4 hA (h.ms k4) h1 h2 (by decide)) (fun s5 k5 => ?_)
    exact ⟨s5, rfl, k5⟩
  exact key
theorem m_dg3 {A : AbS} (x : Int64) (σ : St) (hA : OKA A) (h : IM A σ) : ∃ σ', lpc (fun s => fX11_digest_b81 s.1 s.2.1 s.2.2) (x, (-2 : Int32), σ) = some (sD (fun k => vSlips 20 (-2 + nI k) 0 A) (fun k => vSlips 20 (-2 + nI k) 1 A) 5 x, σ') ∧ MS σ σ' := by
  have key : ∃ r, lpc (fun s => fX11_digest_b81 s.1 s.2.1 s.2.2) (x, (-2 : Int32), σ) = some r ∧ (r.1 = sD (fun k => vSlips 20 (-2 + nI k) 0 A) (fun k => vSlips 20 (-2 + nI k) 1 A) 5 x ∧ MS σ r.2) := by
    refine lpc_cnt (a := 0) (b := 5) (fun k s => s.2.1 = -2 + nI k ∧ s.1 = sD (fun k => vSlips 20 (-2 + nI k) 0 A) (fun k => vSlips 20 (-2 + nI k) 1 A) k x ∧ MS σ s.2.2) _ (by omega) ?_ ?_ ⟨rfl, rfl, MS.rf⟩
    · rintro k ⟨y, z, τ⟩ _ hk ⟨f1, f2, f3⟩
      dsimp only at f1 f2 f3
      subst f1
      subst f2
      have hc : ∀ k, k < 5 → ¬ (3 : Int32) ≤ -2 + nI k := by decide
      show ∃ s', fX11_digest_b81 (sD _ _ k x) (-2 + nI k) τ = some (.inl s') ∧ _
      unfold fX11_digest_b81
      simp only [ltb]
      obtain ⟨s1, e1, k1⟩ := m_slips 20 (-2 + nI k) 0 A τ hA (h.ms f3)
      obtain ⟨s2, e2, k2⟩ := m_slips 20 (-2 + nI k) 1 A s1 hA (h.ms (f3.trans k1))
      rw [if_neg (hc k hk), e1, ob_s, e2, ob_s]
      exact ⟨_, rfl, s_add k, rfl, (f3.trans k1).trans k2⟩
    · rintro ⟨y, z, τ⟩ ⟨f1, f2, f3⟩
      dsimp only at f1 f2 f3
      subst f1
      exact ⟨(y, τ), rfl, f2, f3⟩
  obtain ⟨r, e, r1, r2⟩ := key
  exact ⟨r.2, by rw [e, ← r1], r2⟩
theorem m_dg4 {A : AbS} (x : Int64) (σ : St) (hA : OKA A) (h : IM A σ) : ∃ σ', lpc (fun s => fX11_digest_b124 s.1 s.2.1 s.2.2) (x, (0 : Int32), σ) = some (sD (fun k => vSafe (nI k) 0 A) (fun k => vSafe (nI k) 1 A) 2 x, σ') ∧ MS σ σ' := by
  have key : ∃ r, lpc (fun s => fX11_digest_b124 s.1 s.2.1 s.2.2) (x, (0 : Int32), σ) = some r ∧ (r.1 = sD (fun k => vSafe (nI k) 0 A) (fun k => vSafe (nI k) 1 A) 2 x ∧ MS σ r.2) := by
    refine lpc_cnt (a := 0) (b := 2) (fun k s => s.2.1 = nI k ∧ s.1 = sD (fun k => vSafe (nI k) 0 A) (fun k => vSafe (nI k) 1 A) k x ∧ MS σ s.2.2) _ (by omega) ?_ ?_ ⟨rfl, rfl, MS.rf⟩
    · rintro k ⟨y, z, τ⟩ _ hk ⟨f1, f2, f3⟩
      dsimp only at f1 f2 f3
      subst f1
      subst f2
      show ∃ s', fX11_digest_b124 (sD _ _ k x) (nI k) τ = some (.inl s') ∧ _
      unfold fX11_digest_b124
      simp only [ltb]
      obtain ⟨s1, e1, k1⟩ := m_safe (nI k) 0 A τ hA (h.ms f3)
      obtain ⟨s2, e2, k2⟩ := m_safe (nI k) 1 A s1 hA (h.ms (f3.trans k1))
      rw [if_neg (show ¬ (2 : Int32) ≤ nI k from nI_ge (b := 2) hk (by omega)), e1, ob_s, e2, ob_s]
      exact ⟨_, rfl, nI_1 k, rfl, (f3.trans k1).trans k2⟩
    · rintro ⟨y, z, τ⟩ ⟨f1, f2, f3⟩
      dsimp only at f1 f2 f3
      subst f1
      exact ⟨(y, τ), rfl, f2, f3⟩
  obtain ⟨r, e, r1, r2⟩ := key
  exact ⟨r.2, by rw [e, ← r1], r2⟩
theorem vAn_w {A : AbS} {k : Nat} (hk : k < ncu (aB A)) : vAnew (nI k) A = wAnew A k := by
  have hcu := cuA A
  unfold vAnew
  rw [ix_nI hk (by omega)]; rfl
theorem m_dg5 {A : AbS} (x : Int64) (σ : St) (hA : OKA A) (h : IM A σ) (p : PSm (aB A) σ) : ∃ σ', lpc (fun s => fX11_digest_b203 s.1 s.2.1 s.2.2) (x, (0 : Int32), σ) = some (fD (fun k => (vAnew (nI k) A).toInt64) (ncu (aB A)) x, σ') ∧ MS σ σ' := by
  have hcu := cuA A
  have key : ∃ r, lpc (fun s => fX11_digest_b203 s.1 s.2.1 s.2.2) (x, (0 : Int32), σ) = some r ∧ (r.1 = fD (fun k => (vAnew (nI k) A).toInt64) (ncu (aB A)) x ∧ Lf [44, 60, 61] σ r.2) := by
    refine lpc_cnt (a := 0) (b := ncu (aB A)) (fun k s => s.2.1 = nI k ∧ s.1 = fD (fun k => (vAnew (nI k) A).toInt64) k x ∧ Lf [44, 60, 61] σ s.2.2) _ (Nat.zero_le _) ?_ ?_ ⟨rfl, rfl, Lf.rf⟩
    · rintro k ⟨y, z, τ⟩ _ hk ⟨f1, f2, f3⟩
      dsimp only at f1 f2 f3
      subst f1
      subst f2
      have hp := p.lf f3.1
      show ∃ s', fX11_digest_b203 (fD _ k x) (nI k) τ = some (.inl s') ∧ _
      unfold fX11_digest_b203
      simp only [ltb]
      obtain ⟨s1, e1, k1⟩ := m_anewOf hA (h.lf f3.1) hp hk
      rw [hp.2.2.1, if_neg (nI_ge hk (by omega)), e1, ob_s, ← vAn_w hk]
      exact ⟨_, rfl, nI_1 k, rfl, f3.trans k1⟩
    · rintro ⟨y, z, τ⟩ ⟨f1, f2, f3⟩
      dsimp only at f1 f2 f3
      subst f1
      have hp := p.lf f3.1
      refine ⟨(y, τ), ?_, f2, f3⟩
      show fX11_digest_b203 y (nI (ncu (aB A))) τ = _
      unfold fX11_digest_b203
      rw [hp.2.2.1, if_pos (Int32.le_refl _)]
  obtain ⟨r, e, r1, r2⟩ := key
  exact ⟨r.2, by rw [e, ← r1], r2.MS (by decide)⟩
theorem m_eveningD {A : AbS} (e : Nat) (w : Int32) (σ : St) (hA : OKA A) (h : IM A σ) (he : e < 60) (g : 0 ≤ w ∧ w ≤ 1) : ∃ σ', fX11_eveningOf (nI e) w σ = some (vEvening (nI e) w A, σ') ∧ MS σ σ' := by
  have g' : gEv (nI e) w := ⟨⟨nI_pos' (by omega), show nI e ≤ (59 : Int32) from nI_le (b := 59) (by omega) (by omega)⟩, g⟩
  unfold vEvening
  rw [if_pos g', nI_clamp (by omega)]
  exact m_eveningOf hA h he
theorem m_primeD {A : AbS} (w : Int32) (σ : St) (hA : OKA A) (h : IM A σ) (g : 0 ≤ w ∧ w ≤ 1) : ∃ σ', fX11_primeOf w σ = some (vPrime w A, σ') ∧ MS σ σ' := by
  unfold vPrime
  rw [if_pos g]
  exact m_primeOf hA h
theorem m_worthD {A : AbS} (w : Int32) (σ : St) (hA : OKA A) (h : IM A σ) (g : 0 ≤ w ∧ w ≤ 1) : ∃ σ', fX11_worthOf w σ = some (vWorth w A, σ') ∧ MS σ σ' := by
  unfold vWorth
  rw [if_pos g]
  exact m_worthOf hA h
theorem m_lookD {A : AbS} (σ : St) (hA : OKA A) (h : IM A σ) : ∃ σ', fX11_lookOf 9 σ = some (vLook 9 A, σ') ∧ MS σ σ' := by
  unfold vLook
  rw [if_pos (by decide)]
  exact m_lookOf (t := 9) hA h (by omega)
theorem m_digest (A : AbS) (σ : St) (hA : OKA A) (h : IM A σ) : ∃ σ', fX11_digest σ = some (vDigest A, σ') ∧ MS σ σ' := by
  have key : DgM σ (vDigest A) (fX11_digest σ) := by
    unfold fX11_digest
    refine mqb MS.rf (m_dg1 h) (fun s1 k1 => ?_)
    refine mqb (v := flOf (aT A)) k1 (by obtain ⟨s, e, k, -⟩ := m_faultNow (h.ms k1); exact ⟨s, e, k⟩) (fun s2 k2 => ?_)
    refine lbb ?_
    refine mqb k2 (m_nd (N := 1) _ s2 hA (h.ms k2) (by omega) (by omega)) (fun s3 k3 => ?_)
    refine mqb k3 (m_nd (N := 10) _ s3 hA (h.ms k3) (by omega) (by omega)) (fun s4 k4 => ?_)
    refine mqb k4 (m_nd (N := 30) _ s4 hA (h.ms k4) (by omega) (by omega)) (fun s5 k5 => ?_)
    refine mqb k5 (m_lineNow A s5 hA (h.ms k5)) (fun s6 k6 => ?_)
    refine lbb ?_
    refine mqb k6 (m_dg3 _ s6 hA (h.ms k6)) (fun s7 k7 => ?_)
    refine mqb k7 (m_dg4 _ s7 hA (h.ms k7)) (fun s8 k8 => ?_)
    refine mqb k8 (m_writeQ 1 A s8 hA (h.ms k8)) (fun s9 k9 => ?_)
    refine lbb ?_
    refine mqb k9 (m_writeQ 2 A s9 hA (h.ms k9)) (fun s10 k10 => ?_)
    refine lbb ?_
    obtain ⟨s11, e11, k11, p11⟩ := m_fewOf (x := 8) hA (h.ms k10) (by decide)
    have k11' := k10.trans k11
    refine mvb (v := (vFew 8 A, s11)) e11 ?_
    refine lbb ?_
    refine mqb k11' (m_dg5 _ s11 hA (h.ms k11') p11) (fun s12 k12 => ?_)
    refine mvb (m_joint 9 12 0) ?_
    refine lbb ?_
    refine mvb (m_joint 9 12 1) ?_
    refine lbb ?_
    refine mqb k12 (m_eveningD 0 0 s12 hA (h.ms k12) (by omega) (by decide)) (fun s13 k13 => ?_)
    refine lbb ?_
    refine mqb k13 (m_eveningD 0 1 s13 hA (h.ms k13) (by omega) (by decide)) (fun s14 k14 => ?_)
    refine lbb ?_
    refine mqb k14 (m_eveningD 9 0 s14 hA (h.ms k14) (by omega) (by decide)) (fun s15 k15 => ?_)
    refine lbb ?_
    refine mqb k15 (m_eveningD 9 1 s15 hA (h.ms k15) (by omega) (by decide)) (fun s16 k16 => ?_)
    refine lbb ?_
    refine mqb k16 (m_primeD 0 s16 hA (h.ms k16) (by decide)) (fun s17 k17 => ?_)
    refine lbb ?_
    refine mqb k17 (m_primeD 1 s17 hA (h.ms k17) (by decide)) (fun s18 k18 => ?_)
    refine lbb ?_
    refine mqb k18 (m_worthD 0 s18 hA (h.ms k18) (by decide)) (fun s19 k19 => ?_)
    refine lbb ?_
    refine mqb k19 (m_worthD 1 s19 hA (h.ms k19) (by decide)) (fun s20 k20 => ?_)
    refine lbb ?_
    refine mqb k20 (m_lookD s20 hA (h.ms k20)) (fun s21 k21 => ?_)
    refine lbb ?_
    refine mvb (v := vWrong 0 A) (m_wrongOf 0 hA (h.ms k21)) ?_
    refine lbb ?_
    refine mvb (v := vWrong 1 A) (m_wrongOf 1 hA (h.ms k21)) ?_
    refine lbb ?_
    refine mqb k21 (m_blame hA (h.ms k21)) (fun s22 k22 => ?_)
    refine lbb ?_
    refine mqb k22 (m_nightOf 7 0 (by decide) (h.ms k22)) (fun s23 k23 => ?_)
    refine lbb ?_
    refine mqb k23 (m_nightOf 7 20 (by decide) (h.ms k23)) (fun s24 k24 => ?_)
    exact ⟨s24, rfl, k24⟩
  exact key
theorem l_digest : ls_digest Inv := fun σ h => ls_mkq vDigest c_digest m_digest σ h
