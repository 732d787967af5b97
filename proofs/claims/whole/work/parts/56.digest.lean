/-! digest -/
def mix (h x : Int64) : Int64 := (31 : Int64) * h + x
theorem p_mixed (a b : Int64) : fX10_mixed a b = some (mix a b) := rfl
def fD (f : Nat → Int64) : Nat → Int64 → Int64
  | 0, h => h
  | n + 1, h => mix (fD f n h) (f n)
def sD (f g : Nat → Int64) : Nat → Int64 → Int64
  | 0, h => h
  | n + 1, h => mix (mix (sD f g n h) (f n)) (g n)
noncomputable def nD (A : AbS) (h : Int64) (n : Int32) : Int64 := mix (mix (mix (mix (mix h (vWhere n 9 0 A)) (vWhere n 9 1 A)) (vLikely n A).toInt64) (vStrike n 0 A)) (vStrike n 1 A)
noncomputable def nD3 (A : AbS) : Nat → Int64 → Int64
  | 0, h => h
  | k + 1, h => nD A (nD3 A k h) (xa_D.getD k 0)
def DgC {β : Type} (A : AbS) (σ : St) (Z : β) (o : Option (β × St)) : Prop := ∃ σ', o = some (Z, σ') ∧ IC A σ' ∧ CM σ σ'
theorem cqb {α β : Type} {A : AbS} {σ τ : St} {v : α} {Z : β} {f : Option (α × St)} {F : α × St → Option (β × St)} (k0 : CM σ τ) (hf : ∃ σ', f = some (v, σ') ∧ IC A σ' ∧ CM τ σ') (hF : ∀ σ', IC A σ' → CM σ σ' → DgC A σ Z (F (v, σ'))) : DgC A σ Z (f.bind F) := by
  obtain ⟨s, e, i, k⟩ := hf
  rw [e]
  exact hF s i (k0.trans k)
theorem pvb {α β : Type} {A : AbS} {σ : St} {v : α} {Z : β} {f : Option α} {F : α → Option (β × St)} (e : f = some v) (hF : DgC A σ Z (F v)) : DgC A σ Z (f.bind F) := by
  rw [e]; exact hF
theorem mxb {β : Type} {A : AbS} {σ : St} {a b : Int64} {Z : β} {F : Int64 → Option (β × St)} (hF : DgC A σ Z (F (mix a b))) : DgC A σ Z ((fX10_mixed a b).bind F) := hF
noncomputable def d1 (A : AbS) : Int64 := mix (fD (fun k => (vCount (nI k) A).toInt64) 8 17) (flOf (aT A)).toInt64
noncomputable def d2 (A : AbS) : Int64 := mix (nD3 A 3 (d1 A)) (vLine A).toInt64
noncomputable def d3 (A : AbS) : Int64 := sD (fun k => vSlips 20 (-2 + nI k) 0 A) (fun k => vSlips 20 (-2 + nI k) 1 A) 5 (d2 A)
noncomputable def d4 (A : AbS) : Int64 := sD (fun k => vSafe (nI k) 0 A) (fun k => vSafe (nI k) 1 A) 2 (d3 A)
noncomputable def d5 (A : AbS) : Int64 := mix (mix (mix (d4 A) (vWrite 1 A).toInt64) (vWrite 2 A).toInt64) (vFew 8 A).toInt64
noncomputable def d6 (A : AbS) : Int64 := fD (fun k => (vAnew (nI k) A).toInt64) (ncu (aB A)) (d5 A)
noncomputable def d7 (A : AbS) : Int64 := mix (mix (d6 A) (vJoint 9 12 0)) (vJoint 9 12 1)
noncomputable def d8 (A : AbS) : Int64 := sD (fun k => vEvening (nI (9 * k)) 0 A) (fun k => vEvening (nI (9 * k)) 1 A) 2 (d7 A)
noncomputable def d9 (A : AbS) : Int64 := mix (mix (mix (mix (mix (d8 A) (vPrime 0 A).toInt64) (vPrime 1 A).toInt64) (vWorth 0 A).toInt64) (vWorth 1 A).toInt64) (vLook 9 A).toInt64
noncomputable def vDigest (A : AbS) : Int64 := mix (mix (mix (mix (mix (d9 A) (vWrong 0 A).toInt64) (vWrong 1 A).toInt64) (vBlame A).toInt64) (vNight 7 0 A).toInt64) (vNight 7 20 A).toInt64
theorem s_add (k : Nat) : (-2 : Int32) + nI k + 1 = -2 + nI (k + 1) := by rw [Int32.add_assoc, nI_1]
theorem c_dg1 {A : AbS} {σ : St} (h : IC A σ) : lpc (fun s => fX10_digest_b6 s.1 s.2 σ) ((17 : Int64), (0 : Int32)) = some (fD (fun k => (vCount (nI k) A).toInt64) 8 17) := by
  refine lpc_for (body := fun s : Int64 × Int32 => fX10_digest_b6 s.1 s.2 σ) (fun i => (fD (fun k => (vCount (nI k) A).toInt64) i 17, nI i)) (a := 0) (b := 8) (by omega) (fun i _ hi => ?_) rfl
  show fX10_digest_b6 (fD _ i 17) (nI i) σ = _
  unfold fX10_digest_b6
  rw [if_neg (show ¬ (7 : Int32) < nI i from fun z => absurd ((nI_ltI (a := 7) (by omega) (by omega)).mp z) (by omega)), c_count (nI i) h, ob_s, p_mixed, ob_s, nI_1]
  rfl
theorem c_dg2 {A : AbS} {σ : St} {x : Int64} (hA : OKA A) (h : IC A σ) : ∃ σ', lpc (fun s => fX10_digest_b41 s.1 s.2.1 s.2.2) (x, (0 : Int32), σ) = some (nD3 A 3 x, σ') ∧ IC A σ' ∧ CM σ σ' := by
  have key : ∃ r, lpc (fun s => fX10_digest_b41 s.1 s.2.1 s.2.2) (x, (0 : Int32), σ) = some r ∧ (r.1 = nD3 A 3 x ∧ IC A r.2 ∧ CM σ r.2) := by
    refine lpc_cnt (a := 0) (b := 3) (fun k s => s.2.1 = nI k ∧ s.1 = nD3 A k x ∧ IC A s.2.2 ∧ CM σ s.2.2) _ (by omega) ?_ ?_ ⟨rfl, rfl, h, CM.rf⟩
    · rintro k ⟨y, z, τ⟩ _ hk ⟨f1, f2, f3, f4⟩
      dsimp only at f1 f2 f3 f4
      subst f1
      subst f2
      show ∃ s', fX10_digest_b41 (nD3 A k x) (nI k) τ = some (.inl s') ∧ _
      unfold fX10_digest_b41
      simp only [ltb]
      rw [if_neg (show ¬ (3 : Int32) ≤ nI k from nI_ge (b := 3) hk (by omega)), inb_nI hk (by omega), if_pos rfl, nI_clamp (show k < 2 ^ 31 by omega)]
      obtain ⟨s1, e1, i1, k1⟩ := c_where (xa_D.getD k 0) 9 0 A τ hA f3
      obtain ⟨s2, e2, i2, k2⟩ := c_where (xa_D.getD k 0) 9 1 A s1 hA i1
      obtain ⟨s3, e3, i3, k3⟩ := c_likely (xa_D.getD k 0) A s2 hA i2
      obtain ⟨s4, e4, i4, k4⟩ := c_strike (xa_D.getD k 0) 0 A s3 hA i3
      obtain ⟨s5, e5, i5, k5⟩ := c_strike (xa_D.getD k 0) 1 A s4 hA i4
      rw [e1, ob_s, p_mixed, ob_s, e2, ob_s, p_mixed, ob_s, e3, ob_s, p_mixed, ob_s, e4, ob_s, p_mixed, ob_s, e5, ob_s, p_mixed, ob_s]
      exact ⟨_, rfl, nI_1 k, rfl, i5, ((((f4.trans k1).trans k2).trans k3).trans k4).trans k5⟩
    · rintro ⟨y, z, τ⟩ ⟨f1, f2, f3, f4⟩
      dsimp only at f1 f2 f3 f4
      subst f1
      exact ⟨(y, τ), rfl, f2, f3, f4⟩
  obtain ⟨r, e, r1, r2, r3⟩ := key
  exact ⟨r.2, by rw [e, ← r1], r2, r3⟩
theorem c_dg3 {A : AbS} {σ : St} {x : Int64} (hA : OKA A) (h : IC A σ) : ∃ σ', lpc (fun s => fX10_digest_b135 s.1 s.2.1 s.2.2) (x, (-2 : Int32), σ) = some (sD (fun k => vSlips 20 (-2 + nI k) 0 A) (fun k => vSlips 20 (-2 + nI k) 1 A) 5 x, σ') ∧ IC A σ' ∧ CM σ σ' := by
  have key : ∃ r, lpc (fun s => fX10_digest_b135 s.1 s.2.1 s.2.2) (x, (-2 : Int32), σ) = some r ∧ (r.1 = sD (fun k => vSlips 20 (-2 + nI k) 0 A) (fun k => vSlips 20 (-2 + nI k) 1 A) 5 x ∧ IC A r.2 ∧ CM σ r.2) := by
    refine lpc_cnt (a := 0) (b := 5) (fun k s => s.2.1 = -2 + nI k ∧ s.1 = sD (fun k => vSlips 20 (-2 + nI k) 0 A) (fun k => vSlips 20 (-2 + nI k) 1 A) k x ∧ IC A s.2.2 ∧ CM σ s.2.2) _ (by omega) ?_ ?_ ⟨rfl, rfl, h, CM.rf⟩
    · rintro k ⟨y, z, τ⟩ _ hk ⟨f1, f2, f3, f4⟩
      dsimp only at f1 f2 f3 f4
      subst f1
      subst f2
      have hc : ∀ k, k < 5 → ¬ (2 : Int32) < -2 + nI k := by decide
      show ∃ s', fX10_digest_b135 (sD _ _ k x) (-2 + nI k) τ = some (.inl s') ∧ _
      unfold fX10_digest_b135
      obtain ⟨s1, e1, i1, k1⟩ := c_slips 20 (-2 + nI k) 0 A τ hA f3
      obtain ⟨s2, e2, i2, k2⟩ := c_slips 20 (-2 + nI k) 1 A s1 hA i1
      rw [if_neg (hc k hk), e1, ob_s, p_mixed, ob_s, e2, ob_s, p_mixed, ob_s]
      exact ⟨_, rfl, s_add k, rfl, i2, (f4.trans k1).trans k2⟩
    · rintro ⟨y, z, τ⟩ ⟨f1, f2, f3, f4⟩
      dsimp only at f1 f2 f3 f4
      subst f1
      exact ⟨(y, τ), rfl, f2, f3, f4⟩
  obtain ⟨r, e, r1, r2, r3⟩ := key
  exact ⟨r.2, by rw [e, ← r1], r2, r3⟩
theorem c_dg4 {A : AbS} {σ : St} {x : Int64} (hA : OKA A) (h : IC A σ) : ∃ σ', lpc (fun s => fX10_digest_b172 s.1 s.2.1 s.2.2) (x, (0 : Int32), σ) = some (sD (fun k => vSafe (nI k) 0 A) (fun k => vSafe (nI k) 1 A) 2 x, σ') ∧ IC A σ' ∧ CM σ σ' := by
  have key : ∃ r, lpc (fun s => fX10_digest_b172 s.1 s.2.1 s.2.2) (x, (0 : Int32), σ) = some r ∧ (r.1 = sD (fun k => vSafe (nI k) 0 A) (fun k => vSafe (nI k) 1 A) 2 x ∧ IC A r.2 ∧ CM σ r.2) := by
    refine lpc_cnt (a := 0) (b := 2) (fun k s => s.2.1 = nI k ∧ s.1 = sD (fun k => vSafe (nI k) 0 A) (fun k => vSafe (nI k) 1 A) k x ∧ IC A s.2.2 ∧ CM σ s.2.2) _ (by omega) ?_ ?_ ⟨rfl, rfl, h, CM.rf⟩
    · rintro k ⟨y, z, τ⟩ _ hk ⟨f1, f2, f3, f4⟩
      dsimp only at f1 f2 f3 f4
      subst f1
      subst f2
      show ∃ s', fX10_digest_b172 (sD _ _ k x) (nI k) τ = some (.inl s') ∧ _
      unfold fX10_digest_b172
      obtain ⟨s1, e1, i1, k1⟩ := c_safe (nI k) 0 A τ hA f3
      obtain ⟨s2, e2, i2, k2⟩ := c_safe (nI k) 1 A s1 hA i1
      rw [if_neg (show ¬ (1 : Int32) < nI k from fun z => absurd ((nI_ltI (a := 1) (by omega) (by omega)).mp z) (by omega)), e1, ob_s, p_mixed, ob_s, e2, ob_s, p_mixed, ob_s]
      exact ⟨_, rfl, nI_1 k, rfl, i2, (f4.trans k1).trans k2⟩
    · rintro ⟨y, z, τ⟩ ⟨f1, f2, f3, f4⟩
      dsimp only at f1 f2 f3 f4
      subst f1
      exact ⟨(y, τ), rfl, f2, f3, f4⟩
  obtain ⟨r, e, r1, r2, r3⟩ := key
  exact ⟨r.2, by rw [e, ← r1], r2, r3⟩
theorem c_dg5 {A : AbS} {σ : St} {x : Int64} (hA : OKA A) (h : IC A σ) : ∃ σ', lpc (fun s => fX10_digest_b235 s.1 s.2.1 s.2.2) (x, (0 : Int32), σ) = some (fD (fun k => (vAnew (nI k) A).toInt64) (ncu (aB A)) x, σ') ∧ IC A σ' ∧ CM σ σ' := by
  have hcu := cuA A
  have key : ∃ r, lpc (fun s => fX10_digest_b235 s.1 s.2.1 s.2.2) (x, (0 : Int32), σ) = some r ∧ (r.1 = fD (fun k => (vAnew (nI k) A).toInt64) (ncu (aB A)) x ∧ IC A r.2 ∧ CM σ r.2) := by
    refine lpc_cnt (a := 0) (b := ncu (aB A)) (fun k s => s.2.1 = nI k ∧ s.1 = fD (fun k => (vAnew (nI k) A).toInt64) k x ∧ IC A s.2.2 ∧ CM σ s.2.2) _ (Nat.zero_le _) ?_ ?_ ⟨rfl, rfl, h, CM.rf⟩
    · rintro k ⟨y, z, τ⟩ _ hk ⟨f1, f2, f3, f4⟩
      dsimp only at f1 f2 f3 f4
      subst f1
      subst f2
      show ∃ s', fX10_digest_b235 (fD _ k x) (nI k) τ = some (.inl s') ∧ _
      unfold fX10_digest_b235
      obtain ⟨s1, e1, i1, k1⟩ := c_anew (nI k) A τ hA f3
      rw [f3.ps.2.2.1, if_neg (nI_ge hk (by omega)), e1, ob_s, p_mixed, ob_s]
      exact ⟨_, rfl, nI_1 k, rfl, i1, f4.trans k1⟩
    · rintro ⟨y, z, τ⟩ ⟨f1, f2, f3, f4⟩
      dsimp only at f1 f2 f3 f4
      subst f1
      refine ⟨(y, τ), ?_, f2, f3, f4⟩
      show fX10_digest_b235 y (nI (ncu (aB A))) τ = _
      unfold fX10_digest_b235
      rw [f3.ps.2.2.1, if_pos (Int32.le_refl _)]
  obtain ⟨r, e, r1, r2, r3⟩ := key
  exact ⟨r.2, by rw [e, ← r1], r2, r3⟩
theorem c_dg6 {A : AbS} {σ : St} {x : Int64} (hA : OKA A) (h : IC A σ) : ∃ σ', lpc (fun s => fX10_digest_b291 s.1 s.2.1 s.2.2) (x, (0 : Int32), σ) = some (sD (fun k => vEvening (nI (9 * k)) 0 A) (fun k => vEvening (nI (9 * k)) 1 A) 2 x, σ') ∧ IC A σ' ∧ CM σ σ' := by
  have key : ∃ r, lpc (fun s => fX10_digest_b291 s.1 s.2.1 s.2.2) (x, (0 : Int32), σ) = some r ∧ (r.1 = sD (fun k => vEvening (nI (9 * k)) 0 A) (fun k => vEvening (nI (9 * k)) 1 A) 2 x ∧ IC A r.2 ∧ CM σ r.2) := by
    refine lpc_cnt (a := 0) (b := 2) (fun k s => s.2.1 = nI (9 * k) ∧ s.1 = sD (fun k => vEvening (nI (9 * k)) 0 A) (fun k => vEvening (nI (9 * k)) 1 A) k x ∧ IC A s.2.2 ∧ CM σ s.2.2) _ (by omega) ?_ ?_ ⟨rfl, rfl, h, CM.rf⟩
    · rintro k ⟨y, z, τ⟩ _ hk ⟨f1, f2, f3, f4⟩
      dsimp only at f1 f2 f3 f4
      subst f1
      subst f2
      show ∃ s', fX10_digest_b291 (sD _ _ k x) (nI (9 * k)) τ = some (.inl s') ∧ _
      unfold fX10_digest_b291
      obtain ⟨s1, e1, i1, k1⟩ := c_evening (nI (9 * k)) 0 A τ hA f3
      obtain ⟨s2, e2, i2, k2⟩ := c_evening (nI (9 * k)) 1 A s1 hA i1
      rw [if_neg (show ¬ (9 : Int32) < nI (9 * k) from fun z => absurd ((nI_ltI (a := 9) (by omega) (by omega)).mp z) (by omega)), e1, ob_s, p_mixed, ob_s, e2, ob_s, p_mixed, ob_s]
      exact ⟨_, rfl, nI_add (9 * k) 9, rfl, i2, (f4.trans k1).trans k2⟩
    · rintro ⟨y, z, τ⟩ ⟨f1, f2, f3, f4⟩
      dsimp only at f1 f2 f3 f4
      subst f1
      exact ⟨(y, τ), rfl, f2, f3, f4⟩
  obtain ⟨r, e, r1, r2, r3⟩ := key
  exact ⟨r.2, by rw [e, ← r1], r2, r3⟩
theorem c_nightQ (n : Int32) (A : AbS) (σ : St) (g : 0 ≤ n ∧ n ≤ 99) (h : IC A σ) : ∃ σ', fX10_night 7 n σ = some (vNight 7 n A, σ') ∧ IC A σ' ∧ CM σ σ' := by
  obtain ⟨σ', e, k⟩ := c_night 7 n h
  rw [if_pos g] at e
  exact ⟨σ', e, h.cs k, k.CM⟩
theorem c_digest (A : AbS) (σ : St) (hA : OKA A) (h : IC A σ) : DgC A σ (vDigest A) (fX10_digest σ) := by
  unfold fX10_digest
  refine pvb (c_dg1 h) ?_
  refine pvb (v := flOf (aT A)) (by unfold fX10_fault; rw [h.2.1.2]) ?_
  refine mxb ?_
  refine cqb CM.rf (c_dg2 hA h) (fun s1 i1 k1 => ?_)
  refine cqb k1 (c_line A s1 hA i1) (fun s2 i2 k2 => ?_)
  refine mxb ?_
  refine cqb k2 (c_dg3 hA i2) (fun s3 i3 k3 => ?_)
  refine cqb k3 (c_dg4 hA i3) (fun s4 i4 k4 => ?_)
  refine cqb k4 (c_writeQ 1 A s4 hA i4) (fun s5 i5 k5 => ?_)
  refine mxb ?_
  refine cqb k5 (c_writeQ 2 A s5 hA i5) (fun s6 i6 k6 => ?_)
  refine mxb ?_
  refine cqb k6 (c_few 8 A s6 hA i6) (fun s7 i7 k7 => ?_)
  refine mxb ?_
  refine cqb k7 (c_dg5 hA i7) (fun s8 i8 k8 => ?_)
  refine pvb (c_joint 9 12 0) ?_
  refine mxb ?_
  refine pvb (c_joint 9 12 1) ?_
  refine mxb ?_
  refine cqb k8 (c_dg6 hA i8) (fun s9 i9 k9 => ?_)
  refine cqb k9 (c_prime 0 A s9 hA i9) (fun s10 i10 k10 => ?_)
  refine mxb ?_
  refine cqb k10 (c_prime 1 A s10 hA i10) (fun s11 i11 k11 => ?_)
  refine mxb ?_
  refine cqb k11 (c_worth 0 A s11 hA i11) (fun s12 i12 k12 => ?_)
  refine mxb ?_
  refine cqb k12 (c_worth 1 A s12 hA i12) (fun s13 i13 k13 => ?_)
  refine mxb ?_
  refine cqb k13 (c_look 9 A s13 hA i13) (fun s14 i14 k14 => ?_)
  refine mxb ?_
  refine pvb (v := vWrong 0 A) ((c_wrong 0 hA i14).trans (by rw [if_pos (by decide)])) ?_
  refine mxb ?_
  refine pvb (v := vWrong 1 A) ((c_wrong 1 hA i14).trans (by rw [if_pos (by decide)])) ?_
  refine mxb ?_
  refine pvb (c_blame hA i14) ?_
  refine mxb ?_
  refine cqb k14 (c_nightQ 0 A s14 (by decide) i14) (fun s15 i15 k15 => ?_)
  refine mxb ?_
  refine cqb k15 (c_nightQ 20 A s15 (by decide) i15) (fun s16 i16 k16 => ?_)
  refine mxb ?_
  exact ⟨s16, rfl, i16, k16⟩
