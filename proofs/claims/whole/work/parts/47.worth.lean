/-! worth, look on the reference's side -/
theorem Fr64.MS {σ σ' : St} (h : Fr [64] σ σ') : MS σ σ' := ⟨fun c hc => h.1 c (fun q => hc (by simp at q ⊢; omega)), fun j _ _ _ => by rw [h.1 44 (by decide)], fun c hc => h.2 c (fun q => by simp at q; omega)⟩
theorem m_sum {A : AbS} {σ : St} {S : Nat} {a b c : Int32} (hA : OKA A) (pl : PLr (aP A) (σ.1 44 26) (σ.1 62) (σ.1 63)) (hS : S < 256) : lpc (fun s => fX11_worthOf_b24 a b c (nI S) s.1 s.2 σ) ((0 : Int32), (0 : Int32)) = some (nI (suL (aP A) S)) := by
  have hn := hA.2.2.2.2.2.1.1
  have key : ∃ r, lpc (fun s => fX11_worthOf_b24 a b c (nI S) s.1 s.2 σ) ((0 : Int32), (0 : Int32)) = some r ∧ r = nI (suL (aP A) S) := by
    refine lpc_cnt (a := 0) (b := (aP A).length) (fun k s => s.2 = nI k ∧ s.1 = nI (sm (fun p => if S.testBit p then wrL (aP A) p else 0) k)) _ (Nat.zero_le _) ?_ ?_ ⟨rfl, rfl⟩
    · rintro k ⟨x, y⟩ _ hk ⟨f1, f2⟩
      dsimp only at f1 f2
      subst f1
      subst f2
      show ∃ s', fX11_worthOf_b24 a b c (nI S) (nI _) (nI k) σ = some (.inl s') ∧ _
      unfold fX11_worthOf_b24 fX11_worthOf_j56
      simp only [ltb]
      rw [pl.1, if_neg (nI_ge hk (by omega)), p_isIn8 hS (by omega), ob_s, inb_nI (show k < 8 by omega) (by omega), if_pos rfl, nI_clamp (show k < 2 ^ 31 by omega), (pl.get hk).2, nI_1, nI_add, show ∀ x, nI x + (0 : Int32) = nI (x + 0) from fun x => nI_add x 0, sm_s]
      by_cases q : S.testBit k = true
      · rw [if_pos q, if_neg one_ne, if_pos q]; exact ⟨_, rfl, rfl, rfl⟩
      · rw [if_neg q, if_pos rfl, if_neg q]; exact ⟨_, rfl, rfl, rfl⟩
    · rintro ⟨x, y⟩ ⟨f1, f2⟩
      dsimp only at f1 f2
      subst f1
      refine ⟨x, ?_, f2⟩
      show fX11_worthOf_b24 a b c (nI S) x (nI (aP A).length) σ = _
      unfold fX11_worthOf_b24
      rw [pl.1, if_pos (Int32.le_refl _)]
  obtain ⟨r, e, hr⟩ := key
  rw [e, hr]
theorem m_best {A : AbS} {σ : St} {w : Int32} (hA : OKA A) (h : IM A σ) : ∃ σ' B, fX11_worthOf w σ = some (if w = 0 then nI (fwL (aP A) B) else nI B, σ') ∧ Fr [64] σ σ' ∧ Mx (2 ^ (aP A).length) yes (fwL (aP A)) B := by
  have hn := hA.2.2.2.2.2.1.1
  obtain ⟨h8, h81⟩ := two8 hn
  unfold fX11_worthOf
  have key : ∃ r, lpc (fun s => fX11_worthOf_b7 w s.1 s.2.1 s.2.2.1 s.2.2.2) ((0 : Int32), (0 : Int32), (1 : Int32), σ) = some r ∧ (Fr [64] σ r.2.2 ∧ ∃ B, r.1 = nI B ∧ r.2.1 = nI (fwL (aP A) B) ∧ Mx (2 ^ (aP A).length) yes (fwL (aP A)) B) := by
    refine lpc_cnt (a := 1) (b := 2 ^ (aP A).length) (fun j s => s.2.2.1 = nI j ∧ Fr [64] σ s.2.2.2 ∧ ∃ B, s.1 = nI B ∧ s.2.1 = nI (fwL (aP A) B) ∧ Mx j yes (fwL (aP A)) B) _ h81 ?_ ?_ ⟨rfl, Fr.rf, 0, rfl, by rw [fw0]; rfl, by omega, trivial, fun W hW _ => by rw [show W = 0 by omega]; omega⟩
    · rintro j ⟨x1, x2, x3, τ⟩ _ hj ⟨f1, f2, B, f3, f4, f5⟩
      dsimp only at f1 f2 f3 f4
      subst f1
      subst f3
      subst f4
      have hi : IM A τ := h.ms (Fr64.MS f2)
      have pl := PLr.fr h f2
      have hfe := Mx_fe f5
      have hB := su_le hA B
      have hjs := su_le hA j
      show ∃ s', fX11_worthOf_b7 w (nI B) (nI (fwL (aP A) B)) (nI j) τ = some (.inl s') ∧ _
      unfold fX11_worthOf_b7 fX11_worthOf_j88
      rw [pl.1, tb_sh1 _ (by omega), if_neg (nI_ge hj (by omega)), m_sum hA pl (show j < 256 by omega), ob_s]
      rw [← fw_t hfe] at hB
      have hle : fwL (aP A) j ≤ suL (aP A) j := by
        by_cases q : feas (aP A) j (aP A).length
        · rw [fw_t q]; omega
        · rw [fw_f q]; omega
      by_cases q : suL (aP A) j ≤ fwL (aP A) B
      · rw [if_pos (nI_le q (by omega))]
        exact ⟨_, rfl, nI_1 j, f2, B, rfl, rfl, Mx_keep f5 (Or.inr (by omega))⟩
      · rw [if_neg (fun z => q ((nI_leI (by omega) (by omega)).mp z))]
        by_cases z : feas (aP A) j (aP A).length
        · obtain ⟨τ', e, l, -⟩ := m_looksT hA hi hj z
          rw [e, ob_s]
          dsimp only
          rw [if_pos rfl]
          refine ⟨_, rfl, nI_1 j, f2.trans l, j, rfl, by rw [fw_t z], Mx_new trivial (fun W hW _ => ?_)⟩
          have := f5.2.2 W hW trivial
          rw [fw_t z]
          omega
        · obtain ⟨τ', D, e, l, d, ne⟩ := m_looksF hA hi hj z
          rw [e, ob_s]
          dsimp only
          rw [if_neg (fun y => ne (nI_inj (by omega) (by omega) y))]
          exact ⟨_, rfl, nI_1 j, f2.trans l, B, rfl, rfl, Mx_keep f5 (Or.inr (by rw [fw_f z]; omega))⟩
    · rintro ⟨x1, x2, x3, τ⟩ ⟨f1, f2, B, f3, f4, f5⟩
      dsimp only at f1 f2 f3 f4
      subst f1
      have pl := PLr.fr h f2
      refine ⟨(x1, x2, τ), ?_, f2, B, f3, f4, f5⟩
      show fX11_worthOf_b7 w x1 x2 (nI (2 ^ (aP A).length)) τ = _
      unfold fX11_worthOf_b7
      rw [pl.1, tb_sh1 _ (by omega), if_pos (Int32.le_refl _)]
  obtain ⟨r, e, l, B, r1, r2, mx⟩ := key
  rw [e, ob_s, r1, r2]
  refine ⟨r.2.2, B, ?_, l, mx⟩
  by_cases w0 : w = 0
  · rw [if_pos w0, if_pos w0]
  · rw [if_neg w0, if_neg w0]
theorem m_worthOf {w : Int32} {A : AbS} {σ : St} (hA : OKA A) (h : IM A σ) : ∃ σ', fX11_worthOf w σ = some (wWorth w A, σ') ∧ MS σ σ' := by
  obtain ⟨σ', B, e, l, mx⟩ := m_best (w := w) hA h
  have hwo : WoP A w (if w = 0 then nI (fwL (aP A) B) else nI B) := ⟨B, rfl, mx⟩
  unfold wWorth
  rw [the_eq hwo WoP_u]
  exact ⟨σ', e, Fr64.MS l⟩
theorem m_worth (w : Int32) (A : AbS) (σ : St) (hA : OKA A) (h : IM A σ) : ∃ σ', fX11_worth w σ = some (vWorth w A, σ') ∧ MS σ σ' := by
  unfold fX11_worth vWorth
  rw [p_in, ob_s]
  by_cases g : 0 ≤ w ∧ w ≤ 1
  · obtain ⟨σ', e, k⟩ := m_worthOf (w := w) hA h
    rw [if_pos g, if_pos g, if_neg one_ne, e, ob_s]
    exact ⟨σ', rfl, k⟩
  · rw [if_neg g, if_neg g, if_pos rfl]; exact ⟨σ, rfl, MS.rf⟩
theorem l_worth : ls_worth Inv := fun σ w h => ls_mkq (vWorth w) (c_worth w) (m_worth w) σ h
theorem m_lookOf {t : Nat} {A : AbS} {σ : St} (hA : OKA A) (h : IM A σ) (ht : t < 99) : ∃ σ', fX11_lookOf (nI t) σ = some (wLook t A, σ') ∧ MS σ σ' := by
  unfold fX11_lookOf
  obtain ⟨σ1, B, e1, l1, mx⟩ := m_best (w := 1) hA h
  rw [if_neg one_ne] at e1
  have hi : IM A σ1 := h.ms (Fr64.MS l1)
  obtain ⟨σ2, e2, l2, lk⟩ := m_looksT hA hi mx.1 (Mx_fe mx)
  rw [e1, ob_s]
  dsimp only
  rw [e2, ob_s]
  dsimp only
  rw [inb_nI ht (by omega), if_pos rfl, nI_clamp (show t < 2 ^ 31 by omega)]
  unfold wLook
  rw [the_eq (P := LoP A t) ⟨B, mx, lk t ht⟩ LoP_u]
  exact ⟨σ2, rfl, (Fr64.MS l1).trans (Fr64.MS l2)⟩
theorem m_look (x : Int32) (A : AbS) (σ : St) (hA : OKA A) (h : IM A σ) : ∃ σ', fX11_look x σ = some (vLook x A, σ') ∧ MS σ σ' := by
  unfold fX11_look vLook
  rw [p_in, ob_s]
  by_cases g : 0 ≤ x ∧ x ≤ 98
  · obtain ⟨t, ht, rfl⟩ := i32_nat (m := 98) (by omega) g.1 g.2
    obtain ⟨σ', e, k⟩ := m_lookOf (t := t) hA h (by omega)
    rw [if_pos g, if_pos g, if_neg one_ne, nI_clamp (by omega), e, ob_s]
    exact ⟨σ', rfl, k⟩
  · rw [if_neg g, if_neg g, if_pos rfl]; exact ⟨σ, rfl, MS.rf⟩
theorem l_look : ls_look Inv := fun σ x h => ls_mkq (vLook x) (c_look x) (m_look x) σ h
