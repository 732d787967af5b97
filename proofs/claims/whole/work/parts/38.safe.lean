/-! safe -/
theorem sh1 : ∀ n, n < 7 → (1 : Int32) <<< (nI n &&& 31) = nI (2 ^ n) := by decide +kernel
theorem mk_w : ∀ W, W < 64 → ∀ n, n < 7 → (nI W &&& (((1 : Int32) <<< (nI n &&& 31)) - 1)) = nI (W % 2 ^ n) := by decide +kernel
theorem p_bitCount : ∀ W, W < 64 → fJ6_bitCount_0f7a4 (nI W) = some (nI (on W 6)) := by decide +kernel
theorem on_hi : ∀ n, n < 7 → ∀ W, W < 2 ^ n → on W 6 = on W n := by decide +kernel
theorem on_10 : ∀ W, W < 64 → on W 10 = on W 6 := by decide +kernel
theorem on_6 : ∀ W, W < 64 → on W 6 ≤ 6 := by decide +kernel
theorem mb_w : ∀ W, W < 64 → ∀ n, n < 7 → ∀ c, c < n → W % 2 ^ n / 2 ^ c % 2 = W / 2 ^ c % 2 := by decide +kernel
theorem bit_v : ∀ W, W < 64 → ∀ c, c < 10 → ((nI W >>> (nI c &&& 31)) &&& (1 : Int32)) = nI (W / 2 ^ c % 2) := by decide +kernel
theorem p_ones {W : Nat} (hW : W < 64) : fX11_ones (nI W) = some (nI (on W 6)) := by
  unfold fX11_ones
  have := lpc_for (body := fun s : Int32 × Int32 => fX11_ones_b4 (nI W) s.1 s.2) (fun i => (nI (on W i), nI i)) (a := 0) (b := 10) (r := nI (on W 10)) (by omega) (fun i _ hi => by
    show fX11_ones_b4 (nI W) (nI (on W i)) (nI i) = _
    unfold fX11_ones_b4
    rw [if_neg (show ¬ (10 : Int32) ≤ nI i from nI_ge (b := 10) hi (by omega)), bit_v W hW i hi, nI_add, nI_1]
    rfl) rfl
  rw [show ((0 : Int32), (0 : Int32)) = (nI (on W 0), nI 0) from rfl, this, ob_s, on_10 W hW]
theorem bNe {A : AbS} (h : (aB A).length ≠ 0) : bsOf (aT A) ≠ [] := fun e => h (by show (bsOf (aT A)).length = 0; rw [e]; rfl)
theorem p_len1 {A : AbS} (h : (aB A).length ≠ 0) : nI (aB A).length - (1 : Int32) = nI ((aB A).length - 1) := pk_sub (b := 1) (by omega)
theorem cuA (A : AbS) : ncu (aB A) < 7 := by have := (BG_bsOf (aT A)).1.2.2; show ncu (bsOf (aT A)) < 7; omega
abbrev sT (A : AbS) (W : Nat) : Nat := sl (qS A W) ((aB A).length - 1) 10
abbrev sB (A : AbS) (W : Nat) : Nat := sc (qS A W) ((aB A).length - 1)
theorem c_safety {A : AbS} {σ : St} {W : Nat} (hA : OKA A) (h : IC A σ) (hne : (aB A).length ≠ 0) (hW : W < 64) (ho : on W 6 ≤ 3) : ∃ σ', fX10_safety (nI W) σ = some (lN (16 ^ (13 - sB A W) * sT A W), σ') ∧ CS σ σ' := by
  unfold fX10_safety
  obtain ⟨σ', e, l, v⟩ := c_walkS (e := (aB A).length - 1) hA h hW ho (by omega)
  rw [show fX6_valueOf (6 : Int32) σ = some (σ.1 8 6) from p_valueOf (i := 6) (by omega), ob_s, h.2.2.2.1 6 (by omega), h.ps.1, p_len1 hne, e, ob_s, p_chance (i := 10) (by omega) rfl, ob_s, v 10 (by omega)]
  exact ⟨σ', rfl, l⟩
theorem m_safeBy {A : AbS} {σ : St} {W : Nat} (hA : OKA A) (h : IM A σ) (p : PSm (aB A) σ) (hne : (aB A).length ≠ 0) (hW : W < 64) (hc : sB A W ≤ 13) : ∃ σ', fX11_safeBy (nI W) σ = some (lN (sT A W), σ') ∧ Lf [44, 60, 61] σ σ' ∧ σ'.2 44 25 = lN (16 ^ sB A W) := by
  unfold fX11_safeBy
  obtain ⟨σ', e, l, v, a⟩ := m_slS (e := (aB A).length - 1) hA h p hW (by omega) hc
  rw [p.1, p_len1 hne, e, ob_s, v 10 (by omega)]
  exact ⟨σ', rfl, l, a⟩
theorem sl_mask {A : AbS} {W : Nat} (hW : W < 64) : ∀ b, b ≤ (aB A).length → sc (qS A (W % 2 ^ ncu (aB A))) b = sc (qS A W) b ∧ ∀ i, sl (qS A (W % 2 ^ ncu (aB A))) b i = sl (qS A W) b i := by
  refine sl_cg (fun k _ => ⟨rfl, rfl⟩) (fun b hb => ?_) (fun _ _ _ => rfl)
  have key : kdB (bsOf (aT A)) b = 4 → (W % 2 ^ ncu (aB A) / 2 ^ ncu ((bsOf (aT A)).take b) % 2 = W / 2 ^ ncu ((bsOf (aT A)).take b) % 2) := fun q => by
    have h1 := cu_s hb
    rw [if_pos q] at h1
    have h2 : _ ≤ ncu (aB A) := cu_le (bsOf (aT A)) (b + 1)
    exact mb_w W hW _ (cuA A) _ (by omega)
  exact ⟨fun z => ⟨z.1, (key z.1).symm.trans z.2⟩, fun z => ⟨z.1, (key z.1).trans z.2⟩⟩
abbrev gSa (x w : Int32) : Prop := (0 ≤ x ∧ x ≤ 63) ∧ (0 ≤ w ∧ w ≤ 1)
def vSafe (x w : Int32) (A : AbS) : Int64 := if gSa x w then (if on (x.toNatClampNeg % 2 ^ ncu (aB A)) 6 ≤ 3 then (if (aB A).length = 0 then noN else lN (lw (sT A (x.toNatClampNeg % 2 ^ ncu (aB A))) (16 ^ sB A (x.toNatClampNeg % 2 ^ ncu (aB A))) w)) else noB) else noB
theorem len0 {A : AbS} (h : (aB A).length = 0) : nI (aB A).length = 0 := by rw [h]; rfl
theorem lenN {A : AbS} (h : (aB A).length ≠ 0) : ¬ nI (aB A).length = 0 := fun q => h (nI_inj (b := 0) (by have := lenB A; omega) (by omega) q)
theorem c_safe (x w : Int32) (A : AbS) (σ : St) (hA : OKA A) (h : IC A σ) : ∃ σ', fX10_safe x w σ = some (vSafe x w A, σ') ∧ IC A σ' ∧ CM σ σ' := by
  unfold fX10_safe fX10_safe_j17 vSafe
  rw [p_within, ob_s, p_isPart, ob_s]
  by_cases g : gSa x w
  · rw [if_pos g, if_pos g.1, if_neg one_ne, if_pos g.2, if_neg one_ne]
    obtain ⟨W, hW, rfl⟩ := i32_nat (m := 63) (by omega) g.1.1 g.1.2
    simp only [ltb]
    have hlt : W % 2 ^ ncu (aB A) < 64 := Nat.lt_of_le_of_lt (Nat.mod_le _ _) (by omega)
    have ho6 := on_6 _ hlt
    rw [nI_clamp (by omega), h.ps.2.2.1, mk_w W (by omega) _ (cuA A), p_bitCount _ hlt, ob_s, h.ps.1]
    by_cases h3 : on (W % 2 ^ ncu (aB A)) 6 ≤ 3
    · rw [if_pos h3, if_pos (show nI _ ≤ (3 : Int32) from nI_le (b := 3) h3 (by omega))]
      by_cases h0 : (aB A).length = 0
      · rw [if_pos h0, if_pos (len0 h0)]; exact ⟨σ, rfl, h, CM.rf⟩
      · rw [if_neg h0, if_neg (lenN h0)]
        obtain ⟨σ', e, l⟩ := c_safety hA h h0 hlt h3
        rw [e, ob_s]
        dsimp only
        rw [told52 hA hlt (by omega) h3 10, ob_s]
        exact ⟨σ', rfl, h.cs l, l.CM⟩
    · rw [if_neg h3, if_neg (show ¬ nI _ ≤ (3 : Int32) from fun z => h3 ((nI_leI (b := 3) (by omega) (by omega)).mp z))]; exact ⟨σ, rfl, h, CM.rf⟩
  · rw [if_neg g]
    by_cases g1 : 0 ≤ x ∧ x ≤ 63
    · rw [if_pos g1, if_neg one_ne, if_neg (fun z => g ⟨g1, z⟩), if_pos rfl]; exact ⟨σ, rfl, h, CM.rf⟩
    · rw [if_neg g1, if_pos rfl]; exact ⟨σ, rfl, h, CM.rf⟩
theorem m_safe (x w : Int32) (A : AbS) (σ : St) (hA : OKA A) (h : IM A σ) : ∃ σ', fX11_safe x w σ = some (vSafe x w A, σ') ∧ MS σ σ' := by
  unfold fX11_safe fX11_safe_j26 fX11_isSome vSafe
  obtain ⟨σ1, e1, k1, p1⟩ := m_reads h
  rw [e1, ob_s, p_in, ob_s, p1.2.2.1]
  by_cases g1 : 0 ≤ x ∧ x ≤ 63
  · rw [if_pos g1, if_neg one_ne]
    obtain ⟨W, hW, rfl⟩ := i32_nat (m := 63) (by omega) g1.1 g1.2
    have hlt : W % 2 ^ ncu (aB A) < 64 := Nat.lt_of_le_of_lt (Nat.mod_le _ _) (by omega)
    have ho6 := on_6 _ hlt
    rw [nI_clamp (by omega), mk_w W (by omega) _ (cuA A), p_ones hlt, ob_s]
    by_cases h3 : on (W % 2 ^ ncu (aB A)) 6 ≤ 3
    · rw [if_pos h3, if_neg (show ¬ (4 : Int32) ≤ nI _ from nI_ge (b := 4) (by omega) (by omega)), ob_s]
      dsimp only
      rw [if_neg one_ne, p_in, ob_s]
      by_cases g2 : 0 ≤ w ∧ w ≤ 1
      · have g : gSa (nI W) w := ⟨g1, g2⟩
        rw [if_pos g, if_pos g2, if_neg one_ne]
        unfold fX11_safeOf
        rw [p1.1]
        by_cases h0 : (aB A).length = 0
        · rw [if_pos h0, if_pos (len0 h0)]; exact ⟨σ1, rfl, k1⟩
        · rw [if_neg h0, if_neg (lenN h0)]
          obtain ⟨c1, c2⟩ := sl_mask (A := A) (W := W) (by omega) ((aB A).length - 1) (by omega)
          have c1' : sB A (W % 2 ^ ncu (aB A)) = sB A W := c1
          have c2' : sT A (W % 2 ^ ncu (aB A)) = sT A W := c2 10
          have hc : sB A W ≤ 13 := by
            rw [← c1']; exact sc_13 (q := qS A (W % 2 ^ ncu (aB A))) (by show (aB A).length - 1 ≤ (aB A).length; omega) h3
          obtain ⟨σ2, e2, l2, a2⟩ := m_safeBy hA (h.ms k1) p1 h0 (by omega) hc
          rw [e2, ob_s]
          dsimp only
          rw [a2, low52 hA (by omega) (by omega) hc 10, ob_s, ob_s]
          rw [c1', c2']
          exact ⟨σ2, rfl, k1.trans (l2.MS (by decide))⟩
      · rw [if_neg (show ¬ gSa (nI W) w from fun z => g2 z.2), if_neg g2, if_pos rfl]; exact ⟨σ1, rfl, k1⟩
    · rw [if_neg h3, if_pos (show (4 : Int32) ≤ nI _ from nI_le (a := 4) (by omega) (by omega)), ob_s]
      dsimp only
      rw [if_pos rfl]
      refine ⟨σ1, ?_, k1⟩
      split <;> rfl
  · rw [if_neg g1, if_pos rfl, ob_s]
    dsimp only
    rw [if_pos rfl, if_neg (fun z => g1 z.1)]; exact ⟨σ1, rfl, k1⟩
theorem l_safe : ls_safe Inv := fun σ x w h => ls_mkq (vSafe x w) (c_safe x w) (m_safe x w) σ h
