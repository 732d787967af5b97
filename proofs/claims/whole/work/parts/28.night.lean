/-! night -/
theorem kd_n {T : List Int32} {b : Nat} (hb : b < (bsOf T).length) : ∃ k : Nat, k ≤ 5 ∧ kdB (bsOf T) b = nI k := by
  have hm : (kdB (bsOf T) b, tuB (bsOf T) b) ∈ bsOf T := List.mem_of_getElem? (bs_at hb)
  rcases (BG_bsOf T).2 _ hm with h | h
  · exact ⟨4, by omega, h.1⟩
  · rcases h.2 with h | h | h | h | h
    · exact ⟨0, by omega, h⟩
    · exact ⟨1, by omega, h⟩
    · exact ⟨2, by omega, h⟩
    · exact ⟨3, by omega, h⟩
    · exact ⟨5, by omega, h⟩
theorem kd_l {T : List Int32} {b : Nat} (hb : b < (bsOf T).length) (h : kdB (bsOf T) b < 3) : ∃ k : Nat, k < 3 ∧ kdB (bsOf T) b = nI k := by
  obtain ⟨k, hk, e⟩ := kd_n hb
  rw [e] at h
  exact ⟨k, (nI_ltI (b := 3) (by omega) (by omega)).mp h, e⟩
def lotN (x : Int32) : Int32 := (x.toUInt32 >>> ((16 : Int32).toUInt32 &&& Int32.toUInt32 31)).toInt32 - (x.toUInt32 >>> ((16 : Int32).toUInt32 &&& Int32.toUInt32 31)).toInt32 / 16 * 16
def stN (A : AbS) (b : Nat) (s : Int32 × Int32) : Int32 × Int32 := if kdB (aB A) b < 3 then (1103515245 * s.1 + 12345, s.2 + (if nI (aM A (kdB (aB A) b).toNatClampNeg) ≤ lotN (1103515245 * s.1 + 12345) then (if nI (aM A (kdB (aB A) b).toNatClampNeg) + nI (aD A (kdB (aB A) b).toNatClampNeg) ≤ lotN (1103515245 * s.1 + 12345) then 0 else 1) else -1)) else s
def itN (A : AbS) : Nat → Int32 × Int32 → Int32 × Int32
  | 0, s => s
  | b + 1, s => stN A b (itN A b s)
def nN (A : AbS) (seed : Int32) : Nat → Int32 × Int32 × Int32
  | 0 => (seed, 0, 0)
  | i + 1 => ((itN A (aB A).length ((nN A seed i).1, 0)).1, (nN A seed i).2.1 + (if (itN A (aB A).length ((nN A seed i).1, 0)).2 = 0 then 1 else 0), (itN A (aB A).length ((nN A seed i).1, 0)).2)
def vNight (seed n : Int32) (A : AbS) : Int32 := if n = 0 then (nN A seed 1).2.2 else (nN A seed n.toNatClampNeg).2.1
theorem i32_a0 (x : Int32) : x + 0 = x := Int32.add_zero x
theorem IC.ms9 {A : AbS} {σ : St} (h : IC A σ) {k : Nat} (hk : k < 3) : fX3_missedOf 9 (nI k) σ = some (nI (aM A k)) ∧ fX3_doubledOf 9 (nI k) σ = some (nI (aD A k)) := by
  rw [p_mis9 hk, p_dou9 hk, (h.2.2.1 k hk).1, (h.2.2.1 k hk).2]
  exact ⟨rfl, rfl⟩
theorem c_slipN {A : AbS} {σ : St} (h : IC A σ) : ∃ σ', fX10_slipOfNight σ = some ((itN A (aB A).length (σ.1 34 0, 0)).2, σ') ∧ Fr [34] σ σ' ∧ σ'.1 34 0 = (itN A (aB A).length (σ.1 34 0, 0)).1 := by
  have hl := lenB A
  have key : ∃ r, lpc (fun s => fX10_slipOfNight_b4 s.1 s.2.1 s.2.2) (0, 0, σ) = some r ∧ (r.1 = (itN A (aB A).length (σ.1 34 0, 0)).2 ∧ Fr [34] σ r.2 ∧ r.2.1 34 0 = (itN A (aB A).length (σ.1 34 0, 0)).1) := by
    refine lpc_cnt (a := 0) (b := (aB A).length) (fun i s => s.2.1 = nI i ∧ s.1 = (itN A i (σ.1 34 0, 0)).2 ∧ Fr [34] σ s.2.2 ∧ s.2.2.1 34 0 = (itN A i (σ.1 34 0, 0)).1) _ (by omega) ?_ ?_ ⟨rfl, rfl, Fr.rf, rfl⟩
    · rintro i ⟨sl, x, τ⟩ _ hi ⟨e1, e2, f, e3⟩
      dsimp only at e1 e2 f e3
      subst e1
      have hτ : IC A τ := h.cs (f.mono (by decide))
      have hst : itN A (i + 1) (σ.1 34 0, 0) = stN A i (itN A i (σ.1 34 0, 0)) := rfl
      show ∃ s', fX10_slipOfNight_b4 sl (nI i) τ = _ ∧ _
      unfold fX10_slipOfNight_b4
      rw [hτ.ps.1, if_neg (nI_ge hi (by omega)), p_isLoose hτ.ps hl hi, ob_s, hst]
      unfold stN
      by_cases hk : kdB (aB A) i < 3
      · rw [if_pos hk, if_neg one_ne, p_kindOf hτ.ps hl hi, ob_s, if_pos hk]
        obtain ⟨k, hk3, ek⟩ := kd_l hi hk
        rw [ek, (hτ.ms9 hk3).1, ob_s, nI_clamp (by omega)]
        unfold fX1_draw
        rw [ob_s]
        have hd : ∀ v, fX3_doubledOf 9 (nI k) (sI τ 34 0 v) = some (nI (aD A k)) := fun v => (IC.ms9 (A := A) (h.cs ((f.trans (Fr_sI (by decide))).mono (by decide))) hk3).2
        rw [e3]
        show ∃ s', (if nI (aM A k) ≤ lotN (1103515245 * (itN A i (σ.1 34 0, 0)).1 + 12345) then (fX3_doubledOf 9 (nI k) (sI τ 34 0 (1103515245 * (itN A i (σ.1 34 0, 0)).1 + 12345))).bind (fun q8 => if (nI (aM A k) + q8) ≤ lotN (1103515245 * (itN A i (σ.1 34 0, 0)).1 + 12345) then fX10_slipOfNight_j86 sl (nI i) (sI τ 34 0 (1103515245 * (itN A i (σ.1 34 0, 0)).1 + 12345)) else fX10_slipOfNight_j86 (sl + 1) (nI i) (sI τ 34 0 (1103515245 * (itN A i (σ.1 34 0, 0)).1 + 12345))) else fX10_slipOfNight_j86 (sl + (-1)) (nI i) (sI τ 34 0 (1103515245 * (itN A i (σ.1 34 0, 0)).1 + 12345))) = _ ∧ _
        rw [hd, ob_s]
        unfold fX10_slipOfNight_j86
        by_cases g1 : nI (aM A k) ≤ lotN (1103515245 * (itN A i (σ.1 34 0, 0)).1 + 12345)
        · rw [if_pos g1, if_pos g1]
          by_cases g2 : nI (aM A k) + nI (aD A k) ≤ lotN (1103515245 * (itN A i (σ.1 34 0, 0)).1 + 12345)
          · rw [if_pos g2, if_pos g2]
            exact ⟨_, rfl, nI_1 _, by rw [i32_a0]; exact e2, f.trans (Fr_sI (by decide)), by simp [g_sI]⟩
          · rw [if_neg g2, if_neg g2]
            exact ⟨_, rfl, nI_1 _, congrArg (· + 1) e2, f.trans (Fr_sI (by decide)), by simp [g_sI]⟩
        · rw [if_neg g1, if_neg g1]
          exact ⟨_, rfl, nI_1 _, congrArg (· + (-1)) e2, f.trans (Fr_sI (by decide)), by simp [g_sI]⟩
      · rw [if_neg hk, if_pos rfl, if_neg hk]
        exact ⟨_, rfl, nI_1 _, e2, f, e3⟩
    · rintro ⟨sl, x, τ⟩ ⟨e1, e2, f, e3⟩
      dsimp only at e1 e2 f e3
      subst e1
      have hτ : IC A τ := h.cs (f.mono (by decide))
      refine ⟨(sl, τ), ?_, e2, f, e3⟩
      show fX10_slipOfNight_b4 sl (nI _) τ = _
      unfold fX10_slipOfNight_b4
      rw [hτ.ps.1, if_pos (Int32.le_refl _)]
  obtain ⟨r, e1, e2, e3, e4⟩ := key
  refine ⟨r.2, ?_, e3, e4⟩
  unfold fX10_slipOfNight
  rw [e1, ob_s, e2]
theorem c_night {A : AbS} {σ : St} (seed n : Int32) (h : IC A σ) : ∃ σ', fX10_night seed n σ = some (if 0 ≤ n ∧ n ≤ 99 then vNight seed n A else -102, σ') ∧ CS σ σ' := by
  unfold fX10_night vNight
  rw [p_within, ob_s]
  by_cases g : 0 ≤ n ∧ n ≤ 99
  · rw [if_pos g, if_pos g, if_neg one_ne]
    have f0 : Fr [34] σ (sI σ 34 0 seed) := Fr_sI (by decide)
    by_cases h0 : n = 0
    · rw [if_pos h0, if_pos h0]
      obtain ⟨σ', e, f, -⟩ := c_slipN (A := A) (h.cs (f0.mono (by decide)))
      rw [e, ob_s]
      refine ⟨σ', ?_, (f0.trans f).mono (by decide)⟩
      rw [show (sI σ 34 0 seed).1 34 0 = seed by simp [g_sI]]
      rfl
    · rw [if_neg h0, if_neg h0]
      obtain ⟨m, hm, rfl⟩ := i32_nat (m := 99) (by omega) g.1 g.2
      rw [nI_clamp (by omega)]
      have key : ∃ r, lpc (fun s => fX10_night_b35 (nI m) s.1 s.2.1 s.2.2) (0, 0, sI σ 34 0 seed) = some r ∧ (r.1 = (nN A seed m).2.1 ∧ Fr [34] σ r.2) := by
        refine lpc_cnt (a := 0) (b := m) (fun i s => s.2.1 = nI i ∧ s.1 = (nN A seed i).2.1 ∧ Fr [34] σ s.2.2 ∧ s.2.2.1 34 0 = (nN A seed i).1) _ (by omega) ?_ ?_ ⟨rfl, rfl, f0, by simp [g_sI]; rfl⟩
        · rintro i ⟨gd, x, τ⟩ _ hi ⟨e1, e2, f, e3⟩
          dsimp only at e1 e2 f e3
          subst e1
          obtain ⟨σ', e, f2, e4⟩ := c_slipN (A := A) (h.cs (f.mono (by decide)))
          rw [e3] at e e4
          show ∃ s', fX10_night_b35 (nI m) gd (nI i) τ = _ ∧ _
          unfold fX10_night_b35 fX10_night_j51
          rw [if_neg (nI_ge hi (by omega)), e, ob_s]
          dsimp only
          have hn : (nN A seed (i + 1)).2.1 = (nN A seed i).2.1 + (if (itN A (aB A).length ((nN A seed i).1, 0)).2 = 0 then 1 else 0) := rfl
          by_cases q : (itN A (aB A).length ((nN A seed i).1, 0)).2 = 0
          · rw [if_pos q]
            exact ⟨_, rfl, nI_1 _, by rw [hn, if_pos q, e2], f.trans f2, e4⟩
          · rw [if_neg q]
            exact ⟨_, rfl, nI_1 _, by rw [hn, if_neg q, e2, i32_a0], f.trans f2, e4⟩
        · rintro ⟨gd, x, τ⟩ ⟨e1, e2, f, e3⟩
          dsimp only at e1 e2 f e3
          subst e1
          refine ⟨(gd, τ), ?_, e2, f⟩
          show fX10_night_b35 (nI m) gd (nI m) τ = _
          unfold fX10_night_b35
          rw [if_pos (Int32.le_refl _)]
      obtain ⟨r, e1, e2, e3⟩ := key
      rw [e1, ob_s, e2]
      exact ⟨_, rfl, e3.mono (by decide)⟩
  · rw [if_neg g, if_neg g, if_pos rfl]
    exact ⟨σ, rfl, Fr.rf⟩
theorem IM.od {A : AbS} {σ : St} (h : IM A σ) {k : Nat} (hk : k < 3) : σ.1 50 k = nI (aM A k) ∧ σ.1 51 k = nI (aD A k) := h.2.1 k hk
theorem m_slipN {A : AbS} {σ : St} {a b c seed : Int32} (h : IM A σ) (p : PSm (aB A) σ) : lpc (fun s => fX11_nightOf_b35 a b c s.1 s.2.1 s.2.2 σ) (seed, 0, 0) = some (itN A (aB A).length (seed, 0)) := by
  have hl := lenB A
  have key : ∃ r, lpc (fun s => fX11_nightOf_b35 a b c s.1 s.2.1 s.2.2 σ) (seed, 0, 0) = some r ∧ r = itN A (aB A).length (seed, 0) := by
    refine lpc_cnt (a := 0) (b := (aB A).length) (fun i s => s = ((itN A i (seed, 0)).1, (itN A i (seed, 0)).2, nI i)) _ (by omega) ?_ ?_ rfl
    · rintro i s _ hi rfl
      have hst : itN A (i + 1) (seed, 0) = stN A i (itN A i (seed, 0)) := rfl
      show ∃ s', fX11_nightOf_b35 a b c (itN A i (seed, 0)).1 (itN A i (seed, 0)).2 (nI i) σ = _ ∧ _
      rw [hst]
      unfold fX11_nightOf_b35 stN fX11_nightOf_j129 fX11_nightOf_j126 fX11_nightOf_j129
      rw [p.1, if_neg (nI_ge hi (by omega)), inb_nI (show i < 100 by omega) (by omega), if_pos rfl, nI_clamp (by omega), (p.2.2.2.at hi).1]
      by_cases hk : kdB (aB A) i < 3
      · rw [if_neg (Int32.not_le.mpr hk), if_pos hk]
        obtain ⟨k, hk3, ek⟩ := kd_l hi hk
        rw [ek, nI_clamp (by omega)]
        simp only [ltb]
        rw [inb_nI hk3 (by omega), if_pos rfl, nI_clamp (by omega), (h.od hk3).1, (h.od hk3).2]
        show ∃ s', (if nI (aM A k) ≤ lotN (1103515245 * (itN A i (seed, 0)).1 + 12345) then (if nI (aM A k) + nI (aD A k) ≤ lotN (1103515245 * (itN A i (seed, 0)).1 + 12345) then _ else _) else _) = _ ∧ _
        by_cases g1 : nI (aM A k) ≤ lotN (1103515245 * (itN A i (seed, 0)).1 + 12345)
        · rw [if_pos g1, if_pos g1]
          by_cases g2 : nI (aM A k) + nI (aD A k) ≤ lotN (1103515245 * (itN A i (seed, 0)).1 + 12345)
          · rw [if_pos g2, if_pos g2]
            exact ⟨_, rfl, by rw [nI_1]⟩
          · rw [if_neg g2, if_neg g2]
            exact ⟨_, rfl, by rw [nI_1]⟩
        · rw [if_neg g1, if_neg g1]
          exact ⟨_, rfl, by rw [nI_1]⟩
      · rw [if_pos (Int32.not_lt.mp hk), if_neg hk]
        exact ⟨_, rfl, by rw [nI_1]⟩
    · rintro s rfl
      refine ⟨_, ?_, rfl⟩
      show fX11_nightOf_b35 a b c _ _ (nI _) σ = _
      unfold fX11_nightOf_b35
      rw [p.1, if_pos (Int32.le_refl _)]
  obtain ⟨r, e1, e2⟩ := key
  rw [e1, e2]
theorem m_nightOf {A : AbS} {σ : St} (seed n : Int32) (g : 0 ≤ n ∧ n ≤ 99) (h : IM A σ) : ∃ σ', fX11_nightOf seed n σ = some (vNight seed n A, σ') ∧ MS σ σ' := by
  obtain ⟨σ', e, k, p⟩ := m_reads h
  have h' := h.ms k
  refine ⟨σ', ?_, k⟩
  obtain ⟨m, hm, rfl⟩ := i32_nat (m := 99) (by omega) g.1 g.2
  have key : ∃ r, lpc (fun s => fX11_nightOf_b15 (nI m) s.1 s.2.1 s.2.2.1 s.2.2.2 σ') (seed, 0, 0, 0) = some r ∧ r = (nN A seed (if m = 0 then 1 else m)).2 := by
    refine lpc_cnt (a := 0) (b := if m = 0 then 1 else m) (fun i s => s = ((nN A seed i).1, (nN A seed i).2.1, (nN A seed i).2.2, nI i)) _ (by omega) ?_ ?_ rfl
    · rintro i s _ hi rfl
      have hb : ∀ x y z, fX11_nightOf_b15 (nI m) x y z (nI i) σ' = fX11_nightOf_j26 (nI m) x y z (nI i) (nI i) (nI (if m = 0 then 1 else m)) σ' := by
        intro x y z
        unfold fX11_nightOf_b15
        by_cases h0 : m = 0
        · rw [if_pos (show nI m = (0 : Int32) from by rw [h0]; rfl), if_pos h0]; rfl
        · rw [if_neg (nI_ne0 (by omega) (by omega)), if_neg h0]
      show ∃ s', fX11_nightOf_b15 (nI m) (nN A seed i).1 (nN A seed i).2.1 (nN A seed i).2.2 (nI i) σ' = _ ∧ _
      rw [hb]
      unfold fX11_nightOf_j26 fX11_nightOf_j147
      rw [if_neg (nI_ge hi (by split <;> omega)), m_slipN h' p, ob_s]
      have hn : nN A seed (i + 1) = ((itN A (aB A).length ((nN A seed i).1, 0)).1, (nN A seed i).2.1 + (if (itN A (aB A).length ((nN A seed i).1, 0)).2 = 0 then 1 else 0), (itN A (aB A).length ((nN A seed i).1, 0)).2) := rfl
      rw [hn]
      by_cases q : (itN A (aB A).length ((nN A seed i).1, 0)).2 = 0
      · rw [if_pos q, if_pos q]
        exact ⟨_, rfl, by rw [nI_1]⟩
      · rw [if_neg q, if_neg q]
        exact ⟨_, rfl, by rw [nI_1]⟩
    · rintro s rfl
      refine ⟨_, ?_, rfl⟩
      show fX11_nightOf_b15 (nI m) _ _ _ (nI _) σ' = _
      unfold fX11_nightOf_b15 fX11_nightOf_j26
      by_cases h0 : m = 0
      · rw [if_pos (show nI m = (0 : Int32) from by rw [h0]; rfl), if_pos h0, if_pos (show (1 : Int32) ≤ nI 1 from Int32.le_refl _)]
      · rw [if_neg (nI_ne0 (by omega) (by omega)), if_neg h0, if_pos (Int32.le_refl _)]
  obtain ⟨r, e1, e2⟩ := key
  unfold fX11_nightOf vNight
  rw [e, ob_s, e1, ob_s, e2, nI_clamp (by omega)]
  by_cases h0 : m = 0
  · rw [if_pos (show nI m = (0 : Int32) from by rw [h0]; rfl), if_pos (show nI m = (0 : Int32) from by rw [h0]; rfl), if_pos h0]
  · rw [if_neg (nI_ne0 (by omega) (by omega)), if_neg (nI_ne0 (by omega) (by omega)), if_neg h0]
theorem l_night : ls_night Inv := fun σ a1 a2 h => ls_mkq (fun A => if 0 ≤ a2 ∧ a2 ≤ 99 then vNight a1 a2 A else -102) (fun A σ hA h => by
    obtain ⟨σ', e, k⟩ := c_night a1 a2 h
    exact ⟨σ', e, h.cs k, CS.CM k⟩) (fun A σ hA h => by
    unfold fX11_night
    rw [p_in, ob_s]
    by_cases g : 0 ≤ a2 ∧ a2 ≤ 99
    · obtain ⟨σ', e, k⟩ := m_nightOf a1 a2 g h
      rw [if_pos g, if_pos g, if_neg one_ne, e, ob_s]
      exact ⟨σ', rfl, k⟩
    · rw [if_neg g, if_neg g, if_pos rfl]
      exact ⟨σ, rfl, MS.rf⟩) σ h
