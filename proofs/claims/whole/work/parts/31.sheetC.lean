/-! copy -/
theorem rI_o {σ : St} {r c : Nat} {f : Nat → Int32} (h : c ≠ r) : (rI σ r f).1 c = σ.1 c := if_neg h
theorem rI_at {σ : St} {r : Nat} {f : Nat → Int32} : (rI σ r f).1 r = f := if_pos rfl
abbrev spn (m : Nat) (i n : Int32) : Prop := 0 ≤ i ∧ 0 ≤ n ∧ i ≤ nI m ∧ n ≤ nI m - i
theorem spn_n {m : Nat} {i n : Int32} (hm : m ≤ 48) (h : spn m i n) : ∃ a b : Nat, a + b ≤ m ∧ i = nI a ∧ n = nI b := by
  obtain ⟨h1, h2, h3, h4⟩ := h
  obtain ⟨a, ha, rfl⟩ := i32_nat (m := m) (by omega) h1 h3
  rw [pk_sub ha] at h4
  obtain ⟨b, hb, rfl⟩ := i32_nat (m := m - a) (by omega) h2 h4
  exact ⟨a, b, by omega, rfl, rfl⟩
theorem spn_of {m a b : Nat} (hm : m ≤ 48) (h : a + b ≤ m) : spn m (nI a) (nI b) := ⟨nI_pos' (by omega), nI_pos' (by omega), nI_le (by omega) (by omega), by rw [pk_sub (by omega)]; exact nI_le (by omega) (by omega)⟩
theorem spn_l {m : Nat} {i n : Int32} (hm : m ≤ 48) (hi : ¬ i < 0) (hn : ¬ n < 0) : (i.toInt64 + n.toInt64 ≤ (nI m).toInt64) ↔ spn m i n := by
  obtain ⟨a, ha, rfl⟩ := nI_of hi
  obtain ⟨b, hb, rfl⟩ := nI_of hn
  rw [nI_l ha, nI_l hb, nI_l (by omega), lN_add, pk_lLE (by omega) (by omega)]
  refine ⟨fun h => spn_of hm h, fun h => ?_⟩
  obtain ⟨a', b', h1, h2, h3⟩ := spn_n hm h
  rw [nI_inj ha (by omega) h2, nI_inj hb (by omega) h3]
  exact h1
def cpF (f g : Nat → Int32) (i j n : Nat) : Nat → Int32 := fun x => if j ≤ x ∧ x < j + n then f (i + (x - j)) else g x
def vCopy (x i y j n : Int32) (A : AbS) : Int32 := Option.elim (ix 4 x) (-2) (fun s => Option.elim (ix 4 y) (-2) (fun t => if (aH A s).1 = true ∧ (aH A t).1 = true then (if (aH A s).2.1 = (aH A t).2.1 then (if spn (aH A s).2.2.1 i n ∧ spn (aH A t).2.2.1 j n then 1 else -10 - 2) else -10 - 4) else -10 - 1))
def uCopy (x i y j n : Int32) (A : AbS) : AbS := Option.elim (ix 4 x) A (fun s => Option.elim (ix 4 y) A (fun t => if (aH A s).1 = true ∧ (aH A t).1 = true then (if (aH A s).2.1 = (aH A t).2.1 then (if spn (aH A s).2.2.1 i n ∧ spn (aH A t).2.2.1 j n then (A.1, aR A, aF A, aP A, putH (aH A) t ((aH A t).1, (aH A t).2.1, (aH A t).2.2.1, cpF (aH A s).2.2.2 (aH A t).2.2.2 i.toNatClampNeg j.toNatClampNeg n.toNatClampNeg), aG A) else uFd 2 A) else uFd 4 A) else uFd 1 A))
theorem ok_copy (x i y j n : Int32) (A : AbS) (h : OKA A) : OKA (uCopy x i y j n A) := by
  unfold uCopy
  cases hx : ix 4 x with
  | none => exact h
  | some s =>
    cases hy : ix 4 y with
    | none => exact h
    | some t =>
      show OKA (if (aH A s).1 = true ∧ (aH A t).1 = true then _ else _)
      split
      · split
        · split
          · exact ok_H h (h.2.2.2.2.2.2 t (ix_some hy (by omega)).1)
          · exact h
        · exact h
      · exact h
theorem c_copy (x i y j n : Int32) (A : AbS) (σ : St) (hA : OKA A) (h : IC A σ) : ∃ σ', fX10_copy x i y j n σ = some (vCopy x i y j n A, σ') ∧ IC (uCopy x i y j n A) σ' ∧ CM σ σ' := by
  have fnd : ∀ f : Int32, ∃ σ', ((fX10_found f σ).bind fun q => some (q.1, q.2)) = some (-10 - f, σ') ∧ IC (uFd f A) σ' ∧ CM σ σ' := by
    intro f
    obtain ⟨σ', e, i', k⟩ := c_found f h
    rw [e, ob_s]
    exact ⟨σ', rfl, i', k⟩
  unfold fX10_copy fX10_copy_j24 fX10_copy_j43 fX10_copy_j91 vCopy uCopy
  rcases sh_cases x with q | ⟨s, hs, rfl⟩
  · rw [p_sheetAt0 q, ob_s, sh_none q]
    rcases sh_cases y with q2 | ⟨t, ht, rfl⟩
    · rw [p_sheetAt0 q2, ob_s]
      exact ⟨σ, rfl, h, CM.rf⟩
    · rw [p_sheetAt1 ht, ob_s]
      refine ⟨σ, ?_, h, CM.rf⟩
      show (if isS (36 + 2 * t) = true then _ else _) = _
      rw [if_pos (isS_s ht)]; rfl
  · rw [p_sheetAt1 hs, ob_s, ix_nI hs (by omega)]
    rcases sh_cases y with q2 | ⟨t, ht, rfl⟩
    · rw [p_sheetAt0 q2, ob_s, sh_none q2]
      refine ⟨σ, ?_, h, CM.rf⟩
      show (if isS (36 + 2 * s) = true then _ else _) = _
      rw [if_pos (isS_s hs)]; rfl
    · rw [p_sheetAt1 ht, ob_s, ix_nI ht (by omega)]
      have hms := hA.2.2.2.2.2.2 s hs
      have hmt := hA.2.2.2.2.2.2 t ht
      show ∃ σ', (if isS (36 + 2 * s) = true then (if isS (36 + 2 * t) = true then _ else _) else _) = some (if (aH A s).1 = true ∧ (aH A t).1 = true then _ else _, σ') ∧ IC (if (aH A s).1 = true ∧ (aH A t).1 = true then _ else _) σ' ∧ _
      obtain ⟨s1, s2, s3, s4⟩ := h.hs s hs
      obtain ⟨t1, t2, t3, t4⟩ := h.hs t ht
      rw [if_pos (isS_s hs), if_pos (isS_s ht), s1, t1, s2, t2, p_hasItems hs h.hs, p_hasItems ht h.hs, ob_s, ob_s]
      by_cases g1 : (aH A s).1 = true
      · rw [if_pos g1, if_pos rfl]
        by_cases g2 : (aH A t).1 = true
        · have gg := And.intro g1 g2
          rw [if_pos g2, if_pos rfl, if_pos gg, if_pos gg]
          by_cases g3 : (aH A s).2.1 = (aH A t).2.1
          · rw [if_pos g3, if_pos g3, if_pos g3]
            by_cases g4 : spn (aH A s).2.2.1 i n
            · rw [if_pos g4, if_neg one_ne]
              by_cases g5 : spn (aH A t).2.2.1 j n
              · have g45 := And.intro g4 g5
                rw [if_pos g5, if_neg one_ne, if_pos g45, if_pos g45]
                obtain ⟨a, b, hab, rfl, rfl⟩ := spn_n hms g4
                obtain ⟨c, d, hcd, rfl, e⟩ := spn_n hmt g5
                have hbd := nI_inj (by omega) (by omega) e
                subst hbd
                rw [nI_clamp (show a < 2 ^ 31 by omega), nI_clamp (show b < 2 ^ 31 by omega), nI_clamp (show c < 2 ^ 31 by omega), if_pos]
                · refine ⟨_, rfl, h.sh (fun k hk h0 => rI_o (by omega)) (by rw [rI_o (by omega)]) rfl (by rw [rI_o (by omega)]; exact h.2.2.2.2.2.2.2.2.2.1) (SHc_put h.hs (fun k _ _ h1 h2 => rI_o h2) (by rw [rI_o (by omega)]; exact t1) (by rw [rI_o (by omega)]; exact t2) (by rw [rI_o (by omega)]; exact t3) (fun k hk => ?_)), (Fr_rI (S := [36 + 2 * t + 1]) (by simp)).CM (fun c hc => by simp at hc; omega)⟩
                  rw [rI_at]
                  show _ = cpF _ _ a c b k
                  unfold cpF
                  by_cases hk2 : c ≤ k ∧ k < c + b
                  · rw [if_pos hk2, pk_cpy_in hk2.1 hk2.2]
                    exact s4 _ (by omega)
                  · rw [if_neg hk2, pk_cpy_out (by omega)]
                    exact t4 k hk
                · unfold cpk
                  rw [nI_clamp (show a < 2 ^ 31 by omega), nI_clamp (show b < 2 ^ 31 by omega), nI_clamp (show c < 2 ^ 31 by omega)]
                  simp only [Bool.and_eq_true, decide_eq_true_eq]
                  exact ⟨nI_pos' (by omega), nI_pos' (by omega), nI_pos' (by omega), by omega, by omega⟩
              · rw [if_neg g5, if_pos rfl, if_neg (fun q => g5 q.2), if_neg (fun q => g5 q.2)]
                exact fnd 2
            · rw [if_neg g4, if_pos rfl, if_neg (fun q => g4 q.1), if_neg (fun q => g4 q.1)]
              exact fnd 2
          · rw [if_neg g3, if_neg g3, if_neg g3]
            exact fnd 4
        · rw [if_neg g2, if_neg one_ne, if_neg (fun q => g2 q.2), if_neg (fun q => g2 q.2)]
          exact fnd 1
      · rw [if_neg g1, if_neg one_ne, if_neg (fun q => g1 q.1), if_neg (fun q => g1 q.1)]
        exact fnd 1
theorem m_copyL {σ : St} {s a t c b : Nat} (hs : s < 4) (ht : t < 4) (ha : a + b ≤ 48) (hc : c + b ≤ 48) : ∃ σ', ((lpc (fun z => fX11_copy_b120 (nI s) (nI a) (nI t) (nI c) (nI b) z.1 z.2) (0, σ)).bind fun r15 => (lpc (fun z => fX11_copy_b157 (nI t) (nI c) (nI b) z.1 z.2) (0, r15)).bind fun r16 => some ((1 : Int32), r16)) = some (1, σ') ∧ Fr [68, 69] σ σ' ∧ ∀ x, σ'.1 68 x = if 48 * t + c ≤ x ∧ x < 48 * t + c + b then σ.1 68 (48 * s + a + (x - (48 * t + c))) else σ.1 68 x := by
  have ad : ∀ p q r : Nat, 48 * nI p + nI q + nI r = nI (48 * p + q + r) := by
    intro p q r
    rw [show (48 : Int32) = nI 48 from rfl, pk_mul, nI_add, nI_add]
  have k1 : ∃ r, lpc (fun z => fX11_copy_b120 (nI s) (nI a) (nI t) (nI c) (nI b) z.1 z.2) (0, σ) = some r ∧ (Fr [69] σ r ∧ ∀ k, k < b → r.1 69 k = σ.1 68 (48 * s + a + k)) := by
    refine lpc_cnt (a := 0) (b := b) (fun k z => z.1 = nI k ∧ Fr [69] σ z.2 ∧ ∀ i, i < k → z.2.1 69 i = σ.1 68 (48 * s + a + i)) _ (by omega) ?_ ?_ ⟨rfl, Fr.rf, fun i hi => absurd hi (Nat.not_lt_zero _)⟩
    · rintro k ⟨y, u⟩ _ hk ⟨e1, e2, e3⟩
      dsimp only at e1 e2 e3
      subst e1
      refine ⟨(nI (k + 1), sI u 69 k (σ.1 68 (48 * s + a + k))), ?_, rfl, e2.trans (Fr_sI (by decide)), fun i hi => ?_⟩
      · show fX11_copy_b120 (nI s) (nI a) (nI t) (nI c) (nI b) (nI k) u = _
        unfold fX11_copy_b120
        rw [if_neg (nI_ge hk (by omega)), ad, inb_nI (show 48 * s + a + k < 192 by omega) (by omega), if_pos rfl, inb_nI (show k < 48 by omega) (by omega), if_pos rfl, nI_clamp (by omega), nI_clamp (by omega), nI_1, e2.1 68 (by decide)]
      · show (sI u 69 k _).1 69 i = _
        rw [g_sI, if_pos rfl]
        by_cases q : i = k
        · rw [if_pos q, q]
        · rw [if_neg q]; exact e3 i (by omega)
    · rintro ⟨y, u⟩ ⟨e1, e2, e3⟩
      dsimp only at e1 e2 e3
      subst e1
      refine ⟨u, ?_, e2, e3⟩
      show fX11_copy_b120 (nI s) (nI a) (nI t) (nI c) (nI b) (nI b) u = _
      unfold fX11_copy_b120
      rw [if_pos (Int32.le_refl _)]
  obtain ⟨r, e, f1, f2⟩ := k1
  have k2 : ∃ z, lpc (fun z => fX11_copy_b157 (nI t) (nI c) (nI b) z.1 z.2) (0, r) = some z ∧ (Fr [68] r z ∧ ∀ x, z.1 68 x = if 48 * t + c ≤ x ∧ x < 48 * t + c + b then σ.1 68 (48 * s + a + (x - (48 * t + c))) else σ.1 68 x) := by
    refine lpc_cnt (a := 0) (b := b) (fun k z => z.1 = nI k ∧ Fr [68] r z.2 ∧ ∀ x, z.2.1 68 x = if 48 * t + c ≤ x ∧ x < 48 * t + c + k then σ.1 68 (48 * s + a + (x - (48 * t + c))) else σ.1 68 x) _ (by omega) ?_ ?_ ⟨rfl, Fr.rf, fun x => ?_⟩
    · rintro k ⟨y, u⟩ _ hk ⟨e1, e2, e3⟩
      dsimp only at e1 e2 e3
      subst e1
      refine ⟨(nI (k + 1), sI u 68 (48 * t + c + k) (σ.1 68 (48 * s + a + k))), ?_, rfl, e2.trans (Fr_sI (by decide)), fun x => ?_⟩
      · show fX11_copy_b157 (nI t) (nI c) (nI b) (nI k) u = _
        unfold fX11_copy_b157
        rw [if_neg (nI_ge hk (by omega)), inb_nI (show k < 48 by omega) (by omega), if_pos rfl, ad, inb_nI (show 48 * t + c + k < 192 by omega) (by omega), if_pos rfl, nI_clamp (by omega), nI_clamp (by omega), nI_1, e2.1 69 (by decide), f2 k hk]
      · show (sI u 68 _ _).1 68 x = _
        rw [g_sI, if_pos rfl]
        by_cases q : x = 48 * t + c + k
        · rw [if_pos q, if_pos (by omega)]
          exact congrArg (σ.1 68) (by omega)
        · rw [if_neg q, e3 x]
          by_cases q2 : 48 * t + c ≤ x ∧ x < 48 * t + c + k
          · rw [if_pos q2, if_pos (by omega)]
          · rw [if_neg q2, if_neg (by omega)]
    · rintro ⟨y, u⟩ ⟨e1, e2, e3⟩
      dsimp only at e1 e2 e3
      subst e1
      refine ⟨u, ?_, e2, e3⟩
      show fX11_copy_b157 (nI t) (nI c) (nI b) (nI b) u = _
      unfold fX11_copy_b157
      rw [if_pos (Int32.le_refl _)]
    · show r.1 68 x = _
      rw [if_neg (by omega), f1.1 68 (by decide)]
  obtain ⟨z, e2, g1, g2⟩ := k2
  exact ⟨z, by rw [e, ob_s, e2, ob_s], (f1.mono (by decide)).trans (g1.mono (by decide)), g2⟩
theorem m_copy (x i y j n : Int32) (A : AbS) (σ : St) (hA : OKA A) (h : IM A σ) : ∃ σ', fX11_copy x i y j n σ = some (vCopy x i y j n A, σ') ∧ IM (uCopy x i y j n A) σ' ∧ MC σ σ' := by
  have fnd : ∀ f : Int32, ∃ σ', ((fX11_meets f σ).bind fun q => some (q.1, q.2)) = some (-10 - f, σ') ∧ IM (uFd f A) σ' ∧ MC σ σ' := by
    intro f
    obtain ⟨σ', e, i', k⟩ := m_meets f h
    rw [e, ob_s]
    exact ⟨σ', rfl, i', k⟩
  unfold fX11_copy fX11_copy_j14 fX11_copy_j35 fX11_copy_j111 vCopy uCopy
  rw [p_isSheet, ob_s, p_isSheet, ob_s]
  rcases sh_cases x with q | ⟨s, hs, rfl⟩
  · rw [if_neg (sh_out q), if_pos rfl, sh_none q]
    exact ⟨σ, rfl, h, MC.rf⟩
  · rw [if_pos (sh_in hs), if_neg one_ne, ix_nI hs (by omega)]
    rcases sh_cases y with q2 | ⟨t, ht, rfl⟩
    · rw [if_neg (sh_out q2), if_pos rfl, sh_none q2]
      exact ⟨σ, rfl, h, MC.rf⟩
    · rw [if_pos (sh_in ht), if_neg one_ne, ix_nI ht (by omega)]
      have hms := hA.2.2.2.2.2.2 s hs
      have hmt := hA.2.2.2.2.2.2 t ht
      show ∃ σ', _ = some (if (aH A s).1 = true ∧ (aH A t).1 = true then _ else _, σ') ∧ IM (if (aH A s).1 = true ∧ (aH A t).1 = true then _ else _) σ' ∧ _
      obtain ⟨s1, s2, s3, s4⟩ := h.hs s hs
      obtain ⟨t1, t2, t3, t4⟩ := h.hs t ht
      rw [inb_nI hs (by omega), if_pos rfl, inb_nI ht (by omega), if_pos rfl, nI_clamp (show s < 2 ^ 31 by omega), nI_clamp (show t < 2 ^ 31 by omega), s1, t1, s2, t2, s3, t3]
      by_cases g1 : (aH A s).1 = true
      · rw [if_pos g1, if_neg one_ne]
        by_cases g2 : (aH A t).1 = true
        · have gg := And.intro g1 g2
          rw [if_pos g2, if_neg one_ne, if_pos gg, if_pos gg]
          by_cases g3 : (aH A s).2.1 = (aH A t).2.1
          · rw [if_pos g3, if_pos g3, if_pos g3]
            by_cases gi : i < 0
            · have ng : ¬ (spn (aH A s).2.2.1 i n ∧ spn (aH A t).2.2.1 j n) := fun q => absurd gi (Int32.not_lt.mpr q.1.1)
              rw [if_pos gi, if_neg ng, if_neg ng]; exact fnd 2
            rw [if_neg gi]
            by_cases gj : j < 0
            · have ng : ¬ (spn (aH A s).2.2.1 i n ∧ spn (aH A t).2.2.1 j n) := fun q => absurd gj (Int32.not_lt.mpr q.2.1)
              rw [if_pos gj, if_neg ng, if_neg ng]; exact fnd 2
            rw [if_neg gj]
            by_cases gn : n < 0
            · have ng : ¬ (spn (aH A s).2.2.1 i n ∧ spn (aH A t).2.2.1 j n) := fun q => absurd gn (Int32.not_lt.mpr q.1.2.1)
              rw [if_pos gn, if_neg ng, if_neg ng]; exact fnd 2
            rw [if_neg gn]
            by_cases g4 : (nI (aH A s).2.2.1).toInt64 < i.toInt64 + n.toInt64
            · have ng : ¬ (spn (aH A s).2.2.1 i n ∧ spn (aH A t).2.2.1 j n) := fun q => absurd ((spn_l hms gi gn).mpr q.1) (Int64.not_le.mpr g4)
              rw [if_pos g4, if_neg ng, if_neg ng]; exact fnd 2
            rw [if_neg g4]
            by_cases g5 : j.toInt64 + n.toInt64 ≤ (nI (aH A t).2.2.1).toInt64
            · have q4 := (spn_l hms gi gn).mp (Int64.not_lt.mp g4)
              have q5 := (spn_l hmt gj gn).mp g5
              have g45 := And.intro q4 q5
              rw [if_pos g5, if_pos g45, if_pos g45]
              obtain ⟨a, b, hab, rfl, rfl⟩ := spn_n hms q4
              obtain ⟨c, d, hcd, rfl, e⟩ := spn_n hmt q5
              have hbd := nI_inj (by omega) (by omega) e
              subst hbd
              rw [nI_clamp (show a < 2 ^ 31 by omega), nI_clamp (show b < 2 ^ 31 by omega), nI_clamp (show c < 2 ^ 31 by omega)]
              obtain ⟨σ', e, f, hx⟩ := m_copyL (σ := σ) (s := s) (a := a) (t := t) (c := c) (b := b) hs ht (by omega) (by omega)
              refine ⟨σ', e, h.sh (fun c h1 h2 => f.1 c (by simp; omega)) (fun j _ => by rw [f.1 44 (by decide)]) (by rw [f.1 44 (by decide)]; exact h.2.2.2.2.2.2.2.2) (SHm_put h.hs (fun u hu hne => ⟨by rw [f.1 65 (by decide)], by rw [f.1 66 (by decide)], by rw [f.1 67 (by decide)], fun k hk => ?_⟩) (by rw [f.1 65 (by decide)]; exact t1) (by rw [f.1 66 (by decide)]; exact t2) (by rw [f.1 67 (by decide)]; exact t3) (fun k hk => ?_)), f.MC (by decide)⟩
              · rw [hx, if_neg (by omega)]
              · rw [hx]
                show _ = cpF _ _ a c b k
                unfold cpF
                by_cases q : c ≤ k ∧ k < c + b
                · rw [if_pos q, if_pos (by omega), ← s4 (a + (k - c)) (by omega)]
                  exact congrArg (σ.1 68) (by omega)
                · rw [if_neg q, if_neg (by omega)]; exact t4 k hk
            · have ng : ¬ (spn (aH A s).2.2.1 i n ∧ spn (aH A t).2.2.1 j n) := fun q => g5 ((spn_l hmt gj gn).mpr q.2)
              rw [if_neg g5, if_neg ng, if_neg ng]; exact fnd 2
          · rw [if_neg g3, if_neg g3, if_neg g3]
            exact fnd 4
        · have ng : ¬ ((aH A s).1 = true ∧ (aH A t).1 = true) := fun q => g2 q.2
          rw [if_neg g2, if_pos rfl, if_neg ng, if_neg ng]
          exact fnd 1
      · have ng : ¬ ((aH A s).1 = true ∧ (aH A t).1 = true) := fun q => g1 q.1
        rw [if_neg g1, if_pos rfl, if_neg ng, if_neg ng]
        exact fnd 1
theorem l_copy : ls_copy Inv := fun σ a1 a2 a3 a4 a5 h => ls_mk (vCopy a1 a2 a3 a4 a5) (uCopy a1 a2 a3 a4 a5) (ok_copy a1 a2 a3 a4 a5) (c_copy a1 a2 a3 a4 a5) (m_copy a1 a2 a3 a4 a5) σ h
