/-! the reference's walk -/
theorem mi_lf {σ σ' : St} {a b : Int32} (e : σ'.1 = σ.1) : fX11_missedIn a b σ' = fX11_missedIn a b σ := by
  unfold fX11_missedIn fX11_missedIn_j40
  rw [e]
theorem p_slipLoose {σ : St} {k : Nat} {ev : Int32} {m d t : Nat} {g : Nat → Nat} (hk : k < 3) (hmd : m + d ≤ 16) (hm : fX11_missedIn (nI k) ev σ = some (nI m)) (hd : σ.1 51 k = nI d) (hg : ∀ i, i < 21 → σ.2 60 i = lN (g i)) (ht : σ.2 44 25 = lN t) : ∃ σ', fX11_slipLoose (nI k) ev σ = some σ' ∧ Lf [44, 60, 61] σ σ' ∧ (∀ i, i < 21 → σ'.2 60 i = lN (dr g m d i)) ∧ σ'.2 44 25 = lN (t * 16) := by
  unfold fX11_slipLoose
  rw [hm, ob_s, inb_nI hk (by omega), if_pos rfl, nI_clamp (by omega), hd]
  simp only [ltb]
  have key : ∃ r, lpc (fun s => fX11_slipLoose_b18 (nI m) (nI d) s.1 s.2) (0, σ) = some r ∧ (Lf [61] σ r ∧ ∀ j, j < 21 → r.2 61 j = lN (dr g m d j)) := by
    refine lpc_cnt (a := 0) (b := 21) (fun k s => s.1 = nI k ∧ Lf [61] σ s.2 ∧ (∀ j, j < k → s.2.2 61 j = lN (dr g m d j))) _ (by omega) ?_ ?_ ⟨rfl, Lf.rf, fun j h => absurd h (Nat.not_lt_zero _)⟩
    · rintro k ⟨x, τ⟩ _ hk ⟨e1, e2, e3⟩
      dsimp only at e1 e2 e3
      subst e1
      have h60 : ∀ i, i < 21 → τ.2 60 i = lN (g i) := fun i hi => by rw [e2.2 60 (by decide)]; exact hg i hi
      have j72 : ∀ a b : Nat, fX11_slipLoose_j72 (nI m) (nI d) (nI k) (lN a) (lN b) τ = some (.inl (nI k + 1, sL τ 61 k (lN (g k * (16 - m - d) + a + b)))) := by
        intro a b
        unfold fX11_slipLoose_j72
        rw [inb_nI (show k < 21 by omega) (by omega), if_pos rfl, nI_clamp (by omega), h60 k hk, show (16 : Int32) - nI m = nI (16 - m) from pk_sub (a := 16) (by omega), pk_sub (by omega), lmul _ _ (by omega), lN_add, lN_add]
      have j48 : ∀ a : Nat, fX11_slipLoose_j48 (nI m) (nI d) (nI k) (lN a) τ = some (.inl (nI k + 1, sL τ 61 k (lN (g k * (16 - m - d) + a + if 0 < k then g (k - 1) * d else 0)))) := by
        intro a
        unfold fX11_slipLoose_j48
        by_cases q : 0 < k
        · rw [if_neg (nI_nle q (by omega)), show nI k - (1 : Int32) = nI (k - 1) from pk_sub (b := 1) (by omega), inb_nI (show k - 1 < 21 by omega) (by omega), if_pos rfl, nI_clamp (by omega), h60 _ (by omega), lmul _ _ (by omega), j72, if_pos q]
        · have : k = 0 := by omega
          subst this
          rw [if_pos (by decide), if_neg q]
          exact j72 a 0
      have eb : fX11_slipLoose_b18 (nI m) (nI d) (nI k) τ = some (.inl (nI k + 1, sL τ 61 k (lN (dr g m d k)))) := by
        unfold fX11_slipLoose_b18 dr
        rw [if_neg (show ¬ (21 : Int32) ≤ nI k from nI_ge (b := 21) (by omega) (by omega))]
        by_cases q : k < 20
        · rw [if_neg (show ¬ (20 : Int32) ≤ nI k from nI_ge (b := 20) (by omega) (by omega)), nI_1, inb_nI (show k + 1 < 21 by omega) (by omega), if_pos rfl, nI_clamp (by omega), h60 _ (by omega), lmul _ _ (by omega), j48, if_pos q, nI_1, Nat.add_comm (g (k + 1) * m)]
        · rw [if_pos (show (20 : Int32) ≤ nI k from nI_le (a := 20) (by omega) (by omega)), if_neg q, Nat.zero_add]
          exact (j48 0)
      refine ⟨_, eb, nI_1 k, e2.trans (Lf_sL (by simp)), fun j h2 => ?_⟩
      show (sL τ 61 k _).2 61 j = _
      rw [g_sL, if_pos rfl]
      by_cases q : j = k
      · rw [if_pos q, q]
      · rw [if_neg q]; exact e3 j (by omega)
    · rintro ⟨x, τ⟩ ⟨e1, e2, e3⟩
      dsimp only at e1 e2 e3
      subst e1
      exact ⟨τ, rfl, e2, e3⟩
  obtain ⟨r, e, l, h1⟩ := key
  rw [e, ob_s]
  have key2 : ∃ r', lpc (fun s => fX11_slipLoose_b112 s.1 s.2) (0, r) = some r' ∧ (Lf [60] r r' ∧ ∀ j, j < 21 → r'.2 60 j = r.2 61 j) := by
    refine lpc_cnt (a := 0) (b := 21) (fun k s => s.1 = nI k ∧ Lf [60] r s.2 ∧ (∀ j, j < k → s.2.2 60 j = r.2 61 j)) _ (by omega) ?_ ?_ ⟨rfl, Lf.rf, fun j h => absurd h (Nat.not_lt_zero _)⟩
    · rintro k ⟨x, τ⟩ _ hk ⟨e1, e2, e3⟩
      dsimp only at e1 e2 e3
      subst e1
      have eb : fX11_slipLoose_b112 (nI k) τ = some (.inl (nI k + 1, sL τ 60 k (r.2 61 k))) := by
        unfold fX11_slipLoose_b112
        rw [if_neg (show ¬ (21 : Int32) ≤ nI k from nI_ge (b := 21) (by omega) (by omega)), inb_nI (show k < 21 by omega) (by omega), if_pos rfl, nI_clamp (by omega), e2.2 61 (by decide)]
      refine ⟨_, eb, nI_1 k, e2.trans (Lf_sL (by simp)), fun j h2 => ?_⟩
      show (sL τ 60 k _).2 60 j = _
      rw [g_sL, if_pos rfl]
      by_cases q : j = k
      · rw [if_pos q, q]
      · rw [if_neg q]; exact e3 j (by omega)
    · rintro ⟨x, τ⟩ ⟨e1, e2, e3⟩
      dsimp only at e1 e2 e3
      subst e1
      exact ⟨τ, rfl, e2, e3⟩
  obtain ⟨r', e', l', h2⟩ := key2
  rw [e', ob_s, l'.2 44 (by decide), l.2 44 (by decide), ht, show lN t * (16 : Int64) = lN (t * 16) from lN_mul t 16]
  refine ⟨_, rfl, ((l.mono (by decide)).trans (l'.mono (by decide))).trans (Lf_sL (by decide)), fun i hi => ?_, ?_⟩
  · rw [g_sL, if_neg (by decide), h2 i hi, h1 i hi]
  · rw [g_sL, if_pos rfl, if_pos rfl]
theorem p_isIn {W c : Nat} (hW : W < 64) (hc : c < 6) : fX11_isIn (nI W) (nI c) = some (if W / 2 ^ c % 2 = 1 then 1 else 0) := by
  unfold fX11_isIn
  by_cases h : W / 2 ^ c % 2 = 1
  · rw [if_pos ((bit_w W hW c hc).mpr h), if_pos h]
  · rw [if_neg (fun z => h ((bit_w W hW c hc).mp z)), if_neg h]
theorem p_slipsM {σ : St} {q : SP} {e : Nat} {ev : Int32} (hq : SPok q) (hs : PSm (spB q) σ) (hmi : ∀ k, k < 3 → fX11_missedIn (nI k) ev σ = some (nI (q.2.1 k))) (hd : ∀ k, k < 3 → σ.1 51 k = nI (q.2.2.1 k)) (hh : σ.1 52 6 = nI (spH q)) (he : e ≤ (spB q).length) (hc : sc q e ≤ 13) : ∃ σ', fX11_findsSlips (nI e) (nI (spW q)) ev σ = some σ' ∧ Lf [44, 60, 61] σ σ' ∧ (∀ i, i < 21 → σ'.2 60 i = lN (sl q e i)) ∧ σ'.2 44 25 = lN (16 ^ sc q e) := by
  have hl : (spB q).length ≤ 99 := (BG_bsOf q.1).1.1
  have hcu : ncu (spB q) ≤ 6 := (BG_bsOf q.1).1.2.2
  unfold fX11_findsSlips
  have key : ∃ r, lpc (fun s => fX11_findsSlips_b3 (nI e) (nI (spW q)) ev s.1 s.2) (0, σ) = some r ∧ (Lf [60] σ r ∧ ∀ j, j < 21 → r.2 60 j = lN (sl q 0 j)) := by
    refine lpc_cnt (a := 0) (b := 21) (fun k s => s.1 = nI k ∧ Lf [60] σ s.2 ∧ (∀ j, j < k → s.2.2 60 j = lN (sl q 0 j))) _ (by omega) ?_ ?_ ⟨rfl, Lf.rf, fun j h => absurd h (Nat.not_lt_zero _)⟩
    · rintro k ⟨x, τ⟩ _ hk ⟨e1, e2, e3⟩
      dsimp only at e1 e2 e3
      subst e1
      have eb : fX11_findsSlips_b3 (nI e) (nI (spW q)) ev (nI k) τ = some (.inl (nI k + 1, sL τ 60 k (lN (sl q 0 k)))) := by
        unfold fX11_findsSlips_b3 fX11_findsSlips_j28 sl
        rw [if_neg (show ¬ (21 : Int32) ≤ nI k from nI_ge (b := 21) (by omega) (by omega)), inb_nI (show k < 21 by omega) (by omega), if_pos rfl, if_pos rfl, nI_clamp (by omega)]
        by_cases q' : k = 10
        · rw [if_pos (show nI k = (10 : Int32) by rw [q']; rfl), if_pos q']; rfl
        · rw [if_neg (show ¬ nI k = (10 : Int32) from fun z => q' (nI_inj (b := 10) (by omega) (by omega) z)), if_neg q']; rfl
      refine ⟨_, eb, nI_1 k, e2.trans (Lf_sL (by simp)), fun j h2 => ?_⟩
      show (sL τ 60 k _).2 60 j = _
      rw [g_sL, if_pos rfl]
      by_cases q' : j = k
      · rw [if_pos q', q']
      · rw [if_neg q']; exact e3 j (by omega)
    · rintro ⟨x, τ⟩ ⟨e1, e2, e3⟩
      dsimp only at e1 e2 e3
      subst e1
      exact ⟨τ, rfl, e2, e3⟩
  obtain ⟨r, e1, l, h1⟩ := key
  rw [e1, ob_s]
  have key2 : ∃ r', lpc (fun s => fX11_findsSlips_b43 (nI e) (nI (spW q)) ev s.1 s.2) (0, sL r 44 25 1) = some r' ∧ (Lf [44, 60, 61] σ r' ∧ (∀ i, i < 21 → r'.2 60 i = lN (sl q e i)) ∧ r'.2 44 25 = lN (16 ^ sc q e)) := by
    refine lpc_cnt (a := 0) (b := e) (fun b s => s.1 = nI b ∧ Lf [44, 60, 61] σ s.2 ∧ (∀ i, i < 21 → s.2.2 60 i = lN (sl q b i)) ∧ s.2.2 44 25 = lN (16 ^ sc q b)) _ (by omega) ?_ ?_ ⟨rfl, (l.mono (by decide)).trans (Lf_sL (by decide)), fun i hi => by rw [g_sL, if_neg (by decide)]; exact h1 i hi, by rw [g_sL, if_pos rfl, if_pos rfl]; rfl⟩
    · rintro b ⟨x, τ⟩ _ hb ⟨f1, f2, f3, f4⟩
      dsimp only at f1 f2 f3 f4
      subst f1
      have hps : PSm (spB q) τ := hs.lf f2.1
      have hbl : b < (spB q).length := by omega
      obtain ⟨g1, g2, g3⟩ := hps.2.2.2.at hbl
      have hscs := sc_s q b
      show ∃ s', fX11_findsSlips_b43 (nI e) (nI (spW q)) ev (nI b) τ = some (.inl s') ∧ _
      unfold fX11_findsSlips_b43
      rw [if_neg (nI_ge hb (by omega)), inb_nI (show b < 100 by omega) (by omega), if_pos rfl, nI_clamp (by omega), g1]
      by_cases k3 : kdB (spB q) b < 3
      · rw [if_pos k3] at hscs
        obtain ⟨k, hk, ek⟩ := kd_l hbl k3
        rw [if_neg (show ¬ (3 : Int32) ≤ kdB (spB q) b from Int32.not_le.mpr k3), ek]
        have hM : spM q b = q.2.1 k := by unfold spM; rw [ek, nI_clamp (by omega)]
        have hD : spD q b = q.2.2.1 k := by unfold spD; rw [ek, nI_clamp (by omega)]
        obtain ⟨τ', d1, d2, d3, d4⟩ := p_slipLoose (σ := τ) (ev := ev) (g := sl q b) hk (hq.1 k hk) (by rw [mi_lf f2.1]; exact hmi k hk) (by rw [f2.1]; exact hd k hk) f3 f4
        rw [d1, ob_s]
        refine ⟨_, rfl, nI_1 b, f2.trans d2, fun i hi => ?_, ?_⟩
        · show τ'.2 60 i = _
          rw [d3 i hi, sl_s, if_pos k3, hM, hD]; rfl
        · show τ'.2 44 25 = _
          rw [d4, hscs, Nat.pow_succ]
      · rw [if_neg k3] at hscs
        rw [if_pos (show (3 : Int32) ≤ kdB (spB q) b from Int32.not_lt.mp k3)]
        have nog : ¬ gW q b → (∃ s', fX11_findsSlips_j197 (nI e) (nI (spW q)) ev (nI b) τ = some (.inl s') ∧ s'.1 = nI (b + 1) ∧ Lf [44, 60, 61] σ s'.2 ∧ (∀ i, i < 21 → s'.2.2 60 i = lN (sl q (b + 1) i)) ∧ s'.2.2 44 25 = lN (16 ^ sc q (b + 1))) := by
          intro ng
          rw [if_neg ng, Nat.add_zero] at hscs
          refine ⟨_, rfl, nI_1 b, f2, fun i hi => ?_, ?_⟩
          · show τ.2 60 i = _
            rw [sl_s, if_neg k3, if_neg ng]; exact f3 i hi
          · rw [hscs]; exact f4
        by_cases k4 : kdB (spB q) b = 4
        · have hcl : ncu ((spB q).take b) < 6 := by
            have h1 := cu_s hbl
            rw [if_pos k4] at h1
            have h2 := cu_le (spB q) (b + 1)
            omega
          rw [if_pos k4, g3]
          unfold cuB
          rw [if_pos k4, p_isIn hq.2.2 hcl, ob_s]
          by_cases hw : spW q / 2 ^ ncu ((spB q).take b) % 2 = 1
          · have gw : gW q b := ⟨k4, hw⟩
            rw [if_pos gw] at hscs
            rw [if_pos hw, if_neg one_ne]
            have hsl := fun i => sl_le hq b (by omega) i
            have key3 : ∃ r', lpc (fun s => fX11_findsSlips_b103 (nI e) (nI (spW q)) ev (nI b) s.1 s.2) (0, τ) = some r' ∧ (Lf [60] τ r' ∧ ∀ j, j < 21 → r'.2 60 j = lN (sl q (b + 1) j)) := by
              refine lpc_cnt (a := 0) (b := 21) (fun k s => s.1 = nI k ∧ Lf [60] τ s.2 ∧ (∀ j, j < k → s.2.2 60 j = lN (sl q (b + 1) j)) ∧ ∀ j, k ≤ j → s.2.2 60 j = τ.2 60 j) _ (by omega) ?_ ?_ ⟨rfl, Lf.rf, fun j h => absurd h (Nat.not_lt_zero _), fun _ _ => rfl⟩
              · rintro k ⟨x, υ⟩ _ hk ⟨e1, e2, e3, e4⟩
                dsimp only at e1 e2 e3 e4
                subst e1
                have eb : fX11_findsSlips_b103 (nI e) (nI (spW q)) ev (nI b) (nI k) υ = some (.inl (nI k + 1, sL υ 60 k (lN (sl q (b + 1) k)))) := by
                  unfold fX11_findsSlips_b103 fX11_findsSlips_j178
                  rw [if_neg (show ¬ (21 : Int32) ≤ nI k from nI_ge (b := 21) (by omega) (by omega)), inb_nI (show k < 21 by omega) (by omega), if_pos rfl, if_pos rfl, if_pos rfl, if_pos rfl, nI_clamp (by omega), e4 k (Nat.le_refl _), f3 k hk, e2.1, f2.1, hh, e2.2 44 (by decide), f4, sl_s, if_neg k3, if_pos gw, lN_sub (hsl k), nI_l (by have := hq.2.1; omega), lN_mul, show (16 : Int64) * lN (sl q b k) = lN (16 * sl q b k) from lN_mul 16 _, lN_add, show (16 : Int32) - nI (spH q) = nI (16 - spH q) from pk_sub (a := 16) hq.2.1, nI_l (by omega), lN_mul]
                  by_cases q' : k = 10
                  · rw [if_pos (show nI k = (10 : Int32) by rw [q']; rfl), if_pos q']
                  · rw [if_neg (show ¬ nI k = (10 : Int32) from fun z => q' (nI_inj (b := 10) (by omega) (by omega) z)), if_neg q']
                refine ⟨_, eb, nI_1 k, e2.trans (Lf_sL (by simp)), fun j h2 => ?_, fun j h2 => ?_⟩
                · show (sL υ 60 k _).2 60 j = _
                  rw [g_sL, if_pos rfl]
                  by_cases q' : j = k
                  · rw [if_pos q', q']
                  · rw [if_neg q']; exact e3 j (by omega)
                · show (sL υ 60 k _).2 60 j = _
                  rw [g_sL, if_pos rfl, if_neg (by omega)]
                  exact e4 j (by omega)
              · rintro ⟨x, υ⟩ ⟨e1, e2, e3, e4⟩
                dsimp only at e1 e2 e3 e4
                subst e1
                exact ⟨υ, rfl, e2, e3⟩
            obtain ⟨r', e', l', h'⟩ := key3
            rw [e', ob_s, l'.2 44 (by decide), f4, show lN (16 ^ sc q b) * (16 : Int64) = lN (16 ^ sc q b * 16) from lN_mul _ 16]
            refine ⟨_, rfl, nI_1 b, (f2.trans (l'.mono (by decide))).trans (Lf_sL (by decide)), fun i hi => ?_, ?_⟩
            · show (sL r' 44 25 _).2 60 i = _
              rw [g_sL, if_neg (by decide)]; exact h' i hi
            · show (sL r' 44 25 _).2 44 25 = _
              rw [g_sL, if_pos rfl, if_pos rfl, hscs, Nat.pow_succ]
          · rw [if_neg hw, if_pos rfl]
            exact nog (fun g => hw g.2)
        · rw [if_neg k4]
          exact nog (fun g => k4 g.1)
    · rintro ⟨x, τ⟩ ⟨f1, f2, f3, f4⟩
      dsimp only at f1 f2 f3 f4
      subst f1
      refine ⟨τ, ?_, f2, f3, f4⟩
      show fX11_findsSlips_b43 (nI e) (nI (spW q)) ev (nI e) τ = _
      unfold fX11_findsSlips_b43
      rw [if_pos (Int32.le_refl _)]
  obtain ⟨r', e2, l2, h2, h3⟩ := key2
  rw [e2, ob_s]
  exact ⟨r', rfl, l2, h2, h3⟩
