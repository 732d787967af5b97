/-! what the calls on slips share -/
theorem last5 {T : List Int32} (h : bsOf T ≠ []) : ∃ l, bsOf T = l ++ [(5, -1)] := by
  have key : ∀ (f p : Nat) (bs bs' : List (Int32 × Int32)), prs T f p bs = .inr bs' → ∃ l, bs' = l ++ [(5, -1)] := by
    intro f
    induction f with
    | zero => intro p bs bs' h; cases h
    | succ f ih =>
      intro p bs bs' h
      have hR : prs T (f + 1) p bs = Sum.elim .inl (fun z => if chAt T p = 120 then (if z.1 < T.length then .inl z.1 else .inr z.2) else prs T f z.1 z.2) (pstep T p bs) := rfl
      rw [hR] at h
      cases hs : pstep T p bs with
      | inl q => rw [hs, Sum.elim_inl] at h; cases h
      | inr z =>
        rw [hs, Sum.elim_inr] at h
        by_cases q : chAt T p = 120
        · rw [if_pos q] at h
          by_cases q2 : z.1 < T.length
          · rw [if_pos q2] at h; cases h
          · rw [if_neg q2] at h
            cases h
            unfold pstep at hs
            rw [q, if_neg (by decide), if_neg (by decide), if_neg (by decide), if_neg (by decide), if_neg (by decide), if_pos rfl] at hs
            by_cases q3 : bs.length = 99
            · rw [if_pos q3] at hs; cases hs
            · rw [if_neg q3] at hs; cases hs; exact ⟨bs, rfl⟩
        · rw [if_neg q] at h
          exact ih _ _ _ h
  unfold bsOf at h ⊢
  cases hp : parse T with
  | inl q => rw [hp] at h; exact absurd rfl h
  | inr bs =>
    rw [hp] at h
    show ∃ l, bs = l ++ [(5, -1)]
    unfold parse at hp
    by_cases q : T.length = 0
    · rw [if_pos q] at hp; cases hp; exact absurd rfl h
    · rw [if_neg q] at hp; exact key _ _ _ _ hp
theorem take_last {T : List Int32} (h : bsOf T ≠ []) : nlo ((bsOf T).take ((bsOf T).length - 1)) = nlo (bsOf T) ∧ ncu ((bsOf T).take ((bsOf T).length - 1)) = ncu (bsOf T) := by
  obtain ⟨l, e⟩ := last5 h
  rw [e, List.length_append, nlo_app, ncu_app, show l.length + [((5 : Int32), (-1 : Int32))].length - 1 = l.length from rfl, List.take_left']
  · exact ⟨rfl, rfl⟩
  · rfl
def on (W : Nat) : Nat → Nat
  | 0 => 0
  | n + 1 => on W n + W / 2 ^ n % 2
theorem on_s (W n : Nat) : on W (n + 1) = on W n + W / 2 ^ n % 2 := rfl
theorem on_mono {W a b : Nat} (h : a ≤ b) : on W a ≤ on W b := by
  induction b with
  | zero => have : a = 0 := by omega
            rw [this]; exact Nat.le_refl _
  | succ b ih =>
    by_cases q : a = b + 1
    · rw [q]; exact Nat.le_refl _
    · have := ih (by omega)
      rw [on_s]; omega
theorem kd_34 {k : Int32} (h : k < 3) : ¬ k = 4 := fun e => by rw [e] at h; exact absurd h (by decide)
theorem sc_on {q : SP} : ∀ b, b ≤ (spB q).length → sc q b = nlo ((spB q).take b) + on (spW q) (ncu ((spB q).take b)) := by
  intro b
  induction b with
  | zero => intro _; rfl
  | succ b ih =>
    intro hb
    have ih := ih (by omega)
    rw [sc_s, lo_s (by omega), cu_s (by omega), ih]
    by_cases h1 : kdB (spB q) b < 3
    · rw [if_pos h1, if_pos h1, if_neg (kd_34 h1), Nat.add_zero (ncu _)]; omega
    · rw [if_neg h1, if_neg h1]
      by_cases h2 : kdB (spB q) b = 4
      · rw [if_pos h2, on_s]
        by_cases h3 : spW q / 2 ^ ncu ((spB q).take b) % 2 = 1
        · have g : gW q b := ⟨h2, h3⟩
          rw [if_pos g, h3]; omega
        · have g : ¬ gW q b := fun z => h3 z.2
          rw [if_neg g]; omega
      · have g : ¬ gW q b := fun z => h2 z.1
        rw [if_neg h2, if_neg g, Nat.add_zero, Nat.add_zero, Nat.add_zero]
theorem sc_13 {q : SP} {b : Nat} (hb : b ≤ (spB q).length) (h : on (spW q) 6 ≤ 3) : sc q b ≤ 13 := by
  rw [sc_on b hb]
  have h1 := lo_le (spB q) b
  have h2 := cu_le (spB q) b
  have h3 : nlo (spB q) ≤ 10 ∧ ncu (spB q) ≤ 6 := (BG_bsOf q.1).1.2
  have h4 := on_mono (W := spW q) (a := ncu ((spB q).take b)) (b := 6) (by omega)
  omega
theorem sl_cg {T : List Int32} {m d m' d' : Nat → Nat} {h h' W W' : Nat} (hm : ∀ k, k < 3 → m k = m' k ∧ d k = d' k) (hw : ∀ b, b < (bsOf T).length → (gW (T, m, d, h, W) b ↔ gW (T, m', d', h', W') b)) (hh : ∀ b, b < (bsOf T).length → gW (T, m, d, h, W) b → h = h') : ∀ b, b ≤ (bsOf T).length → sc (T, m, d, h, W) b = sc (T, m', d', h', W') b ∧ ∀ i, sl (T, m, d, h, W) b i = sl (T, m', d', h', W') b i := by
  intro b
  induction b with
  | zero => intro _; exact ⟨rfl, fun i => rfl⟩
  | succ b ih =>
    intro hb
    obtain ⟨i1, i2⟩ := ih (by omega)
    have e := hw b (by omega)
    refine ⟨?_, fun i => ?_⟩
    · rw [sc_s, sc_s, i1]
      by_cases h1 : kdB (bsOf T) b < 3
      · rw [if_pos h1, if_pos h1]
      · rw [if_neg h1, if_neg h1]
        by_cases h2 : gW (T, m, d, h, W) b
        · rw [if_pos h2, if_pos (e.mp h2)]
        · rw [if_neg h2, if_neg (fun z => h2 (e.mpr z))]
    · rw [sl_s, sl_s, i1]
      by_cases h1 : kdB (bsOf T) b < 3
      · rw [if_pos h1, if_pos h1, i2, i2, i2]
        obtain ⟨k, hk, ek⟩ := kd_l (T := T) (by omega) h1
        unfold spM spD
        dsimp only [spB]
        rw [ek, nI_clamp (by omega), (hm k hk).1, (hm k hk).2]
      · rw [if_neg h1, if_neg h1, i2]
        by_cases h2 : gW (T, m, d, h, W) b
        · have h3 := hh b (by omega) h2
          rw [if_pos h2, if_pos (e.mp h2)]
          unfold spH
          dsimp only
          rw [h3]
        · rw [if_neg h2, if_neg (fun z => h2 (e.mpr z))]
theorem gW0 {T : List Int32} {m d : Nat → Nat} {h b : Nat} : ¬ gW (T, m, d, h, 0) b := fun z => by
  have := z.2
  unfold spW at this
  dsimp only at this
  rw [Nat.zero_div] at this
  exact absurd this (by decide)
theorem on0 : ∀ n, on 0 n = 0 := by
  intro n
  induction n with
  | zero => rfl
  | succ n ih => rw [on_s, ih, Nat.zero_div]
abbrev qS (A : AbS) (W : Nat) : SP := (aT A, aM A, aD A, aS A 6, W)
theorem qS_ok {A : AbS} (hA : OKA A) {W : Nat} (hW : W < 64) : SPok (qS A W) := ⟨hA.2.1, hA.2.2.1 6 (by omega), hW⟩
theorem c_walkS {A : AbS} {σ : St} {W e : Nat} (hA : OKA A) (h : IC A σ) (hW : W < 64) (ho : on W 6 ≤ 3) (he : e ≤ (aB A).length) : ∃ σ', fX8_walk 9 (nI e) (nI W) (nI (aS A 6)) σ = some σ' ∧ CS σ σ' ∧ ∀ i, i < 21 → σ'.2 25 i = lN (16 ^ (13 - sc (qS A W) e) * sl (qS A W) e i) := by
  obtain ⟨σ', e1, l, v⟩ := p_walk (σ := σ) (q := qS A W) (o := 9) (e := e) (Or.inl rfl) (qS_ok hA hW) h.ps h.2.2.1 he (sc_13 he ho)
  exact ⟨σ', e1, l.Fr.mono (by decide), v⟩
theorem c_walk0 {A : AbS} {σ : St} {e : Nat} (hA : OKA A) (h : IC A σ) (he : e ≤ (aB A).length) : ∃ σ', fX8_walk 9 (nI e) 0 0 σ = some σ' ∧ CS σ σ' ∧ ∀ i, i < 21 → σ'.2 25 i = lN (16 ^ (13 - sc (qS A 0) e) * sl (qS A 0) e i) := by
  obtain ⟨σ', e1, l, v⟩ := p_walk (σ := σ) (q := (aT A, aM A, aD A, 0, 0)) (o := 9) (e := e) (Or.inl rfl) ⟨hA.2.1, Nat.zero_le 16, Nat.zero_lt_succ 63⟩ h.ps h.2.2.1 he (sc_13 he (by rw [show spW (aT A, aM A, aD A, 0, 0) = 0 from rfl, on0]; omega))
  obtain ⟨c1, c2⟩ := sl_cg (T := aT A) (m := aM A) (d := aD A) (h := 0) (W := 0) (m' := aM A) (d' := aD A) (h' := aS A 6) (W' := 0) (fun k _ => ⟨rfl, rfl⟩) (fun b _ => ⟨fun z => absurd z gW0, fun z => absurd z gW0⟩) (fun b _ z => absurd z gW0) e he
  refine ⟨σ', e1, l.Fr.mono (by decide), fun i hi => ?_⟩
  rw [v i hi, c1, c2]
theorem p_chance {σ : St} {i : Nat} {x : Int32} (hi : i < 21) (hx : x + 10 = nI i) : fX8_chanceOf x σ = some (σ.2 25 i) := by
  unfold fX8_chanceOf
  rw [hx, p_longAt (n := 21) rfl (by omega) (by omega), if_pos hi, ob_s]
theorem m_miN {A : AbS} {σ : St} (h : IM A σ) {k : Nat} (hk : k < 3) : fX11_missedIn (nI k) (-1) σ = some (nI (aM A k)) := by
  unfold fX11_missedIn
  rw [if_pos rfl, inb_nI hk (by omega), if_pos rfl, nI_clamp (by omega), (h.od hk).1]
theorem m_slS {A : AbS} {σ : St} {W e : Nat} (hA : OKA A) (h : IM A σ) (p : PSm (aB A) σ) (hW : W < 64) (he : e ≤ (aB A).length) (hc : sc (qS A W) e ≤ 13) : ∃ σ', fX11_findsSlips (nI e) (nI W) (-1) σ = some σ' ∧ Lf [44, 60, 61] σ σ' ∧ (∀ i, i < 21 → σ'.2 60 i = lN (sl (qS A W) e i)) ∧ σ'.2 44 25 = lN (16 ^ sc (qS A W) e) :=
  p_slipsM (q := qS A W) (qS_ok hA hW) p (fun k hk => m_miN h hk) (fun k hk => (h.od hk).2) (h.2.2.1 6 (by omega)) he hc
theorem IM.lf {A : AbS} {σ σ' : St} (h : IM A σ) (e : σ'.1 = σ.1) : IM A σ' := by
  unfold IM TXm SHm at *
  rw [e]; exact h
theorem lw_52 {A : AbS} {W e : Nat} {w : Int32} (he : e ≤ (aB A).length) (ho : on W 6 ≤ 3) (i : Nat) : lw (16 ^ (13 - sc (qS A W) e) * sl (qS A W) e i) (2 ^ 52) w = lw (sl (qS A W) e i) (16 ^ sc (qS A W) e) w := by
  rw [← pw13' (sc_13 (q := qS A W) he ho), lw_scale (Nat.pos_of_ne_zero (by simp))]
theorem pw_52 {q : SP} {e : Nat} (h : sc q e ≤ 13) : 0 < 16 ^ sc q e ∧ 16 ^ sc q e ≤ 2 ^ 52 := by
  refine ⟨Nat.pos_of_ne_zero (by simp), ?_⟩
  have : (16 : Nat) ^ sc q e ≤ 16 ^ 13 := Nat.pow_le_pow_right (by omega) h
  exact this
theorem told52 {A : AbS} {W e : Nat} {w : Int32} (hA : OKA A) (hW : W < 64) (he : e ≤ (aB A).length) (ho : on W 6 ≤ 3) (i : Nat) : fX10_told (lN (16 ^ (13 - sc (qS A W) e) * sl (qS A W) e i)) (4503599627370496 : Int64) w = some (lN (lw (sl (qS A W) e i) (16 ^ sc (qS A W) e) w)) := by
  have h1 := sl_52 (qS_ok hA hW) (b := e) he (sc_13 he ho) i
  rw [← lw_52 he ho i]
  exact p_told (b := 2 ^ 52) (Nat.lt_of_le_of_lt h1 (by decide)) (by omega) (by omega)
theorem low52 {A : AbS} {W e : Nat} {w : Int32} (hA : OKA A) (hW : W < 64) (he : e ≤ (aB A).length) (hc : sc (qS A W) e ≤ 13) (i : Nat) : fX11_lowest (lN (sl (qS A W) e i)) (lN (16 ^ sc (qS A W) e)) w = some (lN (lw (sl (qS A W) e i) (16 ^ sc (qS A W) e) w)) := by
  have h1 := sl_le (qS_ok hA hW) e he i
  have h2 := pw_52 hc
  exact p_lowest (by omega) (by omega) h2.1
theorem add10 {s : Int32} (h : -10 ≤ s ∧ s ≤ 10) : ∃ i, i < 21 ∧ s + 10 = nI i := by
  have h1 := h.1
  have h2 := h.2
  rw [Int32.le_iff_toInt_le] at h1 h2
  rw [show (-10 : Int32).toInt = -10 from rfl] at h1
  rw [show (10 : Int32).toInt = 10 from rfl] at h2
  have e : (s + 10).toInt = s.toInt + 10 := by
    rw [Int32.toInt_add, show (10 : Int32).toInt = 10 from rfl, Int.bmod_def]
    split <;> omega
  obtain ⟨j, hj, e2⟩ := nI_of2 (x := s + 10) (M := 20) (n := 20) rfl (by rw [Int32.lt_iff_toInt_lt, e]; show ¬ s.toInt + 10 < 0; omega) (by rw [Int32.le_iff_toInt_le, e]; show s.toInt + 10 ≤ 20; omega)
  exact ⟨j, by omega, e2⟩
abbrev gSl (s w : Int32) : Prop := (-10 ≤ s ∧ s ≤ 10) ∧ (0 ≤ w ∧ w ≤ 1)
def vSlips (x s w : Int32) (A : AbS) : Int64 := Option.elim (ix (aB A).length x) noB (fun e => if gSl s w then lN (lw (sl (qS A 0) e (s + 10).toNatClampNeg) (16 ^ sc (qS A 0) e) w) else noB)
theorem c_slips (x s w : Int32) (A : AbS) (σ : St) (hA : OKA A) (h : IC A σ) : ∃ σ', fX10_slips x s w σ = some (vSlips x s w A, σ') ∧ IC A σ' ∧ CM σ σ' := by
  have hl := lenB A
  unfold fX10_slips fX10_slips_j29 vSlips
  rcases pk_ix x (show (aB A).length < 2 ^ 31 by omega) with q | q | ⟨j, hj, rfl⟩
  · rw [p_hasBar0 h.ps (Or.inl q), ob_s, if_pos rfl, ix_neg q]; exact ⟨σ, rfl, h, CM.rf⟩
  · rw [p_hasBar0 h.ps (Or.inr q), ob_s, if_pos rfl, ix_ge q (by omega)]; exact ⟨σ, rfl, h, CM.rf⟩
  · rw [p_hasBar1 h.ps hl hj, ob_s, if_neg one_ne, p_within, ob_s, p_isPart, ob_s, ix_nI hj (by omega)]
    show ∃ σ', _ = some (if gSl s w then _ else _, σ') ∧ _
    by_cases g : gSl s w
    · rw [if_pos g, if_pos g.1, if_neg one_ne, if_pos g.2, if_neg one_ne]
      obtain ⟨i, hi, ei⟩ := add10 g.1
      obtain ⟨σ', e1, l, v⟩ := c_walk0 (e := j) hA h (by omega)
      rw [e1, ob_s, p_chance hi ei, ob_s, v i hi, ei, nI_clamp (by omega), told52 hA (by omega) (by omega) (by rw [on0]; omega) i, ob_s]
      exact ⟨σ', rfl, h.cs l, l.CM⟩
    · rw [if_neg g]
      by_cases g1 : -10 ≤ s ∧ s ≤ 10
      · rw [if_pos g1, if_neg one_ne, if_neg (fun z => g ⟨g1, z⟩), if_pos rfl]; exact ⟨σ, rfl, h, CM.rf⟩
      · rw [if_neg g1, if_pos rfl]; exact ⟨σ, rfl, h, CM.rf⟩
theorem m_slips (x s w : Int32) (A : AbS) (σ : St) (hA : OKA A) (h : IM A σ) : ∃ σ', fX11_slips x s w σ = some (vSlips x s w A, σ') ∧ MS σ σ' := by
  have hl := lenB A
  unfold fX11_slips fX11_slips_j38 vSlips
  obtain ⟨σ1, e1, k1, p1⟩ := m_isBar x h
  rw [e1, ob_s]
  cases hx : ix (aB A).length x with
  | none =>
    dsimp only
    rw [if_pos rfl, if_pos rfl]; exact ⟨σ1, rfl, k1⟩
  | some j =>
    obtain ⟨hj, rfl⟩ := ix_some hx (by omega)
    dsimp only
    rw [if_neg (show ¬ some j = none from fun q => by cases q), if_neg one_ne, p_in, ob_s, p_in, ob_s]
    show ∃ σ', _ = some (if gSl s w then _ else _, σ') ∧ _
    by_cases g : gSl s w
    · rw [if_pos g, if_pos g.1, if_neg one_ne, if_pos g.2, if_neg one_ne]
      obtain ⟨i, hi, ei⟩ := add10 g.1
      obtain ⟨σ2, e2, l2, v2, a2⟩ := m_slS (W := 0) (e := j) hA (h.ms k1) p1 (by omega) (by omega) (sc_13 (q := qS A 0) (by show j ≤ (aB A).length; omega) (by rw [show spW (qS A 0) = 0 from rfl, on0]; omega))
      unfold fX11_slipsOf
      rw [show fX11_findsSlips (nI j) (0 : Int32) (-1 : Int32) σ1 = some σ2 from e2, ob_s, ei, inb_nI hi (by omega), if_pos rfl, nI_clamp (by omega), v2 i hi, a2, low52 hA (by omega) (by omega) (sc_13 (q := qS A 0) (by show j ≤ (aB A).length; omega) (by rw [show spW (qS A 0) = 0 from rfl, on0]; omega)) i, ob_s, ob_s]
      exact ⟨σ2, rfl, k1.trans (l2.MS (by decide))⟩
    · rw [if_neg g]
      by_cases g1 : -10 ≤ s ∧ s ≤ 10
      · rw [if_pos g1, if_neg one_ne, if_neg (fun z => g ⟨g1, z⟩), if_pos rfl]; exact ⟨σ1, rfl, k1⟩
      · rw [if_neg g1, if_pos rfl]; exact ⟨σ1, rfl, k1⟩
theorem l_slips : ls_slips Inv := fun σ x s w h => ls_mkq (vSlips x s w) (c_slips x s w) (m_slips x s w) σ h
