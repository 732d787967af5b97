/-! anew -/
theorem cu_ex {bs : List (Int32 × Int32)} {c : Nat} : ∀ n, n ≤ bs.length → c < ncu (bs.take n) → ∃ i, i < n ∧ kdB bs i = 4 ∧ ncu (bs.take i) = c := by
  intro n
  induction n with
  | zero => intro _ h; exact absurd h (Nat.not_lt_zero _)
  | succ n ih =>
    intro hn h
    rw [cu_s (by omega)] at h
    by_cases q : c < ncu (bs.take n)
    · obtain ⟨i, h1, h2⟩ := ih (by omega) q
      exact ⟨i, by omega, h2⟩
    · by_cases k : kdB bs n = 4
      · rw [if_pos k] at h
        exact ⟨n, by omega, k, by omega⟩
      · rw [if_neg k] at h; omega
noncomputable def cbB (bs : List (Int32 × Int32)) (c : Nat) : Nat := @dite _ (∃ i, i < bs.length ∧ kdB bs i = 4 ∧ ncu (bs.take i) = c) (Classical.propDecidable _) (fun h => Classical.choose h) (fun _ => 0)
theorem cbB_s {bs : List (Int32 × Int32)} {c : Nat} (h : c < ncu bs) : cbB bs c < bs.length ∧ kdB bs (cbB bs c) = 4 ∧ ncu (bs.take (cbB bs c)) = c := by
  have he := cu_ex (bs := bs) (c := c) bs.length (Nat.le_refl _) (by rw [List.take_length]; exact h)
  unfold cbB
  rw [dif_pos he]
  exact Classical.choose_spec he
theorem PK.cb {bs : List (Int32 × Int32)} {K Tu Cq Cb : Nat → Int32} (h : PK bs K Tu Cq Cb) {c : Nat} (hc : c < ncu bs) : Cb c = nI (cbB bs c) := by
  obtain ⟨h1, h2, h3⟩ := cbB_s hc
  have := ((h _ _ (bs_at h1)).2.2.1 h2).2
  rw [h3] at this
  exact this
/-- of the first n cues so many have the tune of cue c -/
noncomputable def cSm (bs : List (Int32 × Int32)) (c : Nat) : Nat → Nat
  | 0 => 0
  | n + 1 => cSm bs c n + (if tuB bs (cbB bs n) = tuB bs (cbB bs c) then 1 else 0)
theorem cSm_s (bs : List (Int32 × Int32)) (c n : Nat) : cSm bs c (n + 1) = cSm bs c n + (if tuB bs (cbB bs n) = tuB bs (cbB bs c) then 1 else 0) := rfl
theorem cSm_le (bs : List (Int32 × Int32)) (c : Nat) : ∀ n, cSm bs c n ≤ n := by
  intro n
  induction n with
  | zero => exact Nat.le_refl _
  | succ n ih => rw [cSm_s]; split <;> omega
theorem cSm_pos (bs : List (Int32 × Int32)) (c : Nat) : ∀ n, c < n → 0 < cSm bs c n := by
  intro n
  induction n with
  | zero => intro h; omega
  | succ n ih =>
    intro h
    rw [cSm_s]
    by_cases q : c = n
    · rw [if_pos (by rw [q])]; omega
    · have := ih (by omega); omega
noncomputable abbrev hdA (A : AbS) (c n : Nat) : Nat := aS A 0 * cSm (aB A) c n + aS A 1 * (n - cSm (aB A) c n)
theorem hd_s {A : AbS} {c n : Nat} : hdA A c (n + 1) = hdA A c n + (if tuB (aB A) (cbB (aB A) n) = tuB (aB A) (cbB (aB A) c) then aS A 0 else aS A 1) := by
  have h1 := cSm_le (aB A) c n
  unfold hdA
  rw [cSm_s]
  by_cases q : tuB (aB A) (cbB (aB A) n) = tuB (aB A) (cbB (aB A) c)
  · rw [if_pos q, if_pos q, Nat.mul_add, show n + 1 - (cSm (aB A) c n + 1) = n - cSm (aB A) c n by omega]; omega
  · rw [if_neg q, if_neg q, Nat.add_zero, show n + 1 - cSm (aB A) c n = (n - cSm (aB A) c n) + 1 by omega, Nat.mul_add]; omega
theorem hd_le {A : AbS} (hA : OKA A) {c n : Nat} (hn : n ≤ 6) : hdA A c n ≤ 192 := by
  have h1 := cSm_le (aB A) c n
  have h2 : aS A 0 ≤ 16 := hA.2.2.1 0 (by omega)
  have h3 : aS A 1 ≤ 16 := hA.2.2.1 1 (by omega)
  have h4 : aS A 0 * cSm (aB A) c n ≤ 16 * 6 := Nat.mul_le_mul h2 (by omega)
  have h5 : aS A 1 * (n - cSm (aB A) c n) ≤ 16 * 6 := Nat.mul_le_mul h3 (by omega)
  unfold hdA
  omega
noncomputable def wAnew (A : AbS) (c : Nat) : Int32 := if sl (qS A 0) (cbB (aB A) c) 10 * hdA A c (ncu (aB A)) < aS A 0 * 16 ^ sc (qS A 0) (cbB (aB A) c) then 1 else 0
noncomputable def vAnew (x : Int32) (A : AbS) : Int32 := Option.elim (ix (ncu (aB A)) x) (-2) (wAnew A)
theorem on06 : on 0 6 ≤ 3 := by decide
theorem p_barOf {bs : List (Int32 × Int32)} {σ : St} {c : Nat} (hs : PS bs σ) (hn : ncu bs ≤ 6) (h : c < ncu bs) : fX4_barOf (nI c) σ = some (nI (cbB bs c)) := by
  unfold fX4_barOf
  rw [p_itemAt (n := 6) rfl (by omega) c (by omega), if_pos (by omega), rv_w (by decide) (by decide), ob_s, hs.2.2.2.cb h]
theorem c_anew (x : Int32) (A : AbS) (σ : St) (hA : OKA A) (h : IC A σ) : ∃ σ', fX10_anew x σ = some (vAnew x A, σ') ∧ IC A σ' ∧ CM σ σ' := by
  have hcu := cuA A
  have hl := lenB A
  unfold fX10_anew vAnew
  rw [h.ps.2.2.1, p_within, ob_s]
  have hin := ix_in (n := ncu (aB A)) (x := x) (by omega)
  cases hx : ix (ncu (aB A)) x with
  | none =>
    rw [if_neg (fun z => hin.mp z hx), if_pos rfl]; exact ⟨σ, rfl, h, CM.rf⟩
  | some c =>
    obtain ⟨hc, rfl⟩ := ix_some hx (by omega)
    rw [if_pos (hin.mpr (by rw [hx]; exact fun z => by cases z)), if_neg one_ne, p_barOf h.ps (by omega) hc, ob_s, show fX6_valueOf (0 : Int32) σ = some (σ.1 8 0) from p_valueOf (i := 0) (by omega), ob_s, h.2.2.2.1 0 (by omega)]
    obtain ⟨cb1, cb2, cb3⟩ := cbB_s hc
    have hs0 : aS A 0 ≤ 16 := hA.2.2.1 0 (by omega)
    have hs1 : aS A 1 ≤ 16 := hA.2.2.1 1 (by omega)
    simp only [ltb]
    rw [nI_l (by omega)]
    have key : ∃ r, lpc (fun s => fX10_anew_b45 (nI (cbB (aB A) c)) (lN (aS A 0)) s.1 s.2 σ) ((0 : Int64), (0 : Int32)) = some r ∧ r = lN (hdA A c (ncu (aB A))) := by
      refine lpc_cnt (a := 0) (b := ncu (aB A)) (fun j s => s.2 = nI j ∧ s.1 = lN (hdA A c j)) _ (Nat.zero_le _) ?_ ?_ ⟨rfl, by unfold hdA; rfl⟩
      · rintro j ⟨s1, s2⟩ _ hj ⟨f1, f2⟩
        dsimp only at f1 f2
        subst f1
        subst f2
        obtain ⟨cj1, cj2, cj3⟩ := cbB_s hj
        show ∃ s', fX10_anew_b45 (nI (cbB (aB A) c)) (lN (aS A 0)) (lN (hdA A c j)) (nI j) σ = some (.inl s') ∧ _
        unfold fX10_anew_b45 fX10_anew_j89 fX10_anew_j111
        rw [h.ps.2.2.1, if_neg (nI_ge hj (by omega)), p_barOf h.ps (by omega) hj, ob_s, p_tuneOf h.ps hl cj1, ob_s, p_tuneOf h.ps hl cb1, ob_s, if_neg one_ne, if_pos rfl, show fX6_valueOf (1 : Int32) σ = some (σ.1 8 1) from p_valueOf (i := 1) (by omega), ob_s, h.2.2.2.1 1 (by omega), nI_l (by omega)]
        simp only [ltb]
        rw [lN_add, lN_add, hd_s]
        by_cases q : tuB (aB A) (cbB (aB A) j) = tuB (aB A) (cbB (aB A) c)
        · rw [if_pos q, if_pos q]; exact ⟨_, rfl, nI_1 j, rfl⟩
        · rw [if_neg q, if_neg q]; exact ⟨_, rfl, nI_1 j, rfl⟩
      · rintro ⟨s1, s2⟩ ⟨f1, f2⟩
        dsimp only at f1 f2
        subst f1
        refine ⟨s1, ?_, f2⟩
        show fX10_anew_b45 (nI (cbB (aB A) c)) (lN (aS A 0)) s1 (nI (ncu (aB A))) σ = _
        unfold fX10_anew_b45
        rw [h.ps.2.2.1, if_pos (Int32.le_refl _)]
    obtain ⟨r, e, hr⟩ := key
    obtain ⟨σ', e1, l, v⟩ := c_walk0 (e := cbB (aB A) c) hA h (by omega)
    have hcc := sc_13 (q := qS A 0) (b := cbB (aB A) c) (by show _ ≤ (aB A).length; omega) on06
    have hv := sl_52 (qS_ok hA (W := 0) (by omega)) (b := cbB (aB A) c) (by show _ ≤ (aB A).length; omega) hcc 10
    have hH := hd_le hA (c := c) (n := ncu (aB A)) (by omega)
    rw [e, ob_s, e1, ob_s, p_chance (i := 10) (by omega) rfl, ob_s, v 10 (by omega), hr, lN_mul, show lN (aS A 0) * (4503599627370496 : Int64) = lN (aS A 0 * 2 ^ 52) from lN_mul _ _]
    have hm : 16 ^ (13 - sc (qS A 0) (cbB (aB A) c)) * sl (qS A 0) (cbB (aB A) c) 10 * hdA A c (ncu (aB A)) ≤ 2 ^ 52 * 192 := Nat.mul_le_mul hv hH
    have hcmp : aS A 0 * 2 ^ 52 ≤ 16 ^ (13 - sc (qS A 0) (cbB (aB A) c)) * sl (qS A 0) (cbB (aB A) c) 10 * hdA A c (ncu (aB A)) ↔ ¬ sl (qS A 0) (cbB (aB A) c) 10 * hdA A c (ncu (aB A)) < aS A 0 * 16 ^ sc (qS A 0) (cbB (aB A) c) := by
      rw [← pw13' hcc, Nat.mul_left_comm, Nat.mul_assoc, Nat.not_lt]
      exact ⟨fun z => Nat.le_of_mul_le_mul_left z (Nat.pos_of_ne_zero (by simp)), fun z => Nat.mul_le_mul_left _ z⟩
    show ∃ σ'', _ = some (wAnew A c, σ'') ∧ _
    unfold wAnew
    by_cases q : sl (qS A 0) (cbB (aB A) c) 10 * hdA A c (ncu (aB A)) < aS A 0 * 16 ^ sc (qS A 0) (cbB (aB A) c)
    · rw [if_pos q, if_neg (fun z => hcmp.mp ((pk_lLE (by omega) (by omega)).mp z) q)]
      exact ⟨σ', rfl, h.cs l, l.CM⟩
    · rw [if_neg q, if_pos ((pk_lLE (by omega) (by omega)).mpr (hcmp.mpr q))]
      exact ⟨σ', rfl, h.cs l, l.CM⟩
theorem m_anewOf {A : AbS} {σ : St} {c : Nat} (hA : OKA A) (h : IM A σ) (p : PSm (aB A) σ) (hc : c < ncu (aB A)) : ∃ σ', fX11_anewOf (nI c) σ = some (wAnew A c, σ') ∧ Lf [44, 60, 61] σ σ' := by
  have hcu := cuA A
  have hl := lenB A
  obtain ⟨cb1, cb2, cb3⟩ := cbB_s hc
  have hs0 : aS A 0 ≤ 16 := hA.2.2.1 0 (by omega)
  have hs1 : aS A 1 ≤ 16 := hA.2.2.1 1 (by omega)
  unfold fX11_anewOf
  have key : ∃ r, lpc (fun s => fX11_anewOf_b4 (nI c) s.1 s.2 σ) ((0 : Int32), (0 : Int32)) = some r ∧ r = nI (cSm (aB A) c (ncu (aB A))) := by
    refine lpc_cnt (a := 0) (b := ncu (aB A)) (fun j s => s.2 = nI j ∧ s.1 = nI (cSm (aB A) c j)) _ (Nat.zero_le _) ?_ ?_ ⟨rfl, rfl⟩
    · rintro j ⟨s1, s2⟩ _ hj ⟨f1, f2⟩
      dsimp only at f1 f2
      subst f1
      subst f2
      obtain ⟨cj1, cj2, cj3⟩ := cbB_s hj
      show ∃ s', fX11_anewOf_b4 (nI c) (nI (cSm (aB A) c j)) (nI j) σ = some (.inl s') ∧ _
      unfold fX11_anewOf_b4 fX11_anewOf_j43
      rw [p.2.2.1, if_neg (nI_ge hj (by omega)), inb_nI (show j < 7 by omega) (by omega), if_pos rfl, nI_clamp (show j < 2 ^ 31 by omega), p.2.2.2.cb hj, inb_nI (show cbB (aB A) j < 100 by omega) (by omega), if_pos rfl, inb_nI (show c < 7 by omega) (by omega), if_pos rfl, nI_clamp (show c < 2 ^ 31 by omega), p.2.2.2.cb hc, inb_nI (show cbB (aB A) c < 100 by omega) (by omega), if_pos rfl, nI_clamp (show cbB (aB A) j < 2 ^ 31 by omega), nI_clamp (show cbB (aB A) c < 2 ^ 31 by omega), (p.2.2.2.at cj1).2.1, (p.2.2.2.at cb1).2.1, cSm_s]
      simp only [ltb]
      by_cases q : tuB (aB A) (cbB (aB A) j) = tuB (aB A) (cbB (aB A) c)
      · rw [if_pos q, if_pos q, nI_1, nI_1]; exact ⟨_, rfl, rfl, rfl⟩
      · rw [if_neg q, if_neg q, nI_1]; exact ⟨_, rfl, rfl, by rw [show nI (cSm (aB A) c j) + (0 : Int32) = nI (cSm (aB A) c j + 0) from nI_add _ 0]⟩
    · rintro ⟨s1, s2⟩ ⟨f1, f2⟩
      dsimp only at f1 f2
      subst f1
      refine ⟨s1, ?_, f2⟩
      show fX11_anewOf_b4 (nI c) s1 (nI (ncu (aB A))) σ = _
      unfold fX11_anewOf_b4
      rw [p.2.2.1, if_pos (Int32.le_refl _)]
  obtain ⟨r, e, hr⟩ := key
  have hcc := sc_13 (q := qS A 0) (b := cbB (aB A) c) (by show _ ≤ (aB A).length; omega) on06
  obtain ⟨σ2, e2, l2, v2, a2⟩ := m_slS (W := 0) (e := cbB (aB A) c) hA h p (by omega) (by omega) hcc
  have hsm := cSm_le (aB A) c (ncu (aB A))
  have hH := hd_le hA (c := c) (n := ncu (aB A)) (by omega)
  have hp := pw_52 hcc
  have hv := sl_le (qS_ok hA (W := 0) (by omega)) (cbB (aB A) c) (by show _ ≤ (aB A).length; omega) 10
  have hm : sl (qS A 0) (cbB (aB A) c) 10 * hdA A c (ncu (aB A)) ≤ 2 ^ 52 * 192 := Nat.mul_le_mul (by omega) hH
  have hm2 : aS A 0 * 16 ^ sc (qS A 0) (cbB (aB A) c) ≤ 16 * 2 ^ 52 := Nat.mul_le_mul hs0 hp.2
  rw [e, ob_s, hr, h.2.2.1 0 (by omega), h.2.2.1 1 (by omega), p.2.2.1]
  simp only [ltb]
  rw [pk_mul, pk_sub hsm, pk_mul, nI_add, nI_l (show hdA A c (ncu (aB A)) < 2 ^ 31 by omega), inb_nI (show c < 7 by omega) (by omega), if_pos rfl, nI_clamp (show c < 2 ^ 31 by omega), p.2.2.2.cb hc, show fX11_findsSlips (nI (cbB (aB A) c)) (0 : Int32) (-1 : Int32) σ = some σ2 from e2, ob_s, l2.1, h.2.2.1 0 (by omega), nI_l (by omega), a2, v2 10 (by omega), lN_mul, lN_mul]
  unfold wAnew
  show ∃ σ', (if lN (hdA A c (ncu (aB A))) ≤ (0 : Int64) then _ else _) = _ ∧ _
  by_cases z0 : hdA A c (ncu (aB A)) = 0
  · have hpos := cSm_pos (aB A) c (ncu (aB A)) hc
    have hk : aS A 0 = 0 := by
      rcases Nat.eq_zero_or_pos (aS A 0) with q | q
      · exact q
      · have := Nat.mul_pos q hpos
        unfold hdA at z0; omega
    rw [if_pos (show lN (hdA A c (ncu (aB A))) ≤ (0 : Int64) by rw [z0]; decide), if_neg (by rw [hk, z0]; omega)]
    exact ⟨σ2, rfl, l2⟩
  · rw [if_neg (show ¬ lN (hdA A c (ncu (aB A))) ≤ (0 : Int64) from fun z => z0 (Nat.le_zero.mp ((pk_lLE (b := 0) (by omega) (by omega)).mp z)))]
    by_cases q : sl (qS A 0) (cbB (aB A) c) 10 * hdA A c (ncu (aB A)) < aS A 0 * 16 ^ sc (qS A 0) (cbB (aB A) c)
    · rw [if_pos q, if_neg (fun z => absurd ((pk_lLE (by omega) (by omega)).mp z) (by omega))]
      exact ⟨σ2, rfl, l2⟩
    · rw [if_neg q, if_pos ((pk_lLE (by omega) (by omega)).mpr (by omega))]
      exact ⟨σ2, rfl, l2⟩
theorem m_anew (x : Int32) (A : AbS) (σ : St) (hA : OKA A) (h : IM A σ) : ∃ σ', fX11_anew x σ = some (vAnew x A, σ') ∧ MS σ σ' := by
  have hcu := cuA A
  unfold fX11_anew fX11_cuesNow vAnew
  obtain ⟨σ1, e1, k1, p1⟩ := m_reads h
  rw [e1, ob_s, ob_s]
  dsimp only
  rw [p1.2.2.1, p_in, ob_s]
  have hin := ix_in (n := ncu (aB A)) (x := x) (by omega)
  cases hx : ix (ncu (aB A)) x with
  | none =>
    rw [if_neg (fun z => hin.mp z hx), if_pos rfl]; exact ⟨σ1, rfl, k1⟩
  | some c =>
    obtain ⟨hc, rfl⟩ := ix_some hx (by omega)
    obtain ⟨σ2, e2, l2⟩ := m_anewOf hA (h.ms k1) p1 hc
    rw [if_pos (hin.mpr (by rw [hx]; exact fun z => by cases z)), if_neg one_ne, e2, ob_s]
    exact ⟨σ2, rfl, k1.trans (l2.MS (by decide))⟩
theorem l_anew : ls_anew Inv := fun σ x h => ls_mkq (vAnew x) (c_anew x) (m_anew x) σ h
