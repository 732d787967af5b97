/-! tell -/
def tlF (bs : List (Int32 × Int32)) (f : Int32) (old : Nat → Int32) (k : Nat) : Nat → Int32 := fun x => if x < k then nar f (kdB bs x) else old x
theorem tlF_0 {bs : List (Int32 × Int32)} {f : Int32} {old : Nat → Int32} : tlF bs f old 0 = old := funext fun x => if_neg (Nat.not_lt_zero _)
theorem tlF_s {bs : List (Int32 × Int32)} {f : Int32} {old : Nat → Int32} {k : Nat} : putF (tlF bs f old k) k (nar f (kdB bs k)) = tlF bs f old (k + 1) := by
  funext x
  unfold putF tlF
  by_cases h : x = k
  · rw [if_pos h, if_pos (by omega), h]
  · rw [if_neg h]
    by_cases h2 : x < k
    · rw [if_pos h2, if_pos (by omega)]
    · rw [if_neg h2, if_neg (by omega)]
theorem putH_at {H : Nat → HT} {s : Nat} {v : HT} : putH H s v s = v := if_pos rfl
theorem putH_2 {H : Nat → HT} {s : Nat} {v w : HT} : putH (putH H s v) s w = putH H s w := by
  funext t
  unfold putH
  by_cases h : t = s
  · rw [if_pos h, if_pos h]
  · rw [if_neg h, if_neg h, if_neg h]
theorem putH_id {H : Nat → HT} {s : Nat} : putH H s (H s) = H := by
  funext t
  unfold putH
  by_cases h : t = s
  · rw [if_pos h, h]
  · rw [if_neg h]
/-- A with the first k kinds told on a sheet -/
def tlA (A : AbS) (s k : Nat) : AbS := (A.1, aR A, aF A, aP A, putH (aH A) s ((aH A s).1, (aH A s).2.1, (aH A s).2.2.1, tlF (aB A) (aH A s).2.1 (aH A s).2.2.2 k), aG A)
theorem tlA_0 {A : AbS} {s : Nat} : tlA A s 0 = A := by
  unfold tlA
  rw [tlF_0]
  show (A.1, aR A, aF A, aP A, putH (aH A) s (aH A s), aG A) = A
  rw [putH_id]
theorem tlA_s {A : AbS} {s k : Nat} : ((tlA A s k).1, aR (tlA A s k), aF (tlA A s k), aP (tlA A s k), putH (aH (tlA A s k)) s ((aH (tlA A s k) s).1, (aH (tlA A s k) s).2.1, (aH (tlA A s k) s).2.2.1, putF (aH (tlA A s k) s).2.2.2 k (nar (aH A s).2.1 (kdB (aB A) k))), aG (tlA A s k)) = tlA A s (k + 1) := by
  have e : aH (tlA A s k) = putH (aH A) s ((aH A s).1, (aH A s).2.1, (aH A s).2.2.1, tlF (aB A) (aH A s).2.1 (aH A s).2.2.2 k) := rfl
  rw [e, putH_at, putH_2, tlF_s]
  rfl
def tlN (A : AbS) (s : Nat) : Nat := if (aB A).length < (aH A s).2.2.1 then (aB A).length else (aH A s).2.2.1
def vTell (x : Int32) (A : AbS) : Int32 := Option.elim (ix 4 x) (-2) (fun s => if (aH A s).1 = true then nI (tlN A s) else -10 - 1)
def uTell (x : Int32) (A : AbS) : AbS := Option.elim (ix 4 x) A (fun s => if (aH A s).1 = true then tlA A s (tlN A s) else uFd 1 A)
theorem ok_tlA {A : AbS} {s k : Nat} (hs : s < 4) (h : OKA A) : OKA (tlA A s k) := ok_H h (h.2.2.2.2.2.2 s hs)
theorem ok_tell (x : Int32) (A : AbS) (h : OKA A) : OKA (uTell x A) := by
  unfold uTell
  cases hx : ix 4 x with
  | none => exact h
  | some s =>
    show OKA (if (aH A s).1 = true then _ else _)
    split
    · exact ok_tlA (ix_some hx (by omega)).1 h
    · exact h
theorem c_tell (x : Int32) (A : AbS) (σ : St) (hA : OKA A) (h : IC A σ) : ∃ σ', fX10_tell x σ = some (vTell x A, σ') ∧ IC (uTell x A) σ' ∧ CM σ σ' := by
  have hl := lenB A
  unfold fX10_tell vTell uTell
  rcases sh_cases x with q | ⟨s, hs, rfl⟩
  · rw [p_sheetAt0 q, ob_s, sh_none q]
    exact ⟨σ, rfl, h, CM.rf⟩
  · rw [p_sheetAt1 hs, ob_s, ix_nI hs (by omega)]
    show ∃ σ', (if isS (36 + 2 * s) = true then _ else _) = some (if (aH A s).1 = true then _ else _, σ') ∧ IC (if (aH A s).1 = true then _ else _) σ' ∧ _
    have hm := hA.2.2.2.2.2.2 s hs
    obtain ⟨s1, s2, s3, s4⟩ := h.hs s hs
    rw [if_pos (isS_s hs), s1]
    by_cases g : (aH A s).1 = true
    · rw [if_pos g, if_pos g, if_pos g, if_pos rfl, s3, h.ps.1, p_min, ob_s]
      have hn : (if nI (aB A).length < nI (aH A s).2.2.1 then nI (aB A).length else nI (aH A s).2.2.1) = nI (tlN A s) := by
        unfold tlN
        by_cases q : (aB A).length < (aH A s).2.2.1
        · rw [if_pos q, if_pos (nI_lt q (by omega))]
        · rw [if_neg q, if_neg (nI_nlt (by omega) (by omega))]
      rw [hn]
      have hn1 : tlN A s ≤ (aB A).length ∧ tlN A s ≤ 48 := by unfold tlN; split <;> omega
      have key : ∃ r, lpc (fun z => fX10_tell_b44 (36 + 2 * s) (nI (tlN A s)) z.1 z.2) (0, σ) = some r ∧ (IC (tlA A s (tlN A s)) r ∧ CM σ r) := by
        refine lpc_cnt (a := 0) (b := tlN A s) (fun k z => z.1 = nI k ∧ IC (tlA A s k) z.2 ∧ CM σ z.2) _ (by omega) ?_ ?_ ⟨rfl, by rw [tlA_0]; exact h, CM.rf⟩
        · rintro k ⟨y, u⟩ _ hk ⟨e1, e2, e3⟩
          dsimp only at e1 e2 e3
          subst e1
          have e2s : (aH (tlA A s k) s).2.1 = (aH A s).2.1 := by
            show (putH _ s _ s).2.1 = _
            rw [putH_at]
          have w := c_write (A := tlA A s k) (σ := u) (i := k) (v := nar (aH A s).2.1 (kdB (aB A) k)) hs e2
          rw [tlA_s] at w
          refine ⟨(nI (k + 1), _), ?_, rfl, w.1, e3.trans w.2⟩
          show fX10_tell_b44 (36 + 2 * s) (nI (tlN A s)) (nI k) u = _
          unfold fX10_tell_b44
          rw [if_pos (isS_s hs), if_neg (nI_ge hk (by omega)), p_kindOf e2.ps hl (by show k < (aB A).length; omega), ob_s, p_become hs (by omega) e2.hs, ob_s, nI_1, e2s]
          rfl
        · rintro ⟨y, u⟩ ⟨e1, e2, e3⟩
          dsimp only at e1 e2 e3
          subst e1
          refine ⟨u, ?_, e2, e3⟩
          show fX10_tell_b44 (36 + 2 * s) (nI (tlN A s)) (nI (tlN A s)) u = _
          unfold fX10_tell_b44
          rw [if_pos (isS_s hs), if_pos (Int32.le_refl _)]
      obtain ⟨r, e, i, k⟩ := key
      rw [e, ob_s]
      exact ⟨r, rfl, i, k⟩
    · rw [if_neg g, if_neg g, if_neg g, if_neg one_ne]
      obtain ⟨σ', e, i, k⟩ := c_found 1 h
      rw [e, ob_s]
      exact ⟨σ', rfl, i, k⟩
theorem PSm.fr {bs : List (Int32 × Int32)} {σ σ' : St} (h : PSm bs σ) (hf : ∀ c, 44 ≤ c → c < 50 → σ'.1 c = σ.1 c) : PSm bs σ' := by
  unfold PSm at *
  rw [hf 44 (by decide) (by decide), hf 46 (by decide) (by decide), hf 47 (by decide) (by decide), hf 48 (by decide) (by decide), hf 49 (by decide) (by decide)]
  exact h
theorem m_tell (x : Int32) (A : AbS) (σ : St) (hA : OKA A) (h : IM A σ) : ∃ σ', fX11_tell x σ = some (vTell x A, σ') ∧ IM (uTell x A) σ' ∧ MC σ σ' := by
  have hl := lenB A
  unfold fX11_tell vTell uTell
  rcases sh_cases x with q | ⟨s, hs, rfl⟩
  · rw [p_isSheet, ob_s, if_neg (sh_out q), if_pos rfl, sh_none q]
    exact ⟨σ, rfl, h, MC.rf⟩
  · rw [p_isSheet, ob_s, if_pos (sh_in hs), if_neg one_ne, ix_nI hs (by omega)]
    show ∃ σ', _ = some (if (aH A s).1 = true then _ else _, σ') ∧ IM (if (aH A s).1 = true then _ else _) σ' ∧ _
    have hm := hA.2.2.2.2.2.2 s hs
    obtain ⟨s1, s2, s3, s4⟩ := h.hs s hs
    rw [inb_nI hs (by omega), if_pos rfl, nI_clamp (show s < 2 ^ 31 by omega), s1]
    by_cases g : (aH A s).1 = true
    · rw [if_pos g, if_pos g, if_pos g, if_neg one_ne]
      obtain ⟨σ1, e, k1, p⟩ := m_reads h
      rw [e, ob_s]
      have h1 := h.ms k1
      have hn1 : tlN A s ≤ (aB A).length ∧ tlN A s ≤ (aH A s).2.2.1 := by unfold tlN; split <;> omega
      have hn2 : (aH A s).2.2.1 ≤ tlN A s ∨ (aB A).length ≤ tlN A s := by unfold tlN; split <;> omega
      have key : ∃ r, lpc (fun z => fX11_tell_b31 (nI s) z.1 z.2) (0, σ1) = some r ∧ (r.1 = nI (tlN A s) ∧ IM (tlA A s (tlN A s)) r.2 ∧ MC σ1 r.2) := by
        refine lpc_cnt (a := 0) (b := tlN A s) (fun k z => z.1 = nI k ∧ IM (tlA A s k) z.2 ∧ MC σ1 z.2 ∧ PSm (aB A) z.2) _ (by omega) ?_ ?_ ⟨rfl, by rw [tlA_0]; exact h1, MC.rf, p⟩
        · rintro k ⟨y, u⟩ _ hk ⟨e1, e2, e3, e4⟩
          dsimp only at e1 e2 e3 e4
          subst e1
          have e2s : (aH (tlA A s k) s).2.1 = (aH A s).2.1 := by
            show (putH _ s _ s).2.1 = _
            rw [putH_at]
          have e2z : (aH (tlA A s k) s).2.2.1 = (aH A s).2.2.1 := by
            show (putH _ s _ s).2.2.1 = _
            rw [putH_at]
          have w := m_write (A := tlA A s k) (σ := u) (i := k) (v := nar (aH A s).2.1 (kdB (aB A) k)) hs (by omega) e2
          rw [tlA_s] at w
          refine ⟨(nI (k + 1), _), ?_, rfl, w.1, e3.trans w.2, e4.fr (fun c _ hc => sI_o (by omega))⟩
          show fX11_tell_b31 (nI s) (nI k) u = _
          unfold fX11_tell_b31
          rw [inb_nI hs (by omega), if_pos rfl, nI_clamp (show s < 2 ^ 31 by omega), (e2.hs s hs).2.2.1, e2z, if_neg (nI_ge (show k < (aH A s).2.2.1 by omega) (by omega)), e4.1, if_neg (nI_ge (show k < (aB A).length by omega) (by omega)), inb_nI (show k < 100 by omega) (by omega), if_pos rfl, nI_clamp (show k < 2 ^ 31 by omega), (e4.2.2.2.at (show k < (aB A).length by omega)).1, p_keep hs (by omega) e2.hs, ob_s, nI_1, e2s]
          rfl
        · rintro ⟨y, u⟩ ⟨e1, e2, e3, e4⟩
          dsimp only at e1 e2 e3 e4
          subst e1
          have e2z : (aH (tlA A s (tlN A s)) s).2.2.1 = (aH A s).2.2.1 := by
            show (putH _ s _ s).2.2.1 = _
            rw [putH_at]
          refine ⟨(nI (tlN A s), u), ?_, rfl, e2, e3⟩
          show fX11_tell_b31 (nI s) (nI (tlN A s)) u = _
          unfold fX11_tell_b31
          rw [inb_nI hs (by omega), if_pos rfl, nI_clamp (show s < 2 ^ 31 by omega), (e2.hs s hs).2.2.1, e2z, e4.1]
          rcases hn2 with q | q
          · rw [if_pos (nI_le q (by omega))]
          · by_cases q2 : nI (aH A s).2.2.1 ≤ nI (tlN A s)
            · rw [if_pos q2]
            · rw [if_neg q2, if_pos (nI_le q (by omega))]
      obtain ⟨r, e', r1, i, k⟩ := key
      rw [e', ob_s, r1]
      exact ⟨r.2, rfl, i, k1.MC.trans k⟩
    · rw [if_neg g, if_neg g, if_neg g, if_pos rfl]
      obtain ⟨σ', e, i, k⟩ := m_meets 1 h
      rw [e, ob_s]
      exact ⟨σ', rfl, i, k⟩
theorem l_tell : ls_tell Inv := fun σ a1 h => ls_mk (vTell a1) (uTell a1) (ok_tell a1) (c_tell a1) (m_tell a1) σ h
/-! read -/
def isNm (x : Int32) : Bool := decide (1 ≤ x ∧ x ≤ 110)
def rdN (f : Nat → Int32) : Nat → Nat
  | 0 => 0
  | m + 1 => if rdN f m = m ∧ isNm (f m) = true then m + 1 else rdN f m
theorem rdN_s {f : Nat → Int32} {m : Nat} : rdN f (m + 1) = if rdN f m = m ∧ isNm (f m) = true then m + 1 else rdN f m := rfl
theorem rdN_stay {f : Nat → Int32} {k : Nat} (h : rdN f (k + 1) = k) : ∀ d, rdN f (k + 1 + d) = k := by
  intro d
  induction d with
  | zero => exact h
  | succ d ih =>
    rw [show k + 1 + (d + 1) = (k + 1 + d) + 1 from rfl, rdN_s, ih, if_neg (fun q => by have := q.1; omega)]
def tkL (f : Nat → Int32) (k : Nat) : List Int32 := (List.range k).map f
theorem tkL_len {f : Nat → Int32} {k : Nat} : (tkL f k).length = k := by unfold tkL; simp
theorem tkL_s {f : Nat → Int32} {k : Nat} : tkL f k ++ [f k] = tkL f (k + 1) := by unfold tkL; rw [List.range_succ, List.map_append]; rfl
theorem tkL_get {f : Nat → Int32} {k i : Nat} {x : Int32} (h : (tkL f k)[i]? = some x) : i < k ∧ x = f i := by
  unfold tkL at h
  rw [List.getElem?_map] at h
  by_cases hi : i < k
  · rw [List.getElem?_range hi] at h
    cases h
    exact ⟨hi, rfl⟩
  · rw [List.getElem?_eq_none (by simp; omega)] at h
    cases h
def mn20 (n : Nat) : Nat := if n < 20 then n else 20
def rdK (A : AbS) (s : Nat) : Nat := rdN (aH A s).2.2.2 (mn20 (aH A s).2.2.1)
def rdA (A : AbS) (s k : Nat) : AbS := (A.1, tkL (aH A s).2.2.2 k, aF A, aP A, aH A, aG A)
def vRead (x : Int32) (A : AbS) : Int32 := Option.elim (ix 4 x) (-2) (fun s => if (aH A s).1 = true then nI (rdK A s) else -10 - 1)
def uRead (x : Int32) (A : AbS) : AbS := Option.elim (ix 4 x) A (fun s => if (aH A s).1 = true then rdA A s (rdK A s) else uFd 1 A)
theorem rdN_le {f : Nat → Int32} : ∀ m, rdN f m ≤ m := by
  intro m
  induction m with
  | zero => exact Nat.le_refl _
  | succ m ih =>
    rw [rdN_s]
    split <;> omega
theorem rdK_le (A : AbS) (s : Nat) : rdK A s ≤ 20 := by
  have := rdN_le (f := (aH A s).2.2.2) (mn20 (aH A s).2.2.1)
  have h2 : mn20 (aH A s).2.2.1 ≤ 20 := by unfold mn20; split <;> omega
  unfold rdK
  omega
theorem ok_rdA {A : AbS} {s k : Nat} (hk : k ≤ 20) (h : OKA A) : OKA (rdA A s k) := ⟨h.1, h.2.1, h.2.2.1, h.2.2.2.1, by show (tkL _ k).length ≤ 20; rw [tkL_len]; exact hk, h.2.2.2.2.2⟩
theorem ok_read (x : Int32) (A : AbS) (h : OKA A) : OKA (uRead x A) := by
  unfold uRead
  cases hx : ix 4 x with
  | none => exact h
  | some s =>
    show OKA (if (aH A s).1 = true then _ else _)
    split
    · exact ok_rdA (rdK_le A s) h
    · exact h
theorem isNm_i (x : Int32) : (if 1 ≤ x ∧ x ≤ 110 then (1 : Int32) else 0) = if isNm x = true then 1 else 0 := by
  unfold isNm
  by_cases h : 1 ≤ x ∧ x ≤ 110
  · rw [if_pos h, decide_eq_true h]; rfl
  · rw [if_neg h, decide_eq_false h]; rfl
theorem c_read (x : Int32) (A : AbS) (σ : St) (hA : OKA A) (h : IC A σ) : ∃ σ', fX10_read x σ = some (vRead x A, σ') ∧ IC (uRead x A) σ' ∧ CM σ σ' := by
  unfold fX10_read vRead uRead
  rcases sh_cases x with q | ⟨s, hs, rfl⟩
  · rw [p_sheetAt0 q, ob_s, sh_none q]
    exact ⟨σ, rfl, h, CM.rf⟩
  · rw [p_sheetAt1 hs, ob_s, ix_nI hs (by omega)]
    show ∃ σ', (if isS (36 + 2 * s) = true then _ else _) = some (if (aH A s).1 = true then _ else _, σ') ∧ IC (if (aH A s).1 = true then _ else _) σ' ∧ _
    have hm := hA.2.2.2.2.2.2 s hs
    obtain ⟨s1, s2, s3, s4⟩ := h.hs s hs
    rw [if_pos (isS_s hs), s1]
    by_cases g : (aH A s).1 = true
    · rw [if_pos g, if_pos g, if_pos g, if_pos rfl]
      unfold fX0_clear
      rw [ob_s]
      have hR : rdK A s = rdN (aH A s).2.2.2 (mn20 (aH A s).2.2.1) := rfl
      have h0 : IC (rdA A s 0) (sI σ 32 1 0) := by
        obtain ⟨a1, a2, a3, a4, a5, a6, a7, a8, a9, a10, a11⟩ := h
        exact ⟨a1, a2, a3, a4, a5, ⟨by simp [g_sI]; rfl, fun i y hy => absurd (tkL_get hy).1 (Nat.not_lt_zero _)⟩, a7, a8, a9.fr (fun c _ _ => sI_o (by omega)), a10, a11⟩
      have key : ∃ r, lpc (fun z => fX10_read_b38 (36 + 2 * s) z.1 z.2.1 z.2.2) (1, 0, sI σ 32 1 0) = some r ∧ (IC (rdA A s (rdK A s)) r ∧ CM σ r) := by
        refine lpc_inv (fun z => CM σ z.2.2 ∧ ∃ k, z.2.1 = nI k ∧ k ≤ (aH A s).2.2.1 ∧ ((z.1 = 1 ∧ k ≤ 20 ∧ rdN (aH A s).2.2.2 k = k ∧ IC (rdA A s k) z.2.2) ∨ (z.1 = 0 ∧ IC (rdA A s (rdK A s)) z.2.2))) (fun z => 49 - z.2.1.toNatClampNeg) _ ?_ _ ⟨CM_sI (by decide), 0, rfl, by omega, Or.inl ⟨rfl, by omega, rfl, h0⟩⟩
        rintro ⟨gg, y, u⟩ ⟨hc, k, e1, hk, hd⟩
        dsimp only at hc e1 hd
        subst e1
        have hz : ∀ m, IC (rdA A s m) u → u.1 (36 + 2 * s) 3 = nI (aH A s).2.2.1 := fun m hm => (hm.hs s hs).2.2.1
        have fin : ∀ m, IC (rdA A s m) u → (aH A s).2.2.1 = k → fX10_read_b38 (36 + 2 * s) gg (nI k) u = some (.inr u) := by
          intro m hm2 e
          unfold fX10_read_b38
          rw [if_pos (isS_s hs), hz m hm2, if_pos (nI_le (by omega) (by omega))]
        rcases hd with ⟨rfl, hk20, hr, hi⟩ | ⟨rfl, hi⟩
        · by_cases hek : k = (aH A s).2.2.1
          · right
            refine ⟨u, fin k hi hek.symm, ?_, hc⟩
            have : rdK A s = k := by
              rw [hR]
              unfold mn20
              by_cases q : (aH A s).2.2.1 < 20
              · rw [if_pos q, ← hek]; exact hr
              · rw [if_neg q, show 20 = k by omega]; exact hr
            rw [this]; exact hi
          · left
            have hkl : k < (aH A s).2.2.1 := by omega
            show ∃ z', fX10_read_b38 (36 + 2 * s) 1 (nI k) u = _ ∧ _
            have hit : fX7_itemOf (36 + 2 * s) (nI k) u = some ((aH A s).2.2.2 k) := by
              unfold fX7_itemOf
              rw [if_pos (isS_s hs), p_itemAt (n := 48) (wi_ri (isS_wi (isS_s hs))) (by omega) k (by omega), if_pos (show k < 48 by omega), ob_s, rv_w (by omega) (by omega), (hi.hs s hs).2.2.2 k (by omega)]
              rfl
            have hb : fX10_read_b38 (36 + 2 * s) 1 (nI k) u = if isNm ((aH A s).2.2.2 k) = true then (fX0_append ((aH A s).2.2.2 k) u).bind fun q6 => if q6.1 = 0 then some (.inl (0, nI k + 1, q6.2)) else some (.inl (1, nI k + 1, q6.2)) else some (.inl (0, nI k + 1, u)) := by
              unfold fX10_read_b38 fX10_read_j83 fX10_read_j84
              rw [if_pos (isS_s hs), hz k hi, if_neg (nI_ge hkl (by omega)), if_neg one_ne, hit, ob_s, p_isNumber, ob_s, isNm_i]
              simp only [if_pos (isS_s hs)]
              by_cases q : isNm ((aH A s).2.2.2 k) = true
              · rw [if_pos q, if_pos q, if_neg one_ne]
              · rw [if_neg q, if_neg q, if_pos rfl]
            have hmu : 49 - (nI (k + 1)).toNatClampNeg < 49 - (nI k).toNatClampNeg := by
              rw [nI_clamp (by omega), nI_clamp (by omega)]; omega
            have rs : rdN (aH A s).2.2.2 (k + 1) = if rdN (aH A s).2.2.2 k = k ∧ isNm ((aH A s).2.2.2 k) = true then k + 1 else rdN (aH A s).2.2.2 k := rfl
            by_cases q : isNm ((aH A s).2.2.2 k) = true
            · obtain ⟨u', e, i', kc, -⟩ := c_said (x := (aH A s).2.2.2 k) (ok_rdA (s := s) hk20 hA) hi
              have hlen : (aR (rdA A s k)).length = k := tkL_len
              rw [hb, if_pos q, e, ob_s, hlen]
              unfold uSaid at i'
              rw [hlen] at i'
              by_cases h20 : k = 20
              · rw [if_pos h20] at i' ⊢
                refine ⟨(0, nI (k + 1), u'), by rw [← nI_1]; rfl, ⟨hc.trans kc, k + 1, rfl, by omega, Or.inr ⟨rfl, ?_⟩⟩, hmu⟩
                have : rdK A s = k := by
                  rw [hR]
                  unfold mn20
                  rw [if_neg (by omega), ← h20]; exact hr
                rw [this]; exact i'
              · rw [if_neg h20] at i' ⊢
                refine ⟨(1, nI (k + 1), u'), by rw [← nI_1]; rfl, ⟨hc.trans kc, k + 1, rfl, by omega, Or.inl ⟨rfl, by omega, ?_, ?_⟩⟩, hmu⟩
                · rw [rs, if_pos ⟨hr, q⟩]
                · have : (rdA A s (k + 1)) = ((rdA A s k).1, aR (rdA A s k) ++ [(aH A s).2.2.2 k], aF (rdA A s k), aP (rdA A s k), aH (rdA A s k), aG (rdA A s k)) := by
                    show (A.1, tkL (aH A s).2.2.2 (k + 1), aF A, aP A, aH A, aG A) = (A.1, tkL (aH A s).2.2.2 k ++ [(aH A s).2.2.2 k], aF A, aP A, aH A, aG A)
                    rw [tkL_s]
                  rw [this]; exact i'
            · rw [hb, if_neg q]
              refine ⟨(0, nI (k + 1), u), by rw [← nI_1], ⟨hc, k + 1, rfl, by omega, Or.inr ⟨rfl, ?_⟩⟩, hmu⟩
              have : rdK A s = k := by
                rw [hR]
                unfold mn20
                have h1 : rdN (aH A s).2.2.2 (k + 1) = k := by rw [rs, if_neg (fun z => q z.2), hr]
                by_cases q2 : (aH A s).2.2.1 < 20
                · rw [if_pos q2]
                  have := rdN_stay h1 ((aH A s).2.2.1 - (k + 1))
                  rwa [show k + 1 + ((aH A s).2.2.1 - (k + 1)) = (aH A s).2.2.1 by omega] at this
                · rw [if_neg q2]
                  by_cases q3 : k = 20
                  · rw [← q3]; exact hr
                  · have := rdN_stay h1 (20 - (k + 1))
                    rwa [show k + 1 + (20 - (k + 1)) = 20 by omega] at this
              rw [this]; exact hi
        · right
          refine ⟨u, ?_, hi, hc⟩
          by_cases hek : (aH A s).2.2.1 = k
          · exact fin _ hi hek
          · show fX10_read_b38 (36 + 2 * s) 0 (nI k) u = _
            unfold fX10_read_b38
            rw [if_pos (isS_s hs), hz _ hi, if_neg (nI_ge (show k < (aH A s).2.2.1 by omega) (by omega)), if_pos rfl]
      obtain ⟨r, e, i, k⟩ := key
      rw [e, ob_s, i.2.2.2.2.2.1.1]
      refine ⟨r, ?_, i, k⟩
      show some (nI (tkL _ _).length, r) = _
      rw [tkL_len]
    · rw [if_neg g, if_neg g, if_neg g, if_neg one_ne]
      obtain ⟨σ', e, i, k⟩ := c_found 1 h
      rw [e, ob_s]
      exact ⟨σ', rfl, i, k⟩
theorem m_read (x : Int32) (A : AbS) (σ : St) (hA : OKA A) (h : IM A σ) : ∃ σ', fX11_read x σ = some (vRead x A, σ') ∧ IM (uRead x A) σ' ∧ MC σ σ' := by
  unfold fX11_read vRead uRead
  rcases sh_cases x with q | ⟨s, hs, rfl⟩
  · rw [p_isSheet, ob_s, if_neg (sh_out q), if_pos rfl, sh_none q]
    exact ⟨σ, rfl, h, MC.rf⟩
  · rw [p_isSheet, ob_s, if_pos (sh_in hs), if_neg one_ne, ix_nI hs (by omega)]
    show ∃ σ', _ = some (if (aH A s).1 = true then _ else _, σ') ∧ IM (if (aH A s).1 = true then _ else _) σ' ∧ _
    have hm := hA.2.2.2.2.2.2 s hs
    obtain ⟨s1, s2, s3, s4⟩ := h.hs s hs
    rw [inb_nI hs (by omega), if_pos rfl, nI_clamp (show s < 2 ^ 31 by omega), s1]
    by_cases g : (aH A s).1 = true
    · rw [if_pos g, if_pos g, if_pos g, if_neg one_ne]
      have hR : rdK A s = rdN (aH A s).2.2.2 (mn20 (aH A s).2.2.1) := rfl
      have key : ∃ r, lpc (fun z => fX11_read_b27 (nI s) z.1 z.2) (0, σ) = some r ∧ (r.1 = nI (rdK A s) ∧ Fr [53] σ r.2 ∧ ∀ i, i < rdK A s → r.2.1 53 i = (aH A s).2.2.2 i) := by
        refine lpc_inv (fun z => ∃ k, z.1 = nI k ∧ k ≤ mn20 (aH A s).2.2.1 ∧ rdN (aH A s).2.2.2 k = k ∧ Fr [53] σ z.2 ∧ ∀ i, i < k → z.2.1 53 i = (aH A s).2.2.2 i) (fun z => 49 - z.1.toNatClampNeg) _ ?_ _ ⟨0, rfl, by omega, rfl, Fr.rf, fun i hi => absurd hi (Nat.not_lt_zero _)⟩
        rintro ⟨y, u⟩ ⟨k, e1, hk, hr, f, hv⟩
        dsimp only at e1 f hv
        subst e1
        have hmn : mn20 (aH A s).2.2.1 ≤ (aH A s).2.2.1 ∧ mn20 (aH A s).2.2.1 ≤ 20 := by unfold mn20; split <;> omega
        have hmn2 : mn20 (aH A s).2.2.1 = (aH A s).2.2.1 ∨ mn20 (aH A s).2.2.1 = 20 := by unfold mn20; split <;> omega
        have rs := rdN_s (f := (aH A s).2.2.2) (m := k)
        show (∃ z', fX11_read_b27 (nI s) (nI k) u = some (.inl z') ∧ _ ∧ _) ∨ ∃ r, fX11_read_b27 (nI s) (nI k) u = some (.inr r) ∧ _
        unfold fX11_read_b27
        rw [inb_nI hs (by omega), if_pos rfl, nI_clamp (show s < 2 ^ 31 by omega), f.1 67 (by decide), s3]
        by_cases hek : k = mn20 (aH A s).2.2.1
        · right
          refine ⟨(nI k, u), ?_, by rw [hR, ← hek, hr], f, by rw [hR, ← hek, hr]; exact hv⟩
          by_cases q : nI (aH A s).2.2.1 ≤ nI k
          · rw [if_pos q]
          · rw [if_neg q, if_pos (show (20 : Int32) ≤ nI k from nI_le (a := 20) (by
              rcases hmn2 with z | z
              · exact absurd (nI_le (by omega) (by omega)) q
              · omega) (by omega))]
        · rw [if_neg (nI_ge (show k < (aH A s).2.2.1 by omega) (by omega)), if_neg (show ¬ (20 : Int32) ≤ nI k from nI_ge (b := 20) (by omega) (by omega)), (inb48 hs (show k < 48 by omega)).1, if_pos rfl, (inb48 hs (show k < 48 by omega)).2, f.1 68 (by decide), s4 k (by omega), p_isNumberM, ob_s, isNm_i]
          by_cases q : isNm ((aH A s).2.2.2 k) = true
          · left
            rw [if_pos q, if_neg one_ne, inb_nI (show k < 20 by omega) (by omega), if_pos rfl, nI_clamp (show k < 2 ^ 31 by omega), nI_1]
            refine ⟨_, rfl, ⟨k + 1, rfl, by omega, by rw [rs, if_pos ⟨hr, q⟩], f.trans (Fr_sI (by decide)), fun i hi => ?_⟩, by rw [nI_clamp (by omega)]; omega⟩
            show (sI u 53 k _).1 53 i = _
            rw [g_sI, if_pos rfl]
            by_cases e : i = k
            · rw [if_pos e, e]
            · rw [if_neg e]; exact hv i (by omega)
          · right
            rw [if_neg q, if_pos rfl]
            have hK : rdK A s = k := by
              have h1 : rdN (aH A s).2.2.2 (k + 1) = k := by rw [rs, if_neg (fun z => q z.2), hr]
              have := rdN_stay h1 (mn20 (aH A s).2.2.1 - (k + 1))
              rw [show k + 1 + (mn20 (aH A s).2.2.1 - (k + 1)) = mn20 (aH A s).2.2.1 by omega] at this
              rw [hR, this]
            exact ⟨(nI k, u), rfl, by rw [hK], f, by rw [hK]; exact hv⟩
      obtain ⟨r, e, r1, f, r2⟩ := key
      rw [e, ob_s, r1]
      obtain ⟨a1, a2, a3, a4, a5, a6, a7, a8, a9⟩ := h
      have hk := rdK_le A s
      refine ⟨_, rfl, ?_, (f.MC (by decide)).trans (MC_sI (by decide))⟩
      have fx : ∀ c, c ≠ 44 → c ≠ 53 → (sI r.2 44 12 (nI (rdK A s))).1 c = σ.1 c := fun c h1 h2 => by rw [sI_o h1, f.1 c (by simpa using h2)]
      have fj : ∀ j, j ≠ 12 → (sI r.2 44 12 (nI (rdK A s))).1 44 j = σ.1 44 j := fun j hj => by rw [g_sI, if_pos rfl, if_neg hj, f.1 44 (by decide)]
      unfold TXm at a1
      unfold SHm at a8
      unfold IM TXm SHm
      rw [fj 1 (by decide), fj 15 (by decide), fj 14 (by decide), fj 26 (by decide), fj 35 (by decide), fx 45 (by decide) (by decide), fx 50 (by decide) (by decide), fx 51 (by decide) (by decide), fx 52 (by decide) (by decide), fx 54 (by decide) (by decide), fx 55 (by decide) (by decide), fx 56 (by decide) (by decide), fx 62 (by decide) (by decide), fx 63 (by decide) (by decide), fx 65 (by decide) (by decide), fx 66 (by decide) (by decide), fx 67 (by decide) (by decide), fx 68 (by decide) (by decide)]
      refine ⟨a1, a2, a3, a4, ⟨?_, fun i y hy => ?_⟩, a6, a7, a8, a9⟩
      · rw [g_sI, if_pos rfl, if_pos rfl]
        show _ = nI (tkL _ _).length
        rw [tkL_len]
      · obtain ⟨h1, h2⟩ := tkL_get hy
        rw [h2]
        exact r2 i h1
    · rw [if_neg g, if_neg g, if_neg g, if_pos rfl]
      obtain ⟨σ', e, i, k⟩ := m_meets 1 h
      rw [e, ob_s]
      exact ⟨σ', rfl, i, k⟩
theorem l_read : ls_read Inv := fun σ a1 h => ls_mk (vRead a1) (uRead a1) (ok_read a1) (c_read a1) (m_read a1) σ h
