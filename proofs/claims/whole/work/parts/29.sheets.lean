/-! sheets -/
abbrev HT : Type := Bool × Int32 × Nat × (Nat → Int32)
def putH (H : Nat → HT) (s : Nat) (v : HT) : Nat → HT := fun t => if t = s then v else H t
def putF (f : Nat → Int32) (i : Nat) (v : Int32) : Nat → Int32 := fun j => if j = i then v else f j
theorem SHc_put {σ σ' : St} {H : Nat → HT} {s : Nat} {v : HT} (h : SHc H σ) (hf : ∀ c, 36 ≤ c → c < 44 → c ≠ 36 + 2 * s → c ≠ 36 + 2 * s + 1 → σ'.1 c = σ.1 c) (h1 : σ'.1 (36 + 2 * s) 1 = if v.1 then 0 else 1) (h2 : σ'.1 (36 + 2 * s) 2 = v.2.1) (h3 : σ'.1 (36 + 2 * s) 3 = nI v.2.2.1) (h4 : ∀ i, i < 48 → σ'.1 (36 + 2 * s + 1) i = v.2.2.2 i) : SHc (putH H s v) σ' := by
  intro t ht
  unfold putH
  by_cases e : t = s
  · subst e; rw [if_pos rfl]; exact ⟨h1, h2, h3, h4⟩
  · rw [if_neg e, hf (36 + 2 * t) (by omega) (by omega) (by omega) (by omega), hf (36 + 2 * t + 1) (by omega) (by omega) (by omega) (by omega)]
    exact h t ht
theorem SHm_put {σ σ' : St} {H : Nat → HT} {s : Nat} {v : HT} (h : SHm H σ) (hf : ∀ t, t < 4 → t ≠ s → σ'.1 65 t = σ.1 65 t ∧ σ'.1 66 t = σ.1 66 t ∧ σ'.1 67 t = σ.1 67 t ∧ ∀ i, i < 48 → σ'.1 68 (48 * t + i) = σ.1 68 (48 * t + i)) (h1 : σ'.1 65 s = if v.1 then 1 else 0) (h2 : σ'.1 66 s = v.2.1) (h3 : σ'.1 67 s = nI v.2.2.1) (h4 : ∀ i, i < 48 → σ'.1 68 (48 * s + i) = v.2.2.2 i) : SHm (putH H s v) σ' := by
  intro t ht
  unfold putH
  by_cases e : t = s
  · subst e; rw [if_pos rfl]; exact ⟨h1, h2, h3, h4⟩
  · obtain ⟨f1, f2, f3, f4⟩ := hf t ht e
    rw [if_neg e, f1, f2, f3]
    obtain ⟨g1, g2, g3, g4⟩ := h t ht
    exact ⟨g1, g2, g3, fun i hi => (f4 i hi).trans (g4 i hi)⟩
theorem IC.sh {A : AbS} {σ σ' : St} {H' : Nat → HT} {g' : Int32} (h : IC A σ) (hf : ∀ c, c < 36 → c ≠ 0 → σ'.1 c = σ.1 c) (h11 : σ'.1 0 11 = σ.1 0 11) (h2 : σ'.2 = σ.2) (h12 : σ'.1 0 12 = g') (hs : SHc H' σ') : IC (A.1, aR A, aF A, aP A, H', g') σ' := by
  obtain ⟨a1, a2, a3, a4, a5, a6, a7, a8, a9, a10, a11⟩ := h
  unfold TX at a1
  unfold PC PS at a2
  unfold IC TX PC PS WY WOK
  rw [hf 1 (by decide) (by decide), hf 2 (by decide) (by decide), hf 3 (by decide) (by decide), hf 4 (by decide) (by decide), hf 5 (by decide) (by decide), hf 6 (by decide) (by decide), hf 8 (by decide) (by decide), hf 10 (by decide) (by decide), hf 11 (by decide) (by decide), hf 15 (by decide) (by decide), hf 16 (by decide) (by decide), hf 17 (by decide) (by decide), hf 18 (by decide) (by decide), hf 27 (by decide) (by decide), hf 28 (by decide) (by decide), hf 29 (by decide) (by decide), hf 30 (by decide) (by decide), hf 32 (by decide) (by decide), hf 33 (by decide) (by decide), h11, h2]
  exact ⟨a1, a2, a3, a4, a5, a6, a7, a8, hs, h12, a11⟩
theorem IM.sh {A : AbS} {σ σ' : St} {H' : Nat → HT} {g' : Int32} (h : IM A σ) (hf : ∀ c, 44 < c → c < 65 → σ'.1 c = σ.1 c) (hj : ∀ j, j ≠ 35 → σ'.1 44 j = σ.1 44 j) (h35 : σ'.1 44 35 = g') (hs : SHm H' σ') : IM (A.1, aR A, aF A, aP A, H', g') σ' := by
  obtain ⟨a1, a2, a3, a4, a5, a6, a7, a8, a9⟩ := h
  unfold TXm at a1
  unfold IM TXm
  rw [hj 1 (by decide), hj 15 (by decide), hj 12 (by decide), hj 14 (by decide), hj 26 (by decide), hf 45 (by decide) (by decide), hf 50 (by decide) (by decide), hf 51 (by decide) (by decide), hf 52 (by decide) (by decide), hf 53 (by decide) (by decide), hf 54 (by decide) (by decide), hf 55 (by decide) (by decide), hf 56 (by decide) (by decide), hf 62 (by decide) (by decide), hf 63 (by decide) (by decide)]
  exact ⟨a1, a2, a3, a4, a5, a6, a7, hs, h35⟩
def uFd (f : Int32) (A : AbS) : AbS := (A.1, aR A, aF A, aP A, aH A, f)
theorem c_found {A : AbS} {σ : St} (f : Int32) (h : IC A σ) : ∃ σ', fX10_found f σ = some (-10 - f, σ') ∧ IC (uFd f A) σ' ∧ CM σ σ' :=
  ⟨_, rfl, h.sh (fun c _ h0 => sI_o h0) (by simp [g_sI]) rfl (by simp [g_sI]) (h.2.2.2.2.2.2.2.2.1.fr (fun c _ _ => sI_o (by omega))), CM_sI (by decide)⟩
theorem c_fset {A : AbS} {σ : St} (f : Int32) (h : IC A σ) : IC (uFd f A) (sI σ 0 12 f) ∧ CM σ (sI σ 0 12 f) :=
  ⟨h.sh (fun c _ h0 => sI_o h0) (by simp [g_sI]) rfl (by simp [g_sI]) (h.2.2.2.2.2.2.2.2.1.fr (fun c _ _ => sI_o (by omega))), CM_sI (by decide)⟩
theorem m_fset {A : AbS} {σ : St} (f : Int32) (h : IM A σ) : IM (uFd f A) (sI σ 44 35 f) ∧ MC σ (sI σ 44 35 f) :=
  ⟨h.sh (fun c h1 _ => sI_o (by omega)) (fun j hj => by simp [g_sI, hj]) (by simp [g_sI]) h.2.2.2.2.2.2.2.1, MC_sI (by decide)⟩
theorem m_meets {A : AbS} {σ : St} (f : Int32) (h : IM A σ) : ∃ σ', fX11_meets f σ = some (-10 - f, σ') ∧ IM (uFd f A) σ' ∧ MC σ σ' := ⟨_, rfl, (m_fset f h).1, (m_fset f h).2⟩
theorem isS_s {s : Nat} (h : s < 4) : isS (36 + 2 * s) = true := by
  rcases s with _ | _ | _ | _ | s
  all_goals first | rfl | omega
theorem p_sheetAt0 {σ : St} {x : Int32} (h : x < 0 ∨ nI 4 ≤ x) : fX10_sheetAt x σ = some none := by
  unfold fX10_sheetAt fX10_sheetAt_j22
  rcases h with h | h
  · rw [if_pos h]
  · by_cases h0 : x < 0
    · rw [if_pos h0]
    · rw [if_neg h0, if_pos (show (4 : Int32) ≤ x from h)]
theorem p_sheetAt1 {σ : St} {s : Nat} (h : s < 4) : fX10_sheetAt (nI s) σ = some (some (36 + 2 * s)) := by
  unfold fX10_sheetAt
  rw [if_neg (nI_pos (by omega)), if_neg (show ¬ (4 : Int32) ≤ nI s from nI_ge (b := 4) h (by omega)), inb_nI h (by omega), if_pos rfl, nI_clamp (by omega)]
theorem sh3 {x : Int32} : (0 ≤ x ∧ x ≤ 3) ↔ ix 4 x ≠ none := by
  have := ix_in (n := 4) (x := x) (by omega)
  rwa [show nI 4 - 1 = (3 : Int32) from rfl] at this
theorem sh_in {s : Nat} (h : s < 4) : 0 ≤ nI s ∧ nI s ≤ 3 := sh3.mpr (by rw [ix_nI h (by omega)]; exact fun q => by cases q)
theorem sh_out {x : Int32} (h : x < 0 ∨ nI 4 ≤ x) : ¬ (0 ≤ x ∧ x ≤ 3) := fun q => sh3.mp q (by rcases h with h | h; exact ix_neg h; exact ix_ge h (by omega))
theorem sh_none {x : Int32} (h : x < 0 ∨ nI 4 ≤ x) : ix 4 x = none := by rcases h with h | h; exact ix_neg h; exact ix_ge h (by omega)
theorem sh_cases (x : Int32) : (x < 0 ∨ nI 4 ≤ x) ∨ ∃ s, s < 4 ∧ x = nI s := by
  rcases pk_ix x (show 4 < 2 ^ 31 by omega) with q | q | q
  · exact Or.inl (Or.inl q)
  · exact Or.inl (Or.inr q)
  · exact Or.inr q
theorem p_fillI {r n : Nat} {v : Int32} {σ : St} (hw : wi r = some n) (hn : n < 2 ^ 31) : ∃ σ', fJ7_fill_53178 r v σ = some σ' ∧ (∀ i, i < n → σ'.1 r i = v) ∧ (∀ c, c ≠ r → σ'.1 c = σ.1 c) ∧ σ'.2 = σ.2 := by
  have key : ∃ q, lpc (fun s => fJ7_fill_53178_b5 r v (nI n) s.1 s.2) (0, σ) = some q ∧ ((∀ i, i < n → q.1 r i = v) ∧ (∀ c, c ≠ r → q.1 c = σ.1 c) ∧ q.2 = σ.2) := by
    refine lpc_cnt (a := 0) (b := n) (fun k s => s.1 = nI k ∧ (∀ i, i < k → s.2.1 r i = v) ∧ (∀ c, c ≠ r → s.2.1 c = σ.1 c) ∧ s.2.2 = σ.2) _ (by omega) ?_ ?_ ⟨rfl, fun i hi => absurd hi (Nat.not_lt_zero _), fun _ _ => rfl, rfl⟩
    · rintro k ⟨x, τ⟩ _ hk ⟨e1, e2, e3, e4⟩
      dsimp only at e1 e2 e3 e4
      subst e1
      refine ⟨(nI (k + 1), sI τ r k v), ?_, rfl, fun i hi => ?_, fun c hc => (sI_o hc).trans (e3 c hc), e4⟩
      · show fJ7_fill_53178_b5 r v (nI n) (nI k) τ = _
        unfold fJ7_fill_53178_b5
        rw [hw, ob_s, if_neg (nI_ge hk hn), inb_nI hk (by omega), if_pos rfl, nI_clamp (by omega), nI_1]
      · show (sI τ r k v).1 r i = v
        rw [g_sI, if_pos rfl]
        by_cases q : i = k
        · rw [if_pos q]
        · rw [if_neg q]; exact e2 i (by omega)
    · rintro ⟨x, τ⟩ ⟨e1, e2, e3, e4⟩
      dsimp only at e1 e2 e3 e4
      subst e1
      refine ⟨τ, ?_, e2, e3, e4⟩
      show fJ7_fill_53178_b5 r v (nI n) (nI n) τ = _
      unfold fJ7_fill_53178_b5
      rw [hw, ob_s, if_pos (Int32.le_refl _)]
  obtain ⟨q, e1, e2⟩ := key
  refine ⟨q, ?_, e2⟩
  unfold fJ7_fill_53178
  rw [hw, ob_s]
  show (lpc (fun s => fJ7_fill_53178_b5 r v (nI n) s.1 s.2) (0, σ)).bind _ = _
  rw [e1, ob_s]
/-! sheet -/
abbrev gSh (f n : Int32) : Prop := (0 ≤ f ∧ f ≤ 2) ∧ n ≤ 48
def vSheet (x f n : Int32) (_A : AbS) : Int32 := Option.elim (ix 4 x) (-2) (fun _ => if gSh f n then (if 0 ≤ n then n else -10 - 5) else -2)
def uSheet (x f n : Int32) (A : AbS) : AbS := Option.elim (ix 4 x) A (fun s => if gSh f n then (if 0 ≤ n then (A.1, aR A, aF A, aP A, putH (aH A) s (true, f, n.toNatClampNeg, fun _ => 0), aG A) else uFd 5 A) else A)
theorem ok_H {A : AbS} {s : Nat} {v : HT} {g : Int32} (h : OKA A) (hv : v.2.2.1 ≤ 48) : OKA (A.1, aR A, aF A, aP A, putH (aH A) s v, g) := by
  obtain ⟨h1, h2, h3, h4, h5, h6, h7⟩ := h
  refine ⟨h1, h2, h3, h4, h5, h6, fun t ht => ?_⟩
  show (putH (aH A) s v t).2.2.1 ≤ 48
  unfold putH
  split
  · exact hv
  · exact h7 t ht
theorem ok_sheet (x f n : Int32) (A : AbS) (h : OKA A) : OKA (uSheet x f n A) := by
  unfold uSheet
  cases ix 4 x with
  | none => exact h
  | some s =>
    show OKA (if gSh f n then _ else _)
    split
    · rename_i g
      split
      · rename_i g0
        obtain ⟨m, hm, rfl⟩ := i32_nat (m := 48) (by omega) g0 g.2
        exact ok_H h (by show (nI m).toNatClampNeg ≤ 48; rw [nI_clamp (by omega)]; exact hm)
      · exact h
    · exact h
theorem c_sheet (x f n : Int32) (A : AbS) (σ : St) (h : IC A σ) : ∃ σ', fX10_sheet x f n σ = some (vSheet x f n A, σ') ∧ IC (uSheet x f n A) σ' ∧ CM σ σ' := by
  unfold fX10_sheet fX10_sheet_j27 vSheet uSheet
  rcases sh_cases x with q | ⟨s, hs, rfl⟩
  · rw [p_sheetAt0 q, ob_s, sh_none q]
    exact ⟨σ, rfl, h, CM.rf⟩
  · rw [p_sheetAt1 hs, ob_s, ix_nI hs (by omega)]
    show ∃ σ', (if isS (36 + 2 * s) = true then _ else _) = some (if gSh f n then _ else _, σ') ∧ IC (if gSh f n then _ else _) σ' ∧ _
    rw [if_pos (isS_s hs), p_within, ob_s]
    by_cases g1 : 0 ≤ f ∧ f ≤ 2
    · rw [if_pos g1, if_neg one_ne]
      by_cases g2 : n ≤ 48
      · have gg : gSh f n := ⟨g1, g2⟩
        rw [if_pos g2, if_pos gg, if_pos gg]
        by_cases g0 : 0 ≤ n
        · rw [if_pos g0, if_pos g0, if_pos g0]
          unfold fX7_renew
          obtain ⟨τ, e, t1, t2, t3⟩ := p_fillI (r := 36 + 2 * s + 1) (v := 0) (σ := σ) (isS_wi (isS_s hs)) (by omega)
          rw [if_pos (isS_s hs), e, ob_s, ob_s]
          obtain ⟨m, hm, rfl⟩ := i32_nat (m := 48) (by omega) g0 g2
          refine ⟨_, rfl, h.sh (fun c hc h0 => ?_) ?_ t3 ?_ (SHc_put h.2.2.2.2.2.2.2.2.1 (fun c _ _ h1 h2 => ?_) ?_ ?_ ?_ (fun i hi => ?_)), ?_⟩
          · rw [sI_o (by omega), sI_o (by omega), sI_o (by omega), t2 c (by omega)]
          · rw [sI_o (by omega), sI_o (by omega), sI_o (by omega), t2 0 (by omega)]
          · rw [sI_o (by omega), sI_o (by omega), sI_o (by omega), t2 0 (by omega)]; exact h.2.2.2.2.2.2.2.2.2.1
          · rw [sI_o h1, sI_o h1, sI_o h1, t2 c h2]
          · simp [g_sI]
          · simp [g_sI]
          · show (sI _ (36 + 2 * s) 3 (nI m)).1 (36 + 2 * s) 3 = nI (nI m).toNatClampNeg
            rw [nI_clamp (by omega)]; simp [g_sI]
          · rw [sI_o (by omega), sI_o (by omega), sI_o (by omega)]; exact t1 i hi
          · exact CM.trans ⟨fun c hc => t2 c (by omega), fun c _ => by rw [t3]⟩ (((CM_sI (by omega)).trans (CM_sI (by omega))).trans (CM_sI (by omega)))
        · rw [if_neg g0, if_neg g0, if_neg g0]
          exact c_found 5 h
      · rw [if_neg g2, if_neg (fun q => g2 q.2), if_neg (fun q => g2 q.2)]
        exact ⟨σ, rfl, h, CM.rf⟩
    · rw [if_neg g1, if_pos rfl, if_neg (fun q => g1 q.1), if_neg (fun q => g1 q.1)]
      exact ⟨σ, rfl, h, CM.rf⟩
theorem inb48 {s i : Nat} (hs : s < 4) (hi : i < 48) : inb (48 * nI s + nI i) 192 = true ∧ (48 * nI s + nI i).toNatClampNeg = 48 * s + i := by
  rw [show (48 : Int32) = nI 48 from rfl, pk_mul, nI_add, nI_clamp (by omega)]
  exact ⟨inb_nI (by omega) (by omega), rfl⟩
theorem m_sheet (x f n : Int32) (A : AbS) (σ : St) (h : IM A σ) : ∃ σ', fX11_sheet x f n σ = some (vSheet x f n A, σ') ∧ IM (uSheet x f n A) σ' ∧ MC σ σ' := by
  unfold fX11_sheet fX11_sheet_j22 vSheet uSheet
  rcases sh_cases x with q | ⟨s, hs, rfl⟩
  · rw [p_isSheet, ob_s, if_neg (sh_out q), if_pos rfl, sh_none q]
    exact ⟨σ, rfl, h, MC.rf⟩
  · rw [p_isSheet, ob_s, if_pos (sh_in hs), if_neg one_ne, ix_nI hs (by omega)]
    show ∃ σ', _ = some (if gSh f n then _ else _, σ') ∧ IM (if gSh f n then _ else _) σ' ∧ _
    rw [p_in, ob_s]
    by_cases g1 : 0 ≤ f ∧ f ≤ 2
    · rw [if_pos g1, if_neg one_ne]
      by_cases g2 : n ≤ 48
      · have gg : gSh f n := ⟨g1, g2⟩
        rw [if_pos g2, if_pos gg, if_pos gg]
        by_cases g0 : 0 ≤ n
        · rw [if_pos g0, if_pos g0, if_pos g0, inb_nI hs (by omega), if_pos rfl, nI_clamp (show s < 2 ^ 31 by omega)]
          obtain ⟨m, hm, rfl⟩ := i32_nat (m := 48) (by omega) g0 g2
          generalize hτ : sI (sI (sI σ 65 s 1) 66 s f) 67 s (nI m) = τ
          have key : ∃ r, lpc (fun z => fX11_sheet_b59 (nI s) (nI m) z.1 z.2) (0, τ) = some r ∧ ((∀ i, i < 48 → r.1 68 (48 * s + i) = 0) ∧ (∀ j, ¬ (48 * s ≤ j ∧ j < 48 * s + 48) → r.1 68 j = τ.1 68 j) ∧ Fr [68] τ r) := by
            refine lpc_cnt (a := 0) (b := 48) (fun k z => z.1 = nI k ∧ (∀ i, i < k → z.2.1 68 (48 * s + i) = 0) ∧ (∀ j, ¬ (48 * s ≤ j ∧ j < 48 * s + 48) → z.2.1 68 j = τ.1 68 j) ∧ Fr [68] τ z.2) _ (by omega) ?_ ?_ ⟨rfl, fun i hi => absurd hi (Nat.not_lt_zero _), fun _ _ => rfl, Fr.rf⟩
            · rintro k ⟨y, u⟩ _ hk ⟨e1, e2, e3, e4⟩
              dsimp only at e1 e2 e3 e4
              subst e1
              refine ⟨(nI (k + 1), sI u 68 (48 * s + k) 0), ?_, rfl, fun i hi => ?_, fun j hj => ?_, e4.trans (Fr_sI (by decide))⟩
              · show fX11_sheet_b59 (nI s) (nI m) (nI k) u = _
                unfold fX11_sheet_b59
                rw [if_neg (show ¬ (48 : Int32) ≤ nI k from nI_ge (b := 48) hk (by omega)), (inb48 hs hk).1, if_pos rfl, (inb48 hs hk).2, nI_1]
              · show (sI u 68 (48 * s + k) 0).1 68 (48 * s + i) = 0
                rw [g_sI, if_pos rfl]
                by_cases q : i = k
                · rw [if_pos (by omega)]
                · rw [if_neg (by omega)]; exact e2 i (by omega)
              · show (sI u 68 (48 * s + k) 0).1 68 j = _
                rw [g_sI, if_pos rfl, if_neg (by omega)]; exact e3 j hj
            · rintro ⟨y, u⟩ ⟨e1, e2, e3, e4⟩
              dsimp only at e1 e2 e3 e4
              subst e1
              refine ⟨u, ?_, e2, e3, e4⟩
              show fX11_sheet_b59 (nI s) (nI m) (nI 48) u = _
              unfold fX11_sheet_b59
              rw [if_pos (show (48 : Int32) ≤ nI 48 from Int32.le_refl _)]
          obtain ⟨r, e, r1, r2, r3⟩ := key
          rw [e, ob_s]
          have t65 : τ.1 65 = upd (σ.1 65) s 1 := by rw [← hτ]; rfl
          have t66 : τ.1 66 = upd (σ.1 66) s f := by rw [← hτ]; rfl
          have t67 : τ.1 67 = upd (σ.1 67) s (nI m) := by rw [← hτ]; rfl
          have t68 : τ.1 68 = σ.1 68 := by rw [← hτ]; rfl
          refine ⟨_, rfl, h.sh (fun c h1 h2 => ?_) (fun j _ => ?_) ?_ (SHm_put h.2.2.2.2.2.2.2.1 (fun t ht hne => ⟨?_, ?_, ?_, fun i hi => ?_⟩) ?_ ?_ ?_ r1), ?_⟩
          · rw [r3.1 c (by simp; omega), ← hτ, sI_o (by omega), sI_o (by omega), sI_o (by omega)]
          · rw [r3.1 44 (by decide), ← hτ]; rfl
          · rw [r3.1 44 (by decide), ← hτ]; exact h.2.2.2.2.2.2.2.2
          · rw [r3.1 65 (by decide), t65, pk_un hne]
          · rw [r3.1 66 (by decide), t66, pk_un hne]
          · rw [r3.1 67 (by decide), t67, pk_un hne]
          · rw [r2 _ (by omega), t68]
          · rw [r3.1 65 (by decide), t65, pk_us]; rfl
          · rw [r3.1 66 (by decide), t66, pk_us]
          · rw [r3.1 67 (by decide), t67, pk_us]
            show nI m = nI (nI m).toNatClampNeg
            rw [nI_clamp (by omega)]
          · refine MC.trans ?_ (r3.MC (by decide))
            rw [← hτ]
            exact ((MC_sI (by decide)).trans (MC_sI (by decide))).trans (MC_sI (by decide))
        · rw [if_neg g0, if_neg g0, if_neg g0]
          exact m_meets 5 h
      · rw [if_neg g2, if_neg (fun q => g2 q.2), if_neg (fun q => g2 q.2)]
        exact ⟨σ, rfl, h, MC.rf⟩
    · rw [if_neg g1, if_pos rfl, if_neg (fun q => g1 q.1), if_neg (fun q => g1 q.1)]
      exact ⟨σ, rfl, h, MC.rf⟩
theorem l_sheet : ls_sheet Inv := fun σ a1 a2 a3 h => ls_mk (vSheet a1 a2 a3) (uSheet a1 a2 a3) (ok_sheet a1 a2 a3) (fun A σ _ h => c_sheet a1 a2 a3 A σ h) (fun A σ _ h => m_sheet a1 a2 a3 A σ h) σ h
