/-! from, said, leave -/
theorem l_from : ls_from Inv := fun σ b h => ls_mk (fun A => if 0 ≤ b ∧ b ≤ 98 then aF A else -2) (fun A => if 0 ≤ b ∧ b ≤ 98 then (A.1, aR A, b, aP A, aH A, aG A) else A) (fun A hA => by split; exact hA; exact hA) (fun A σ hA h => by
    unfold fX10_from
    rw [p_within, ob_s]
    by_cases g : 0 ≤ b ∧ b ≤ 98
    · rw [if_pos g, if_pos g, if_pos g, if_neg one_ne, h.2.2.2.2.2.2.1]
      obtain ⟨a1, a2, a3, a4, a5, a6, a7, a8, a9, a10, a11⟩ := h
      exact ⟨_, rfl, ⟨a1, a2, a3, a4, a5, a6, by simp [g_sI], a8, a9.fr (fun c _ _ => by rw [sI_o (by omega)]), a10, a11⟩, CM_sI (by decide)⟩
    · rw [if_neg g, if_neg g, if_neg g, if_pos rfl]
      exact ⟨σ, rfl, h, CM.rf⟩) (fun A σ hA h => by
    unfold fX11_from
    rw [p_in, ob_s]
    by_cases g : 0 ≤ b ∧ b ≤ 98
    · rw [if_pos g, if_pos g, if_pos g, if_neg one_ne, h.2.2.2.2.2.1]
      obtain ⟨a1, a2, a3, a4, a5, a6, a7, a8, a9⟩ := h
      exact ⟨_, rfl, ⟨a1, a2, a3, a4, a5, by simp [g_sI], a7, a8, a9⟩, MC_sI (by decide)⟩
    · rw [if_neg g, if_neg g, if_neg g, if_pos rfl]
      exact ⟨σ, rfl, h, MC.rf⟩) σ h
theorem RCr_snoc {l : List Int32} {z z' : Int32} {f f' : Nat → Int32} {x : Int32} (H : RCr l z f) (hz : z' = nI l.length + 1) (hf : ∀ j, f' j = if j = l.length then x else f j) : RCr (l ++ [x]) z' f' := by
  refine ⟨by rw [hz, nI_1]; simp, fun i y hy => ?_⟩
  rw [hf]
  by_cases e : i = l.length
  · subst e
    rw [List.getElem?_append_right (Nat.le_refl _), Nat.sub_self] at hy
    cases hy
    rw [if_pos rfl]
  · have hlt : i < l.length := by
      have := (List.getElem?_eq_some_iff.mp hy).1
      rw [List.length_append] at this
      simp at this; omega
    rw [List.getElem?_append_left hlt] at hy
    rw [if_neg e]
    exact H.2 i y hy
def uSaid (x : Int32) (A : AbS) : AbS := if (aR A).length = 20 then A else (A.1, aR A ++ [x], aF A, aP A, aH A, aG A)
theorem c_said {A : AbS} {σ : St} {x : Int32} (hA : OKA A) (h : IC A σ) : ∃ σ', fX0_append x σ = some (if (aR A).length = 20 then 0 else 1, σ') ∧ IC (uSaid x A) σ' ∧ CM σ σ' ∧ (∀ c, c ≠ 32 → c ≠ 33 → σ'.1 c = σ.1 c) := by
  have hl := hA.2.2.2.2.1
  unfold fX0_append uSaid
  rw [h.2.2.2.2.2.1.1, if_neg (nI_pos (by omega))]
  by_cases e : (aR A).length = 20
  · rw [if_pos e, if_pos e, if_neg (show ¬ nI (aR A).length < (20 : Int32) from by rw [e]; decide)]
    exact ⟨σ, rfl, h, CM.rf, fun _ _ _ => rfl⟩
  · rw [if_neg e, if_neg e, if_pos (show nI (aR A).length < (20 : Int32) from nI_lt (b := 20) (by omega) (by omega)), inb_nI (show (aR A).length < 20 by omega) (by omega), if_pos rfl, nI_clamp (by omega)]
    obtain ⟨a1, a2, a3, a4, a5, a6, a7, a8, a9, a10, a11⟩ := h
    refine ⟨_, rfl, ⟨a1, a2, a3, a4, a5, RCr_snoc a6 (by simp [g_sI]) (fun j => by simp [g_sI]), a7, a8, a9.fr (fun c _ _ => by rw [sI_o (by omega), sI_o (by omega)]), a10, a11⟩, (CM_sI (by decide)).trans (CM_sI (by decide)), fun c h1 h2 => by rw [sI_o h1, sI_o h2]⟩
theorem ok_said (x : Int32) (A : AbS) (h : OKA A) : OKA (uSaid x A) := by
  unfold uSaid
  split
  · exact h
  · obtain ⟨h1, h2, h3, h4, h5, h6⟩ := h
    exact ⟨h1, h2, h3, h4, by show (aR A ++ [x]).length ≤ 20; rw [List.length_append]; simp; omega, h6⟩
theorem l_said : ls_said Inv := fun σ n h => ls_mk (fun A => if 1 ≤ n ∧ n ≤ 110 then (if (aR A).length = 20 then -4 else nI (aR A).length + 1) else -2) (fun A => if 1 ≤ n ∧ n ≤ 110 then uSaid n A else A) (fun A hA => by split; exact ok_said _ _ hA; exact hA) (fun A σ hA h => by
    unfold fX10_said
    rw [p_isNumber, ob_s]
    by_cases g : 1 ≤ n ∧ n ≤ 110
    · rw [if_pos g, if_pos g, if_pos g, if_neg one_ne]
      obtain ⟨σ', e, i, k, -⟩ := c_said (x := n) hA h
      refine ⟨σ', ?_, i, k⟩
      rw [e, ob_s]
      by_cases e : (aR A).length = 20
      · rw [if_pos e, if_pos e]; rfl
      · rw [if_neg e, if_neg e]
        unfold uSaid at i
        rw [if_neg e] at i
        show (if (1 : Int32) = 0 then some (_, σ') else some (σ'.1 32 1, σ')) = _
        rw [if_neg one_ne, i.2.2.2.2.2.1.1]
        show some (nI (aR A ++ [n]).length, σ') = _
        rw [List.length_append, nI_1]; rfl
    · rw [if_neg g, if_neg g, if_neg g, if_pos rfl]
      exact ⟨σ, rfl, h, CM.rf⟩) (fun A σ hA h => by
    have hl := hA.2.2.2.2.1
    unfold fX11_said uSaid
    rw [p_isNumberM, ob_s]
    by_cases g : 1 ≤ n ∧ n ≤ 110
    · rw [if_pos g, if_pos g, if_pos g, if_neg one_ne, h.2.2.2.2.1.1]
      by_cases e : (aR A).length = 20
      · rw [if_pos e, if_pos e, if_pos (show nI (aR A).length = (20 : Int32) from by rw [e]; rfl)]
        exact ⟨σ, rfl, h, MC.rf⟩
      · rw [if_neg e, if_neg e, if_neg (show ¬ nI (aR A).length = (20 : Int32) from fun q => e (nI_inj (b := 20) (by omega) (by omega) q)), inb_nI (show (aR A).length < 20 by omega) (by omega), if_pos rfl, nI_clamp (by omega)]
        obtain ⟨a1, a2, a3, a4, a5, a6, a7, a8, a9⟩ := h
        exact ⟨_, rfl, ⟨a1, a2, a3, a4, RCr_snoc a5 (by simp [g_sI]) (fun j => by simp [g_sI]), a6, a7, a8, a9⟩, (MC_sI (by decide)).trans (MC_sI (by decide))⟩
    · rw [if_neg g, if_neg g, if_neg g, if_pos rfl]
      exact ⟨σ, rfl, h, MC.rf⟩) σ h
theorem l_leave : ls_leave Inv := fun σ h => ls_mk (fun A => nI (aP A).length) (fun A => (A.1, aR A, aF A, [], aH A, aG A)) (fun A h => ⟨h.1, h.2.1, h.2.2.1, h.2.2.2.1, h.2.2.2.2.1, ⟨Nat.zero_le _, fun x hx => by cases hx⟩, h.2.2.2.2.2.2⟩) (fun A σ hA h => by
    unfold fX10_leave
    rw [h.2.2.2.2.2.2.2.1.1.1]
    obtain ⟨a1, a2, a3, a4, a5, a6, a7, a8, a9, a10, a11⟩ := h
    refine ⟨_, rfl, ⟨a1, a2, a3, a4, a5, a6, a7, ⟨⟨by simp [g_sI]; rfl, fun i x hx => by have hx' : ([] : List (Nat × Nat))[i]? = some x := hx; simp at hx'⟩, fun i => i, fun i hi => absurd hi (Nat.not_lt_zero _), fun i j _ hj => absurd hj (Nat.not_lt_zero _), fun p hp => absurd hp (Nat.not_lt_zero _)⟩, a9.fr (fun c _ _ => by rw [sI_o (by omega)]), a10, a11⟩, CM_sI (by decide)⟩) (fun A σ hA h => by
    unfold fX11_leave
    rw [h.2.2.2.2.2.2.1.1]
    obtain ⟨a1, a2, a3, a4, a5, a6, a7, a8, a9⟩ := h
    exact ⟨_, rfl, ⟨a1, a2, a3, a4, a5, a6, ⟨by simp [g_sI]; rfl, fun i x hx => by have hx' : ([] : List (Nat × Nat))[i]? = some x := hx; simp at hx'⟩, a8, a9⟩, MC_sI (by decide)⟩) σ h
/-! wrong, blame -/
def isWr (l : List Int32) (f : Int32) (k : Nat) : Bool := decide (l.getD k 0 ≠ (if k = 0 then f else l.getD (k - 1) 0) + 1)
def fstT (p : Nat → Bool) : Nat → Int32
  | 0 => -1
  | n + 1 => if fstT p n = -1 then (if p n then nI n else -1) else fstT p n
def cntT (p : Nat → Bool) : Nat → Nat
  | 0 => 0
  | n + 1 => cntT p n + if p n then 1 else 0
theorem fstT_stay {p : Nat → Bool} {i : Nat} {x : Int32} (hx : x ≠ -1) (h : fstT p i = x) : ∀ d, fstT p (i + d) = x := by
  intro d
  induction d with
  | zero => exact h
  | succ d ih =>
    show (if fstT p (i + d) = -1 then _ else fstT p (i + d)) = x
    rw [ih, if_neg hx]
theorem RCr.get {l : List Int32} {z : Int32} {f : Nat → Int32} (h : RCr l z f) {k : Nat} (hk : k < l.length) : f k = l.getD k 0 := by
  rw [h.2 k _ (List.getElem?_eq_getElem hk), List.getD_eq_getElem?_getD, List.getElem?_eq_getElem hk]; rfl
theorem p_item33 {σ : St} {b : Nat} (h : b < 20) : fX10_itemAt 33 (nI b) σ = some (σ.1 33 b) := by
  rw [p_itemAt (n := 20) rfl (by omega) b (by omega), if_pos h, rv_w (by decide) (by decide)]
theorem p_isWrong {A : AbS} {σ : St} {k : Nat} (hA : OKA A) (h : IC A σ) (hk : k < (aR A).length) : fX0_isWrong (nI k) σ = some (if isWr (aR A) (aF A) k then 1 else 0) := by
  have hl := hA.2.2.2.2.1
  have hr := h.2.2.2.2.2.1
  have j : ∀ t, fX0_isWrong_j21 (nI k) t σ = some (if decide ((aR A).getD k 0 ≠ t + 1) then 1 else 0) := by
    intro t
    unfold fX0_isWrong_j21
    rw [p_item33 (by omega), ob_s, hr.get hk]
    by_cases e : (aR A).getD k 0 = t + 1
    · rw [if_pos e, if_neg (by simpa using e)]
    · rw [if_neg e, if_pos (by simpa using e)]
  unfold fX0_isWrong isWr
  by_cases h0 : k = 0
  · subst h0
    rw [if_pos (show nI 0 = (0 : Int32) from rfl), if_pos rfl, j, h.2.2.2.2.2.2.1]
  · obtain ⟨m, rfl⟩ : ∃ m, k = m + 1 := ⟨k - 1, by omega⟩
    rw [if_neg (nI_ne0 (by omega) (by omega)), if_neg h0, nI_pred, p_item33 (by omega), ob_s, j, hr.get (by omega)]
    rfl
theorem p_firstWrong {A : AbS} {σ : St} (hA : OKA A) (h : IC A σ) : fX0_firstWrong σ = some (fstT (isWr (aR A) (aF A)) (aR A).length) := by
  have hl := hA.2.2.2.2.1
  have hr := h.2.2.2.2.2.1
  have key : ∃ r, lpc (fun s => fX0_firstWrong_b2 s σ) 0 = some r ∧ Sum.elim (fun x => some x) (fun _ => some (-1 : Int32)) r = some (fstT (isWr (aR A) (aF A)) (aR A).length) := by
    refine lpc_inv (fun s => ∃ i, i ≤ (aR A).length ∧ s = nI i ∧ fstT (isWr (aR A) (aF A)) i = -1) (fun s => (aR A).length - s.toNatClampNeg) _ ?_ _ ⟨0, by omega, rfl, rfl⟩
    rintro s ⟨i, hi, rfl, hf⟩
    unfold fX0_firstWrong_b2
    rw [hr.1]
    by_cases e : i = (aR A).length
    · refine Or.inr ⟨_, by rw [e, if_pos (Int32.le_refl _)], ?_⟩
      rw [← e, hf]; rfl
    · rw [if_neg (nI_ge (show i < (aR A).length by omega) (by omega)), p_isWrong hA h (by omega), ob_s]
      cases hw : isWr (aR A) (aF A) i with
      | false =>
        refine Or.inl ⟨nI (i + 1), by rw [← nI_1]; rfl, ⟨i + 1, by omega, rfl, ?_⟩, ?_⟩
        · show (if fstT _ i = -1 then (if isWr (aR A) (aF A) i = true then _ else _) else _) = _
          rw [if_pos hf, hw]; rfl
        · rw [nI_clamp (by omega), nI_clamp (by omega)]; omega
      | true =>
        refine Or.inr ⟨.inl (nI i), rfl, ?_⟩
        have h1 : fstT (isWr (aR A) (aF A)) (i + 1) = nI i := by
          show (if fstT _ i = -1 then (if isWr (aR A) (aF A) i = true then _ else _) else _) = _
          rw [if_pos hf, hw]; rfl
        have := fstT_stay (nI_nm1 (by omega)) h1 ((aR A).length - (i + 1))
        rw [show i + 1 + ((aR A).length - (i + 1)) = (aR A).length by omega] at this
        rw [this]; rfl
  obtain ⟨r, e1, e2⟩ := key
  unfold fX0_firstWrong
  rw [e1, ob_s]
  exact e2
theorem p_allWrong {A : AbS} {σ : St} (hA : OKA A) (h : IC A σ) : fX0_allWrong σ = some (nI (cntT (isWr (aR A) (aF A)) (aR A).length)) := by
  have hl := hA.2.2.2.2.1
  have hr := h.2.2.2.2.2.1
  have key : ∃ r, lpc (fun s => fX0_allWrong_b4 s.1 s.2 σ) (0, 0) = some r ∧ r = nI (cntT (isWr (aR A) (aF A)) (aR A).length) := by
    refine lpc_cnt (a := 0) (b := (aR A).length) (fun i s => s = (nI (cntT (isWr (aR A) (aF A)) i), nI i)) _ (by omega) ?_ ?_ rfl
    · rintro i s _ hi rfl
      unfold fX0_allWrong_b4 fX0_allWrong_j23
      rw [hr.1, if_neg (nI_ge hi (by omega)), p_isWrong hA h hi, ob_s]
      cases hw : isWr (aR A) (aF A) i with
      | false =>
        refine ⟨_, rfl, ?_⟩
        rw [nI_1]
        show _ = (nI (cntT _ i + if isWr (aR A) (aF A) i = true then 1 else 0), _)
        rw [hw]; rfl
      | true =>
        refine ⟨_, rfl, ?_⟩
        rw [nI_1, nI_1]
        show _ = (nI (cntT _ i + if isWr (aR A) (aF A) i = true then 1 else 0), _)
        rw [hw]; rfl
    · rintro s rfl
      refine ⟨_, ?_, rfl⟩
      unfold fX0_allWrong_b4
      rw [hr.1, if_pos (Int32.le_refl _)]
  obtain ⟨r, e1, e2⟩ := key
  unfold fX0_allWrong
  rw [e1, ob_s, e2]
theorem m_wrongOf {A : AbS} {σ : St} (w : Int32) (hA : OKA A) (h : IM A σ) : fX11_wrongOf w σ = some (if w = 0 then fstT (isWr (aR A) (aF A)) (aR A).length else nI (cntT (isWr (aR A) (aF A)) (aR A).length)) := by
  have hl := hA.2.2.2.2.1
  have hr := h.2.2.2.2.1
  have key : ∃ r, lpc (fun s => fX11_wrongOf_b7 w s.1 s.2.1 s.2.2 σ) (-1, 0, 0) = some r ∧ r = (fstT (isWr (aR A) (aF A)) (aR A).length, nI (cntT (isWr (aR A) (aF A)) (aR A).length)) := by
    refine lpc_cnt (a := 0) (b := (aR A).length) (fun i s => s = (fstT (isWr (aR A) (aF A)) i, nI (cntT (isWr (aR A) (aF A)) i), nI i)) _ (by omega) ?_ ?_ rfl
    · rintro i s _ hi rfl
      have j : ∀ t, t = (if i = 0 then aF A else (aR A).getD (i - 1) 0) → ∃ s', fX11_wrongOf_j44 w (fstT (isWr (aR A) (aF A)) i) (nI (cntT (isWr (aR A) (aF A)) i)) (nI i) ((aR A).getD i 0) t σ = some (.inl s') ∧ s' = (fstT (isWr (aR A) (aF A)) (i + 1), nI (cntT (isWr (aR A) (aF A)) (i + 1)), nI (i + 1)) := by
        intro t ht
        have hw : isWr (aR A) (aF A) i = decide ((aR A).getD i 0 ≠ t + 1) := by rw [ht]; rfl
        have f1 : fstT (isWr (aR A) (aF A)) (i + 1) = if fstT (isWr (aR A) (aF A)) i = -1 then (if isWr (aR A) (aF A) i then nI i else -1) else fstT (isWr (aR A) (aF A)) i := rfl
        have c1 : cntT (isWr (aR A) (aF A)) (i + 1) = cntT (isWr (aR A) (aF A)) i + if isWr (aR A) (aF A) i then 1 else 0 := rfl
        unfold fX11_wrongOf_j44 fX11_wrongOf_j54 fX11_wrongOf_j71 fX11_wrongOf_j72 fX11_wrongOf_j84
        rw [f1, c1]
        by_cases e : (aR A).getD i 0 = t + 1
        · rw [hw, if_pos e, if_pos rfl, if_pos rfl, decide_eq_false (by simpa using e)]
          refine ⟨_, rfl, ?_⟩
          rw [nI_1]
          by_cases q : fstT (isWr (aR A) (aF A)) i = -1
          · rw [if_pos q, q]; exact Prod.ext rfl (Prod.ext (nI_add _ 0) rfl)
          · rw [if_neg q]; exact Prod.ext rfl (Prod.ext (nI_add _ 0) rfl)
        · rw [hw, if_neg e, if_neg one_ne, decide_eq_true (by simpa using e), if_pos rfl, if_pos rfl]
          by_cases q : fstT (isWr (aR A) (aF A)) i = -1
          · rw [if_pos q, if_pos q, if_neg one_ne]
            exact ⟨_, rfl, by rw [nI_1, nI_1]⟩
          · rw [if_neg q, if_neg q, if_neg one_ne]
            exact ⟨_, rfl, by rw [nI_1, nI_1]⟩
      show ∃ s', fX11_wrongOf_b7 w (fstT (isWr (aR A) (aF A)) i) (nI (cntT (isWr (aR A) (aF A)) i)) (nI i) σ = _ ∧ _
      unfold fX11_wrongOf_b7
      rw [hr.1, if_neg (nI_ge hi (by omega)), inb_nI (show i < 20 by omega) (by omega), if_pos rfl, nI_clamp (by omega), hr.get hi]
      by_cases h0 : i = 0
      · rw [if_pos (show nI i = (0 : Int32) from by rw [h0]; rfl)]
        exact j _ (by rw [if_pos h0]; exact h.2.2.2.2.2.1)
      · rw [if_neg (nI_ne0 (by omega) (by omega))]
        obtain ⟨m, rfl⟩ : ∃ m, i = m + 1 := ⟨i - 1, by omega⟩
        rw [nI_pred, inb_nI (show m < 20 by omega) (by omega), if_pos rfl, nI_clamp (by omega), hr.get (by omega)]
        exact j _ (by rw [if_neg h0]; rfl)
    · rintro s rfl
      refine ⟨_, ?_, rfl⟩
      unfold fX11_wrongOf_b7
      rw [hr.1, if_pos (Int32.le_refl _)]
  obtain ⟨r, e1, e2⟩ := key
  unfold fX11_wrongOf
  rw [e1, ob_s, e2]
  by_cases hw : w = 0
  · rw [if_pos hw, if_pos hw]
  · rw [if_neg hw, if_neg hw]
def vWrong (w : Int32) (A : AbS) : Int32 := if w = 0 then fstT (isWr (aR A) (aF A)) (aR A).length else nI (cntT (isWr (aR A) (aF A)) (aR A).length)
theorem c_wrong {A : AbS} {σ : St} (w : Int32) (hA : OKA A) (h : IC A σ) : fX10_wrong w σ = some (if 0 ≤ w ∧ w ≤ 1 then vWrong w A else -2) := by
  unfold fX10_wrong vWrong
  rw [p_within, ob_s, p_firstWrong hA h, p_allWrong hA h, ob_s, ob_s]
  by_cases g : 0 ≤ w ∧ w ≤ 1
  · rw [if_pos g, if_pos g, if_neg one_ne]
    by_cases hw : w = 0
    · rw [if_pos hw, if_pos hw]
    · rw [if_neg hw, if_neg hw]
  · rw [if_neg g, if_neg g, if_pos rfl]
theorem l_wrong : ls_wrong Inv := fun σ w h => by
  obtain ⟨A, hA, h1, h2⟩ := id h
  refine ⟨_, _, c_wrong w hA h1, ?_, rfl, h⟩
  unfold fX11_wrong vWrong
  rw [p_in, ob_s, m_wrongOf w hA h2, ob_s]
  by_cases g : 0 ≤ w ∧ w ≤ 1
  · rw [if_pos g, if_pos g, if_neg one_ne]
  · rw [if_neg g, if_neg g, if_pos rfl]
def vBlame (A : AbS) : Int32 := if vWrong 0 A = -1 then -1 else Option.elim (ix (aB A).length (aF A + vWrong 0 A - 1)) (-1) (fun b => if kdB (aB A) b < 3 then kdB (aB A) b else -1)
theorem c_blame {A : AbS} {σ : St} (hA : OKA A) (h : IC A σ) : fX10_blame σ = some (vBlame A) := by
  have hl := lenB A
  unfold fX10_blame vBlame
  rw [p_firstWrong hA h, ob_s, h.2.2.2.2.2.2.1]
  show (if vWrong 0 A = -1 then some (-1) else (fX4_isLoose (aF A + vWrong 0 A - 1) σ).bind (fun q4 => if q4 = 0 then some (-1) else (fX4_kindOf (aF A + vWrong 0 A - 1) σ).bind fun q6 => some q6)) = _
  by_cases e : vWrong 0 A = -1
  · rw [if_pos e, if_pos e]
  · rw [if_neg e, if_neg e]
    generalize aF A + vWrong 0 A - 1 = x
    rcases pk_ix x (show (aB A).length < 2 ^ 31 by omega) with q | q | ⟨j, hj, rfl⟩
    · rw [p_isLoose0 h.ps (Or.inl q), ob_s, if_pos rfl, ix_neg q]; rfl
    · rw [p_isLoose0 h.ps (Or.inr q), ob_s, if_pos rfl, ix_ge q (by omega)]; rfl
    · rw [p_isLoose h.ps hl hj, ob_s, p_kindOf h.ps hl hj, ob_s, ix_nI hj (by omega)]
      show _ = some (if kdB (aB A) j < 3 then _ else _)
      by_cases g : kdB (aB A) j < 3
      · rw [if_pos g, if_pos g, if_neg one_ne]
      · rw [if_neg g, if_neg g, if_pos rfl]
theorem m_blame {A : AbS} {σ : St} (hA : OKA A) (h : IM A σ) : ∃ σ', fX11_blameNow σ = some (vBlame A, σ') ∧ MS σ σ' := by
  have hl := lenB A
  unfold fX11_blameNow vBlame
  rw [m_wrongOf 0 hA h, ob_s, h.2.2.2.2.2.1]
  show ∃ σ', (if vWrong 0 A = -1 then some (-1, σ) else (fX11_isBar (aF A + vWrong 0 A - 1) σ).bind _) = _ ∧ _
  by_cases e : vWrong 0 A = -1
  · rw [if_pos e, if_pos e]
    exact ⟨σ, rfl, MS.rf⟩
  · rw [if_neg e, if_neg e]
    show ∃ σ', (fX11_isBar (aF A + vWrong 0 A - 1) σ).bind (fun q4 => if q4.1 = 0 then some (-1, q4.2) else if inb (aF A + vWrong 0 A - 1) 100 = true then if 3 ≤ (q4.2.1 46 (aF A + vWrong 0 A - 1).toNatClampNeg) then some (-1, q4.2) else some ((q4.2.1 46 (aF A + vWrong 0 A - 1).toNatClampNeg), q4.2) else none) = _ ∧ _
    generalize aF A + vWrong 0 A - 1 = x
    obtain ⟨σ', e, k, p⟩ := m_isBar x h
    refine ⟨σ', ?_, k⟩
    rw [e, ob_s]
    cases hx : ix (aB A).length x with
    | none =>
      dsimp only
      rw [if_pos rfl, if_pos rfl]; rfl
    | some j =>
      obtain ⟨hj, rfl⟩ := ix_some hx (by omega)
      dsimp only
      rw [if_neg (show ¬ some j = none from fun q => by cases q), if_neg one_ne, inb_nI (show j < 100 by omega) (by omega), if_pos rfl, nI_clamp (by omega), (p.2.2.2.at hj).1]
      show _ = some (if kdB (aB A) j < 3 then _ else _, σ')
      by_cases g : kdB (aB A) j < 3
      · rw [if_pos g, if_neg (Int32.not_le.mpr g)]
      · rw [if_neg g, if_pos (Int32.not_lt.mp g)]
theorem l_blame : ls_blame Inv := fun σ h => ls_mk1 vBlame (fun A σ hA h => c_blame hA h) (fun A σ hA h => by
    obtain ⟨σ', e, k⟩ := m_blame hA h
    exact ⟨σ', by unfold fX11_blame; rw [e, ob_s], k⟩) σ h
/-! count -/
def vCount (w : Int32) (A : AbS) : Int32 := if w = 0 then nI (aB A).length else if w = 1 then nI (aT A).length else if w = 2 then nI (nlo (aB A)) else if w = 3 then nI (ncu (aB A)) else if w = 4 then nI (aN A).length else if w = 5 then nI (aP A).length else if w = 6 then nI (aR A).length else if w = 7 then nI (aS A 0) else if w = 8 then aG A else -2
theorem c_count {A : AbS} {σ : St} (w : Int32) (h : IC A σ) : fX10_count w σ = some (vCount w A) := by
  unfold fX10_count vCount
  rw [h.ps.1, h.1.2.1, h.ps.2.1, h.ps.2.2.1, h.2.2.2.2.1.1, h.2.2.2.2.2.2.2.1.1.1, h.2.2.2.2.2.1.1, show (0 : Int32) = nI 0 from rfl, p_valueOf (by omega), ob_s, h.2.2.2.1 0 (by omega), h.2.2.2.2.2.2.2.2.2.1]
  repeat' split
  all_goals rfl
theorem m_count {A : AbS} {σ : St} (w : Int32) (h : IM A σ) : ∃ σ', fX11_count w σ = some (vCount w A, σ') ∧ MS σ σ' := by
  obtain ⟨σ', e, k, p⟩ := m_reads h
  have hm : fX11_readsMany w σ = some (if w = 0 then nI (aB A).length else if w = 2 then nI (nlo (aB A)) else nI (ncu (aB A)), σ') := by
    unfold fX11_readsMany
    rw [e, ob_s, p.1, p.2.1, p.2.2.1]
    repeat' split
    all_goals rfl
  unfold fX11_count vCount
  rw [hm, ob_s, h.1.2.1, h.2.2.2.1.1, h.2.2.2.2.2.2.1.1, h.2.2.2.2.1.1, h.2.2.1 0 (by omega), h.2.2.2.2.2.2.2.2]
  by_cases h0 : w = 0
  · simp only [if_pos h0]; exact ⟨σ', rfl, k⟩
  simp only [if_neg h0]
  by_cases h1 : w = 1
  · simp only [if_pos h1]; exact ⟨σ, rfl, MS.rf⟩
  simp only [if_neg h1]
  by_cases h2 : w = 2
  · simp only [if_pos h2]; exact ⟨σ', rfl, k⟩
  simp only [if_neg h2]
  by_cases h3 : w = 3
  · simp only [if_pos h3]; exact ⟨σ', rfl, k⟩
  simp only [if_neg h3]
  refine ⟨σ, ?_, MS.rf⟩
  repeat' split
  all_goals rfl
theorem l_count : ls_count Inv := fun σ w h => ls_mk1 (vCount w) (fun A σ hA h => c_count w h) (fun A σ hA h => m_count w h) σ h
