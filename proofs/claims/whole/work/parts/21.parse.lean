/-! the piece: what a text says -/
def nlo (bs : List (Int32 × Int32)) : Nat := bs.countP (fun x => decide (x.1 < 3))
def ncu (bs : List (Int32 × Int32)) : Nat := bs.countP (fun x => decide (x.1 = 4))
theorem nlo_app (a b : List (Int32 × Int32)) : nlo (a ++ b) = nlo a + nlo b := List.countP_append ..
theorem ncu_app (a b : List (Int32 × Int32)) : ncu (a ++ b) = ncu a + ncu b := List.countP_append ..
theorem nlo_le (a : List (Int32 × Int32)) : nlo a ≤ a.length := List.countP_le_length ..
theorem ncu_le (a : List (Int32 × Int32)) : ncu a ≤ a.length := List.countP_le_length ..
def chAt (T : List Int32) (i : Nat) : Int32 := T.getD i (-1)
def dig (x : Int32) : Option Nat := if 0 ≤ x - 48 ∧ x - 48 ≤ 9 then some (x - 48).toNatClampNeg else none
def rep3 (n : Nat) : List (Int32 × Int32) := List.replicate n (3, -1)
/-- one item of the text: where it can't go on, or the place behind it and the bars then -/
def pstep (T : List Int32) (p : Nat) (bs : List (Int32 × Int32)) : Nat ⊕ (Nat × List (Int32 × Int32)) :=
  if chAt T p = 112 then
    match dig (chAt T (p + 1)) with
    | none => .inl (p + 1)
    | some t => match dig (chAt T (p + 2)) with
      | none => .inl (p + 2)
      | some u => if 10 * t + u = 0 ∨ 99 < bs.length + (10 * t + u) then .inl (p + 2) else .inr (p + 3, bs ++ rep3 (10 * t + u))
  else if chAt T p = 100 then if nlo bs = 10 ∨ bs.length = 99 then .inl p else .inr (p + 1, bs ++ [(0, -1)])
  else if chAt T p = 119 then if nlo bs = 10 ∨ bs.length = 99 then .inl p else .inr (p + 1, bs ++ [(1, -1)])
  else if chAt T p = 109 then if nlo bs = 10 ∨ bs.length = 99 then .inl p else .inr (p + 1, bs ++ [(2, -1)])
  else if chAt T p = 99 then if ncu bs = 6 ∨ bs.length = 99 then .inl p else
    if 0 ≤ chAt T (p + 1) - 97 ∧ chAt T (p + 1) - 97 ≤ 3 then .inr (p + 2, bs ++ [(4, chAt T (p + 1) - 97)]) else .inl (p + 1)
  else if chAt T p = 120 then if bs.length = 99 then .inl p else .inr (p + 1, bs ++ [(5, -1)])
  else .inl p
/-- the first byte with which the text can't go on, or its bars -/
def prs (T : List Int32) : Nat → Nat → List (Int32 × Int32) → Nat ⊕ List (Int32 × Int32)
  | 0, p, _ => .inl p
  | f + 1, p, bs => Sum.elim .inl (fun z => if chAt T p = 120 then (if z.1 < T.length then .inl z.1 else .inr z.2) else prs T f z.1 z.2) (pstep T p bs)
def WB (bs : List (Int32 × Int32)) : Prop := bs.length ≤ 99 ∧ nlo bs ≤ 10 ∧ ncu bs ≤ 6
def parse (T : List Int32) : Nat ⊕ List (Int32 × Int32) := if T.length = 0 then .inr [] else prs T 61 0 []
def bsOf (T : List Int32) : List (Int32 × Int32) := Sum.elim (fun _ => []) id (parse T)
def flOf (T : List Int32) : Int32 := Sum.elim nI (fun _ => -1) (parse T)
/-- rows that hold a piece: kinds, tunes, which cue it is, the cue's bar -/
def PK (bs : List (Int32 × Int32)) (K Tu Cq Cb : Nat → Int32) : Prop :=
  ∀ (i : Nat) (x : Int32 × Int32), bs[i]? = some x → K i = x.1 ∧ Tu i = x.2 ∧ (x.1 = 4 → Cq i = nI (ncu (bs.take i)) ∧ Cb (ncu (bs.take i)) = nI i) ∧ (x.1 ≠ 4 → Cq i = -1)
theorem PK_nil {K Tu Cq Cb : Nat → Int32} : PK [] K Tu Cq Cb := fun i x h => by simp at h
theorem ncu_take_lt {bs : List (Int32 × Int32)} {i : Nat} {x : Int32 × Int32} (h : bs[i]? = some x) (hx : x.1 = 4) : ncu (bs.take i) < ncu bs := by
  have hl := (List.getElem?_eq_some_iff.mp h)
  have e : bs = bs.take i ++ (x :: bs.drop (i + 1)) := by
    obtain ⟨h1, h2⟩ := hl
    rw [← h2, ← List.drop_eq_getElem_cons h1, List.take_append_drop]
  have e2 : ncu bs = ncu (bs.take i) + ncu (x :: bs.drop (i + 1)) := by
    conv => lhs; rw [e]
    exact ncu_app _ _
  have e3 : 0 < ncu (x :: bs.drop (i + 1)) := by
    unfold ncu
    rw [List.countP_cons]
    simp [hx]
  omega
theorem PK_snoc {bs : List (Int32 × Int32)} {K Tu Cq Cb K' Tu' Cq' Cb' : Nat → Int32} (k t : Int32) (h : PK bs K Tu Cq Cb) (hK : ∀ j, j < bs.length → K' j = K j) (hT : ∀ j, j < bs.length → Tu' j = Tu j) (hC : ∀ j, j < bs.length → Cq' j = Cq j) (hB : ∀ j, j < ncu bs → Cb' j = Cb j) (h1 : K' bs.length = k) (h2 : Tu' bs.length = t) (h3 : k = 4 → Cq' bs.length = nI (ncu bs) ∧ Cb' (ncu bs) = nI bs.length) (h4 : k ≠ 4 → Cq' bs.length = -1) : PK (bs ++ [(k, t)]) K' Tu' Cq' Cb' := by
  intro i x hx
  by_cases hi : i < bs.length
  · rw [List.getElem?_append_left hi] at hx
    obtain ⟨a1, a2, a3, a4⟩ := h i x hx
    rw [hK i hi, hT i hi, hC i hi, List.take_append_of_le_length (by omega)]
    refine ⟨a1, a2, fun q => ?_, a4⟩
    rw [hB _ (ncu_take_lt hx q)]
    exact a3 q
  · have hi2 : i = bs.length := by
      have := (List.getElem?_eq_some_iff.mp hx).1
      simp at this
      omega
    subst hi2
    rw [List.getElem?_append_right (Nat.le_refl _), Nat.sub_self] at hx
    cases hx
    rw [List.take_append_of_le_length (Nat.le_refl _), List.take_length]
    exact ⟨h1, h2, h3, h4⟩
theorem PK_rep {bs : List (Int32 × Int32)} {K Tu Cq Cb K' Tu' Cq' Cb' : Nat → Int32} (n : Nat) (h : PK bs K Tu Cq Cb) (hK : ∀ j, j < bs.length → K' j = K j) (hT : ∀ j, j < bs.length → Tu' j = Tu j) (hC : ∀ j, j < bs.length → Cq' j = Cq j) (hB : ∀ j, j < ncu bs → Cb' j = Cb j) (h1 : ∀ j, bs.length ≤ j → j < bs.length + n → K' j = 3 ∧ Tu' j = -1 ∧ Cq' j = -1) : PK (bs ++ rep3 n) K' Tu' Cq' Cb' := by
  intro i x hx
  by_cases hi : i < bs.length
  · rw [List.getElem?_append_left hi] at hx
    obtain ⟨a1, a2, a3, a4⟩ := h i x hx
    rw [hK i hi, hT i hi, hC i hi, List.take_append_of_le_length (by omega)]
    refine ⟨a1, a2, fun q => ?_, a4⟩
    rw [hB _ (ncu_take_lt hx q)]
    exact a3 q
  · rw [List.getElem?_append_right (by omega)] at hx
    have hl := (List.getElem?_eq_some_iff.mp hx).1
    have hm : i - bs.length < n := by simpa [rep3] using hl
    have hx2 : x = (3, -1) := by
      have := List.mem_of_getElem? hx
      exact (List.mem_replicate.mp this).2
    subst hx2
    obtain ⟨b1, b2, b3⟩ := h1 i (by omega) (by omega)
    exact ⟨b1, b2, fun q => absurd q (by decide), fun _ => b3⟩
theorem nlo_rep (n : Nat) : nlo (rep3 n) = 0 := by
  unfold nlo rep3
  rw [List.countP_replicate]
  simp
theorem ncu_rep (n : Nat) : ncu (rep3 n) = 0 := by
  unfold ncu rep3
  rw [List.countP_replicate]
  simp
theorem len_rep (n : Nat) : (rep3 n).length = n := List.length_replicate ..
/-- the class's text -/
def TX (T : List Int32) (σ : St) : Prop := T.length ≤ 60 ∧ σ.1 1 5 = nI T.length ∧ ∀ i, i < T.length → σ.1 2 i = T.getD i (-1)
/-- the class's piece, while it reads -/
def PS (bs : List (Int32 × Int32)) (σ : St) : Prop := σ.1 1 6 = nI bs.length ∧ σ.1 1 7 = nI (nlo bs) ∧ σ.1 1 8 = nI (ncu bs) ∧ PK bs (σ.1 3) (σ.1 5) (σ.1 4) (σ.1 6)
theorem p_byteAt {T : List Int32} {σ : St} (h : TX T σ) {p : Nat} (hp : p ≤ 70) : fX4_byteAt (nI p) σ = some (chAt T p) := by
  obtain ⟨h1, h2, h3⟩ := h
  unfold fX4_byteAt
  rw [h2]
  by_cases hl : p < T.length
  · rw [if_neg (show ¬ nI T.length ≤ nI p from fun q => by have := (nI_leI (by omega) (by omega)).mp q; omega), p_itemAt (r := 2) (n := 60) rfl (by omega) p (by omega), if_pos (by omega), rv_w (by decide) (by decide), h3 p hl]
    rfl
  · rw [if_pos (show nI T.length ≤ nI p from nI_le (by omega) (by omega))]
    unfold chAt
    rw [getD_ge (by omega)]
/-- cells that the class's reading touches -/
abbrev cP : List Nat := [1, 3, 4, 5, 6]
def keepP (σ σ' : St) : Prop := Fr cP σ σ' ∧ (∀ j, j ≠ 6 → j ≠ 7 → j ≠ 8 → j ≠ 9 → σ'.1 1 j = σ.1 1 j) ∧ σ'.2 = σ.2
theorem keepP.rf {σ : St} : keepP σ σ := ⟨Fr.rf, fun _ _ _ _ _ => rfl, rfl⟩
theorem keepP.trans {a b c : St} (h : keepP a b) (h' : keepP b c) : keepP a c := ⟨h.1.trans h'.1, fun j a b c d => (h'.2.1 j a b c d).trans (h.2.1 j a b c d), h'.2.2.trans h.2.2⟩
theorem keepP.TX {T : List Int32} {σ σ' : St} (h : keepP σ σ') (ht : TX T σ) : TX T σ' := by
  obtain ⟨h1, h2, h3⟩ := ht
  refine ⟨h1, by rw [h.2.1 5 (by decide) (by decide) (by decide) (by decide)]; exact h2, fun i hi => ?_⟩
  rw [h.1.1 2 (by decide)]
  exact h3 i hi
theorem p_addBars_no {σ : St} {a n : Nat} {k : Int32} (h : σ.1 1 6 = nI a) (ha : a ≤ 99) (hn : n ≤ 99) (ho : 99 < a + n) : fX4_addBars (nI n) k σ = some (0, σ) := by
  unfold fX4_addBars
  rw [h, nI_add, if_neg (show ¬ nI (a + n) ≤ (99 : Int32) from fun q => by have := (nI_leI (b := 99) (by omega) (by omega)).mp q; omega)]
theorem p_addBars {σ : St} {a n : Nat} {k : Int32} (h : σ.1 1 6 = nI a) (ho : a + n ≤ 99) : ∃ σ', fX4_addBars (nI n) k σ = some (1, σ') ∧ keepP σ σ' ∧ σ'.1 1 6 = nI (a + n) ∧ σ'.1 1 7 = σ.1 1 7 ∧ σ'.1 1 8 = σ.1 1 8 ∧ σ'.1 1 9 = σ.1 1 9 ∧ σ'.1 6 = σ.1 6 ∧
    (∀ j, σ'.1 3 j = if a ≤ j ∧ j < a + n then k else σ.1 3 j) ∧ (∀ j, σ'.1 4 j = if a ≤ j ∧ j < a + n then -1 else σ.1 4 j) ∧ (∀ j, σ'.1 5 j = if a ≤ j ∧ j < a + n then -1 else σ.1 5 j) := by
  unfold fX4_addBars
  rw [h, nI_add, if_pos (show nI (a + n) ≤ (99 : Int32) from (nI_leI (b := 99) (by omega) (by omega)).mpr ho), p_max]
  have hm : (if (0 : Int32) < nI a then nI a else 0) = nI a := by
    by_cases h0 : a = 0
    · subst h0; rfl
    · rw [if_pos (show (0 : Int32) < nI a from (nI_ltI (a := 0) (by omega) (by omega)).mpr (by omega))]
  rw [ob_s, hm]
  have key : ∃ r, lpc (fun s => fX4_addBars_b22 (nI n) k s.1 s.2) (nI a, σ) = some r ∧ (fun σ' : St => Fr [3, 4, 5] σ σ' ∧ σ'.2 = σ.2 ∧ (∀ j, σ'.1 3 j = if a ≤ j ∧ j < a + n then k else σ.1 3 j) ∧ (∀ j, σ'.1 4 j = if a ≤ j ∧ j < a + n then -1 else σ.1 4 j) ∧ (∀ j, σ'.1 5 j = if a ≤ j ∧ j < a + n then -1 else σ.1 5 j)) r := by
    refine lpc_cnt (a := a) (b := a + n) (fun i s => s.1 = nI i ∧ Fr [3, 4, 5] σ s.2 ∧ s.2.2 = σ.2 ∧ (∀ j, s.2.1 3 j = if a ≤ j ∧ j < i then k else σ.1 3 j) ∧ (∀ j, s.2.1 4 j = if a ≤ j ∧ j < i then -1 else σ.1 4 j) ∧ (∀ j, s.2.1 5 j = if a ≤ j ∧ j < i then -1 else σ.1 5 j)) _ (by omega) ?_ ?_ ⟨rfl, Fr.rf, rfl, fun j => by rw [if_neg (by omega)], fun j => by rw [if_neg (by omega)], fun j => by rw [if_neg (by omega)]⟩
    · rintro i ⟨x, s⟩ hi1 hi2 ⟨rfl, p1, p2, p3, p4, p5⟩
      dsimp only at p1 p2 p3 p4 p5
      have hb : s.1 1 6 = nI a := by rw [p1.1 1 (by decide)]; exact h
      refine ⟨(nI (i + 1), sI (sI (sI s 3 i k) 4 i (-1)) 5 i (-1)), ?_, rfl, ?_, p2, fun j => ?_, fun j => ?_, fun j => ?_⟩
      · show fX4_addBars_b22 (nI n) k (nI i) s = _
        unfold fX4_addBars_b22
        rw [hb, nI_add, if_neg (show ¬ nI (a + n) ≤ nI i from fun q => by have := (nI_leI (by omega) (by omega)).mp q; omega), if_neg (show ¬ (99 : Int32) ≤ nI i from fun q => by have := (nI_leI (a := 99) (by omega) (by omega)).mp q; omega), inb_nI (by omega) (by omega), if_pos rfl, nI_clamp (by omega), nI_1]
      · exact ((p1.trans (Fr_sI (by decide))).trans (Fr_sI (by decide))).trans (Fr_sI (by decide))
      · simp only [g_sI]
        by_cases hj : j = i
        · subst hj; simp; omega
        · simp [hj, p3]
          by_cases h9 : a ≤ j ∧ j < i
          · rw [if_pos h9, if_pos (by omega)]
          · rw [if_neg h9, if_neg (by omega)]
      · simp only [g_sI]
        by_cases hj : j = i
        · subst hj; simp; omega
        · simp [hj, p4]
          by_cases h9 : a ≤ j ∧ j < i
          · rw [if_pos h9, if_pos (by omega)]
          · rw [if_neg h9, if_neg (by omega)]
      · simp only [g_sI]
        by_cases hj : j = i
        · subst hj; simp; omega
        · simp [hj, p5]
          by_cases h9 : a ≤ j ∧ j < i
          · rw [if_pos h9, if_pos (by omega)]
          · rw [if_neg h9, if_neg (by omega)]
    · rintro ⟨x, s⟩ ⟨rfl, p1, p2, p3, p4, p5⟩
      have hb : s.1 1 6 = nI a := by rw [p1.1 1 (by decide)]; exact h
      refine ⟨s, ?_, p1, p2, p3, p4, p5⟩
      show fX4_addBars_b22 (nI n) k (nI (a + n)) s = _
      unfold fX4_addBars_b22
      rw [hb, nI_add, if_pos (Int32.le_refl _)]
  obtain ⟨r, hr, q1, q2, q3, q4, q5⟩ := key
  refine ⟨_, by rw [hr, ob_s], ?_, ?_, ?_⟩
  · refine ⟨(q1.mono (by decide)).trans (Fr_sI (by decide)), fun j a b c d => ?_, q2⟩
    rw [g_sI, if_pos rfl, if_neg a, q1.1 1 (by decide)]
  · rw [g_sI, if_pos rfl, if_pos rfl, q1.1 1 (by decide), h, nI_add]
  · refine ⟨?_, ?_, ?_, ?_, fun j => ?_, fun j => ?_, fun j => ?_⟩
    · rw [g_sI, if_pos rfl, if_neg (by decide), q1.1 1 (by decide)]
    · rw [g_sI, if_pos rfl, if_neg (by decide), q1.1 1 (by decide)]
    · rw [g_sI, if_pos rfl, if_neg (by decide), q1.1 1 (by decide)]
    · show r.1 6 = _
      rw [q1.1 6 (by decide)]
    · exact q3 j
    · exact q4 j
    · exact q5 j
theorem chAt_lt {T : List Int32} {p : Nat} (h : ¬ chAt T p = -1) : p < T.length := by
  rcases Nat.lt_or_ge p T.length with q | q
  · exact q
  · exact absurd (getD_ge q) h
theorem dig_some {x : Int32} {t : Nat} (h : dig x = some t) : x - 48 = nI t ∧ t ≤ 9 ∧ ¬ x = -1 := by
  unfold dig at h
  by_cases hc : 0 ≤ x - 48 ∧ x - 48 ≤ 9
  · rw [if_pos hc] at h
    obtain ⟨k, hk, e⟩ := i32_nat (m := 9) (by omega) hc.1 hc.2
    rw [e, nI_clamp (by omega)] at h
    cases h
    refine ⟨e, hk, fun q => ?_⟩
    subst q
    exact absurd hc (by decide)
  · rw [if_neg hc] at h; cases h
theorem dig_none {x : Int32} (h : dig x = none) : ¬ (0 ≤ x - 48 ∧ x - 48 ≤ 9) := by
  unfold dig at h
  intro hc
  rw [if_pos hc] at h; cases h
theorem dig_in {x : Int32} {t : Nat} (h : dig x = some t) : 0 ≤ x - 48 ∧ x - 48 ≤ 9 := by
  unfold dig at h
  by_cases hc : 0 ≤ x - 48 ∧ x - 48 ≤ 9
  · exact hc
  · rw [if_neg hc] at h; cases h
theorem pstep_ok {T : List Int32} {p p' : Nat} {bs bs' : List (Int32 × Int32)} (hw : WB bs) (h : pstep T p bs = .inr (p', bs')) : WB bs' ∧ p < p' ∧ p' ≤ T.length := by
  obtain ⟨w1, w2, w3⟩ := hw
  unfold pstep at h
  split at h
  · split at h
    · cases h
    · rename_i t ht
      split at h
      · cases h
      · rename_i u hu
        split at h
        · cases h
        · rename_i hc
          cases h
          have := chAt_lt (dig_some hu).2.2
          refine ⟨⟨?_, ?_, ?_⟩, by omega, by omega⟩
          · rw [List.length_append, len_rep]; omega
          · rw [nlo_app, nlo_rep]; omega
          · rw [ncu_app, ncu_rep]; omega
  · have loose : ∀ k : Int32, nlo [(k, (-1 : Int32))] ≤ 1 := fun k => nlo_le _
    have cue : ∀ k t : Int32, ncu [(k, t)] ≤ 1 := fun k t => ncu_le _
    have hd : ∀ c : Int32, chAt T p = c → ¬ c = -1 → p < T.length := fun c e hc => chAt_lt (by rw [e]; exact hc)
    split at h
    · rename_i e
      split at h
      · cases h
      · rename_i hc
        cases h
        have := hd _ e (by decide)
        refine ⟨⟨by simp; omega, ?_, ?_⟩, by omega, by omega⟩
        · rw [nlo_app]; have := loose 0; omega
        · rw [ncu_app]; have : ncu [((0 : Int32), (-1 : Int32))] = 0 := by decide
          omega
    · split at h
      · rename_i e
        split at h
        · cases h
        · rename_i hc
          cases h
          have := hd _ e (by decide)
          refine ⟨⟨by simp; omega, ?_, ?_⟩, by omega, by omega⟩
          · rw [nlo_app]; have := loose 1; omega
          · rw [ncu_app]; have : ncu [((1 : Int32), (-1 : Int32))] = 0 := by decide
            omega
      · split at h
        · rename_i e
          split at h
          · cases h
          · rename_i hc
            cases h
            have := hd _ e (by decide)
            refine ⟨⟨by simp; omega, ?_, ?_⟩, by omega, by omega⟩
            · rw [nlo_app]; have := loose 2; omega
            · rw [ncu_app]; have : ncu [((2 : Int32), (-1 : Int32))] = 0 := by decide
              omega
        · split at h
          · rename_i e
            split at h
            · cases h
            · rename_i hc
              split at h
              · rename_i ht
                cases h
                have h1 : p + 1 < T.length := chAt_lt (fun q => by rw [q] at ht; exact absurd ht (by decide))
                refine ⟨⟨by simp; omega, ?_, ?_⟩, by omega, by omega⟩
                · rw [nlo_app]; have : nlo [((4 : Int32), chAt T (p + 1) - 97)] = 0 := by simp [nlo]
                  omega
                · rw [ncu_app]; have := cue 4 (chAt T (p + 1) - 97); omega
              · cases h
          · split at h
            · rename_i e
              split at h
              · cases h
              · rename_i hc
                cases h
                have := hd _ e (by decide)
                refine ⟨⟨by simp; omega, ?_, ?_⟩, by omega, by omega⟩
                · rw [nlo_app]; have : nlo [((5 : Int32), (-1 : Int32))] = 0 := by decide
                  omega
                · rw [ncu_app]; have : ncu [((5 : Int32), (-1 : Int32))] = 0 := by decide
                  omega
            · cases h
