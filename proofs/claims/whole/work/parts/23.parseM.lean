/-! the reference reads its text -/
def TXm (T : List Int32) (σ : St) : Prop := T.length ≤ 60 ∧ σ.1 44 1 = nI T.length ∧ ∀ i, i < T.length → σ.1 45 i = T.getD i (-1)
def PSm (bs : List (Int32 × Int32)) (σ : St) : Prop := σ.1 44 2 = nI bs.length ∧ σ.1 44 6 = nI (nlo bs) ∧ σ.1 44 7 = nI (ncu bs) ∧ PK bs (σ.1 46) (σ.1 47) (σ.1 48) (σ.1 49)
abbrev mP : List Nat := [44, 46, 47, 48, 49]
def keepM (σ σ' : St) : Prop := Fr mP σ σ' ∧ (∀ j, j ≠ 2 → j ≠ 6 → j ≠ 7 → σ'.1 44 j = σ.1 44 j) ∧ σ'.2 = σ.2
theorem keepM.rf {σ : St} : keepM σ σ := ⟨Fr.rf, fun _ _ _ _ => rfl, rfl⟩
theorem keepM.trans {a b c : St} (h : keepM a b) (h' : keepM b c) : keepM a c := ⟨h.1.trans h'.1, fun j a b c => (h'.2.1 j a b c).trans (h.2.1 j a b c), h'.2.2.trans h.2.2⟩
theorem keepM.TX {T : List Int32} {σ σ' : St} (h : keepM σ σ') (ht : TXm T σ) : TXm T σ' := by
  obtain ⟨h1, h2, h3⟩ := ht
  refine ⟨h1, by rw [h.2.1 1 (by decide) (by decide) (by decide)]; exact h2, fun i hi => ?_⟩
  rw [h.1.1 45 (by decide)]
  exact h3 i hi
theorem p_adds {σ : St} {bs : List (Int32 × Int32)} {k t : Int32} (hs : PSm bs σ) (hl : bs.length < 99) (hw : WB bs) (h6 : k = 4 → ncu bs < 6) : ∃ σ', fX11_adds k t σ = some σ' ∧ keepM σ σ' ∧ PSm (bs ++ [(k, t)]) σ' := by
  obtain ⟨h1, h2, h3, h4⟩ := hs
  obtain ⟨w1, w2, w3⟩ := hw
  have hlen : (bs ++ [(k, t)]).length = bs.length + 1 := by simp
  have fin : ∀ s : St, keepM σ s → s.1 44 2 = nI bs.length → s.1 44 6 = nI (nlo bs) → s.1 44 7 = nI (ncu (bs ++ [(k, t)])) → PK (bs ++ [(k, t)]) (s.1 46) (s.1 47) (s.1 48) (s.1 49) → ∃ σ', fX11_adds_j70 k s = some σ' ∧ keepM σ σ' ∧ PSm (bs ++ [(k, t)]) σ' := by
    intro s hk e2 e6 e7 hpk
    have kk : ∀ v, keepM s (sI (sI s 44 6 v) 44 2 (nI bs.length + 1)) := fun v => ⟨(Fr_sI (by decide)).trans (Fr_sI (by decide)), fun j a b c => by simp [g_sI, a, b], rfl⟩
    unfold fX11_adds_j70 fX11_adds_j85
    by_cases hk3 : (3 : Int32) ≤ k
    · rw [if_pos hk3, e2, e6]
      refine ⟨_, rfl, hk.trans (kk _), ?_, ?_, ?_, hpk⟩
      · rw [hlen, ← nI_1]; simp [g_sI]
      · rw [nlo_app, show nlo [(k, t)] = 0 by simp [nlo]; exact hk3]
        simp [g_sI]
      · simp [g_sI, e7]
    · rw [if_neg hk3, e2, e6]
      refine ⟨_, rfl, hk.trans (kk _), ?_, ?_, ?_, hpk⟩
      · rw [hlen, ← nI_1]; simp [g_sI]
      · rw [nlo_app, show nlo [(k, t)] = 1 by simp [nlo]; exact Int32.not_le.mp hk3, ← nI_1]
        simp [g_sI]
      · simp [g_sI, e7]
  unfold fX11_adds
  rw [h1, inb_nI (by omega) (by omega), if_pos rfl, nI_clamp (by omega), h3]
  by_cases hk : k = 4
  · subst hk
    have h6 := h6 rfl
    rw [if_pos rfl]
    unfold fX11_adds_j41
    rw [inb_nI (by omega) (by omega), if_pos rfl, if_pos rfl, show (sI (sI σ 46 bs.length 4) 47 bs.length t).1 44 7 = nI (ncu bs) from h3, inb_nI (by omega) (by omega), if_pos rfl, nI_clamp (by omega), nI_clamp (by omega), show (sI (sI σ 46 bs.length 4) 47 bs.length t).1 44 2 = nI bs.length from h1]
    refine fin _ ⟨((((Fr_sI (by decide)).trans (Fr_sI (by decide))).trans (Fr_sI (by decide))).trans (Fr_sI (by decide))).trans (Fr_sI (by decide)), fun j a b c => by simp [g_sI, c], rfl⟩ (by simp [g_sI, h1]) (by simp [g_sI, h2]) ?_ ?_
    · rw [ncu_app, show ncu [((4 : Int32), t)] = 1 by simp [ncu], ← nI_1]; simp [g_sI]
    · refine PK_snoc 4 t h4 (fun j hj => ?_) (fun j hj => ?_) (fun j hj => ?_) (fun j hj => ?_) ?_ ?_ (fun _ => ⟨?_, ?_⟩) (fun q => absurd rfl q)
      · have h2 : ¬ j = bs.length := by omega
        simp [g_sI, h2]
      · have h2 : ¬ j = bs.length := by omega
        simp [g_sI, h2]
      · have h2 : ¬ j = bs.length := by omega
        simp [g_sI, h2]
      · have h2 : ¬ j = ncu bs := by omega
        simp [g_sI, h2]
      · simp [g_sI]
      · simp [g_sI]
      · simp [g_sI]
      · simp [g_sI]
  · rw [if_neg hk]
    unfold fX11_adds_j41
    rw [inb_nI (by omega) (by omega), if_pos rfl, if_neg hk, nI_clamp (by omega)]
    refine fin _ ⟨((Fr_sI (by decide)).trans (Fr_sI (by decide))).trans (Fr_sI (by decide)), fun j a b c => by simp [g_sI], rfl⟩ (by simp [g_sI, h1]) (by simp [g_sI, h2]) ?_ ?_
    · rw [ncu_app, show ncu [(k, t)] = 0 by simp [ncu, hk]]; simp [g_sI, h3]
    · refine PK_snoc k t h4 (fun j hj => ?_) (fun j hj => ?_) (fun j hj => ?_) (fun j hj => ?_) ?_ ?_ (fun q => absurd q hk) (fun _ => ?_)
      · have h2 : ¬ j = bs.length := by omega
        simp [g_sI, h2]
      · have h2 : ¬ j = bs.length := by omega
        simp [g_sI, h2]
      · have h2 : ¬ j = bs.length := by omega
        simp [g_sI, h2]
      · simp [g_sI]
      · simp [g_sI]
      · simp [g_sI]
      · simp [g_sI]
theorem p_figureAt {T : List Int32} {σ : St} (ht : TXm T σ) {p : Nat} (hp : p ≤ 70) : fX11_figureAt (nI p) σ = some ((dig (chAt T p)).elim (-1) nI) := by
  obtain ⟨h1, h2, h3⟩ := ht
  have key : ∀ x : Int32, fX11_figureAt_j21 (x - 48) σ = some ((dig x).elim (-1) nI) := by
    intro x
    unfold fX11_figureAt_j21
    rw [p_in, ob_s]
    cases hd : dig x with
    | none => rw [if_neg (dig_none hd), if_pos rfl]; rfl
    | some t => rw [if_pos (dig_in hd), if_neg one_ne, (dig_some hd).1]; rfl
  unfold fX11_figureAt
  rw [h2]
  by_cases hl : p < T.length
  · rw [if_neg (show ¬ nI T.length ≤ nI p from fun q => by have := (nI_leI (by omega) (by omega)).mp q; omega), inb_nI (by omega) (by omega), if_pos rfl, nI_clamp (by omega), h3 p hl]
    exact key _
  · rw [if_pos (show nI T.length ≤ nI p from nI_le (by omega) (by omega))]
    have : chAt T p = -1 := getD_ge (by omega)
    rw [this, show dig (-1) = none by decide]
    unfold fX11_figureAt_j21
    rw [p_in, ob_s, if_pos (by decide)]
    rfl
theorem j29_step {x e x' e' : Int32} {σ σ' : St} (h : fX11_readsPiece_b30 x e σ = some (.inl (x', e', σ'))) : fX11_readsPiece_j29 x e σ = fX11_readsPiece_j29 x' e' σ' := by
  unfold fX11_readsPiece_j29
  rw [lpc_step (body := fun s => fX11_readsPiece_b30 s.1 s.2.1 s.2.2) (s := (x, e, σ)) h]
theorem b30_at {T : List Int32} {σ : St} {p : Nat} {e : Int32} (ht : TXm T σ) (hp : p < T.length) : ∃ k : Int32, fX11_readsPiece_b30 (nI p) e σ = fX11_readsPiece_j106 (nI p) e k σ ∧ (k = if chAt T p = 100 then 0 else if chAt T p = 119 then 1 else if chAt T p = 109 then 2 else if chAt T p = 112 then 3 else if chAt T p = 99 then 4 else if chAt T p = 120 then 5 else -1) := by
  obtain ⟨h1, h2, h3⟩ := ht
  refine ⟨_, ?_, rfl⟩
  unfold fX11_readsPiece_b30
  rw [h2, if_neg (show ¬ nI T.length ≤ nI p from fun q => by have := (nI_leI (by omega) (by omega)).mp q; omega), inb_nI (by omega) (by omega), if_pos rfl, nI_clamp (by omega), show σ.1 45 p = chAt T p from h3 p hp]
  simp only [ltb]
  generalize chAt T p = c
  by_cases c1 : c = 100
  · subst c1; rfl
  by_cases c2 : c = 119
  · subst c2; rfl
  by_cases c3 : c = 109
  · subst c3; rfl
  by_cases c4 : c = 112
  · subst c4; rfl
  by_cases c5 : c = 99
  · subst c5; rfl
  by_cases c6 : c = 120
  · subst c6; rfl
  simp only [if_neg c1, if_neg c2, if_neg c3, if_neg c4, if_neg c5, if_neg c6]
theorem b30_end {T : List Int32} {σ : St} {e : Int32} (ht : TXm T σ) : fX11_readsPiece_b30 (nI T.length) e σ = some (.inr (.inr (.inr (.inr (.inr (.inr (e, σ))))))) := by
  unfold fX11_readsPiece_b30
  rw [ht.2.1, if_pos (Int32.le_refl _)]
theorem j29_exit {x e : Int32} {σ : St} {r : (Int32 × St) ⊕ ((Int32 × Int32 × St) ⊕ ((Int32 × St) ⊕ ((Int32 × St) ⊕ ((Int32 × St) ⊕ (Int32 × St)))))} (h : fX11_readsPiece_b30 x e σ = some (.inr r)) : fX11_readsPiece_j29 x e σ = Sum.elim (fun r1_0 => some (r1_0.1, r1_0.2)) (Sum.elim (fun r1_1 => if r1_1.2.1 = (-1 : Int32) then some ((r1_1.1 + (1 : Int32)), r1_1.2.2) else some ((r1_1.1 + (2 : Int32)), r1_1.2.2)) (Sum.elim (fun r1_2 => some ((r1_2.1 + (2 : Int32)), r1_2.2)) (Sum.elim (fun r1_3 => some (r1_3.1, r1_3.2)) (Sum.elim (fun r1_4 => some ((r1_4.1 + (1 : Int32)), r1_4.2)) (fun r1_5 => if r1_5.1 = (0 : Int32) then some ((r1_5.2.1 44 1), r1_5.2) else some ((-1 : Int32), r1_5.2)))))) r := by
  unfold fX11_readsPiece_j29
  rw [lpc_exit (body := fun s => fX11_readsPiece_b30 s.1 s.2.1 s.2.2) (s := (x, e, σ)) h]
  rfl
/-- n plain bars more -/
theorem p_plainM {σ : St} {bs : List (Int32 × Int32)} {n : Nat} {a b : Int32} (hs : PSm bs σ) (hw : WB bs) (hl : bs.length + n ≤ 99) : ∃ σ', lpc (fun s => fX11_readsPiece_b206 a b (nI n) s.1 s.2) (0, σ) = some σ' ∧ keepM σ σ' ∧ PSm (bs ++ rep3 n) σ' := by
  refine lpc_cnt (a := 0) (b := n) (fun i s => s.1 = nI i ∧ keepM σ s.2 ∧ PSm (bs ++ rep3 i) s.2) _ (by omega) ?_ ?_ ⟨rfl, keepM.rf, by rw [show rep3 0 = [] from rfl, List.append_nil]; exact hs⟩
  · rintro i ⟨x, s⟩ hi1 hi2 ⟨rfl, p1, p2⟩
    obtain ⟨σ', e, k1, q⟩ := p_adds (k := 3) (t := -1) p2 (by rw [List.length_append, len_rep]; omega) ⟨by rw [List.length_append, len_rep]; omega, by rw [nlo_app, nlo_rep]; exact hw.2.1, by rw [ncu_app, ncu_rep]; exact hw.2.2⟩ (fun q => absurd q (by decide))
    refine ⟨(nI (i + 1), σ'), ?_, rfl, p1.trans k1, ?_⟩
    · show fX11_readsPiece_b206 a b (nI n) (nI i) s = _
      unfold fX11_readsPiece_b206
      rw [if_neg (show ¬ nI n ≤ nI i from fun q => by have := (nI_leI (by omega) (by omega)).mp q; omega), e, ob_s, nI_1]
    · rw [List.append_assoc] at q
      rw [show rep3 (i + 1) = rep3 i ++ [(3, -1)] from List.replicate_succ']
      exact q
  · rintro ⟨x, s⟩ ⟨rfl, p1, p2⟩
    refine ⟨s, ?_, p1, p2⟩
    show fX11_readsPiece_b206 a b (nI n) (nI n) s = _
    unfold fX11_readsPiece_b206
    rw [if_pos (Int32.le_refl _)]
def EndM (R : Nat ⊕ List (Int32 × Int32)) (σ : St) (o : Option (Int32 × St)) : Prop := ∃ σ', o = some (Sum.elim nI (fun _ => -1) R, σ') ∧ keepM σ σ' ∧ ∀ bs, R = .inr bs → PSm bs σ'
theorem EndM.bad {q : Nat} {σ0 σ : St} {o : Option (Int32 × St)} (h : o = some (nI q, σ)) (hk : keepM σ0 σ) : EndM (.inl q) σ0 o := ⟨σ, h, hk, fun bs h => by cases h⟩
/-- a single item that is no plain bar -/
theorem p_oneM {T : List Int32} {σ : St} {bs : List (Int32 × Int32)} {p : Nat} {k : Int32} (ht : TXm T σ) (hs : PSm bs σ) (hw : WB bs) (hp : p < T.length) (hk0 : k = 0 ∨ k = 1 ∨ k = 2 ∨ k = 4 ∨ k = 5) :
    ((bs.length = 99 ∨ (k < 3 ∧ nlo bs = 10) ∨ (k = 4 ∧ ncu bs = 6)) → fX11_readsPiece_j106 (nI p) 0 k σ = some (.inr (.inr (.inr (.inr (.inl (nI p, σ))))))) ∧
    (¬ (bs.length = 99 ∨ (k < 3 ∧ nlo bs = 10) ∨ (k = 4 ∧ ncu bs = 6)) →
      (k = 4 → ¬ (0 ≤ chAt T (p + 1) - 97 ∧ chAt T (p + 1) - 97 ≤ 3) → fX11_readsPiece_j106 (nI p) 0 k σ = some (.inr (.inr (.inr (.inr (.inr (.inl (nI p, σ)))))))) ∧
      ((k = 4 → 0 ≤ chAt T (p + 1) - 97 ∧ chAt T (p + 1) - 97 ≤ 3) → ∃ σ', fX11_readsPiece_j106 (nI p) 0 k σ = some (.inl (nI (p + if k = 4 then 2 else 1), if k = 5 then 1 else 0, σ')) ∧ keepM σ σ' ∧ PSm (bs ++ [(k, if k = 4 then chAt T (p + 1) - 97 else -1)]) σ')) := by
  obtain ⟨w1, w2, w3⟩ := id hw
  obtain ⟨t1, t2, t3⟩ := id ht
  obtain ⟨s1, s2, s3, s4⟩ := id hs
  have e6 : nI (nlo bs) = 10 ↔ nlo bs = 10 := nI_eq (b := 10) (by omega) (by omega)
  have e2 : nI bs.length = 99 ↔ bs.length = 99 := nI_eq (b := 99) (by omega) (by omega)
  have e7 : nI (ncu bs) = 6 ↔ ncu bs = 6 := nI_eq (b := 6) (by omega) (by omega)
  have hkm : ¬ k = -1 := by rcases hk0 with rfl | rfl | rfl | rfl | rfl <;> decide
  have hk3 : ¬ k = 3 := by rcases hk0 with rfl | rfl | rfl | rfl | rfl <;> decide
  have head : fX11_readsPiece_j106 (nI p) 0 k σ = if bs.length = 99 then some (.inr (.inr (.inr (.inr (.inl (nI p, σ)))))) else if (3 : Int32) ≤ k then fX11_readsPiece_j255 (nI p) k σ else if nlo bs = 10 then some (.inr (.inr (.inr (.inr (.inl (nI p, σ)))))) else fX11_readsPiece_j255 (nI p) k σ := by
    unfold fX11_readsPiece_j106
    rw [if_pos rfl, if_neg hkm, if_neg hk3, s1, s2]
    simp only [e6, e2]
  have mid : k ≠ 4 → fX11_readsPiece_j255 (nI p) k σ = fX11_readsPiece_j325 (nI p) k (-1) σ := by
    intro h4
    unfold fX11_readsPiece_j255 fX11_readsPiece_j272 fX11_readsPiece_j302 fX11_readsPiece_j303
    rw [if_neg h4, if_neg h4, if_neg h4]
  have midc : k = 4 → ncu bs ≠ 6 → fX11_readsPiece_j255 (nI p) k σ = if 0 ≤ chAt T (p + 1) - 97 ∧ chAt T (p + 1) - 97 ≤ 3 then fX11_readsPiece_j325 (nI p) k (chAt T (p + 1) - 97) σ else some (.inr (.inr (.inr (.inr (.inr (.inl (nI p, σ))))))) := by
    intro h4 h6
    have j303 : ∀ x : Int32, fX11_readsPiece_j303 (nI p) k x σ = if 0 ≤ x ∧ x ≤ 3 then fX11_readsPiece_j325 (nI p) k x σ else some (.inr (.inr (.inr (.inr (.inr (.inl (nI p, σ))))))) := by
      intro x
      unfold fX11_readsPiece_j303
      rw [if_pos h4, p_in, ob_s]
      by_cases hx : 0 ≤ x ∧ x ≤ 3
      · rw [if_pos hx, if_neg one_ne, if_pos hx]
      · rw [if_neg hx, if_pos rfl, if_neg hx]
    unfold fX11_readsPiece_j255 fX11_readsPiece_j272 fX11_readsPiece_j302
    rw [if_pos h4, s3, if_neg (fun q => h6 (e7.mp q)), if_pos h4, t2, nI_1]
    by_cases hl : p + 1 < T.length
    · rw [if_neg (show ¬ nI T.length ≤ nI (p + 1) from fun q => by have := (nI_leI (by omega) (by omega)).mp q; omega), inb_nI (by omega) (by omega), if_pos rfl, nI_clamp (by omega), t3 _ hl, j303]
      rfl
    · rw [if_pos (show nI T.length ≤ nI (p + 1) from nI_le (by omega) (by omega)), j303, if_neg (by decide), show chAt T (p + 1) = -1 from getD_ge (by omega), if_neg (by decide)]
  have tail : ∀ x : Int32, ¬ bs.length = 99 → (k = 4 → ncu bs < 6) → (k ≠ 4 → x = -1) → ∃ σ', fX11_readsPiece_j325 (nI p) k x σ = some (.inl (nI (p + if k = 4 then 2 else 1), if k = 5 then 1 else 0, σ')) ∧ keepM σ σ' ∧ PSm (bs ++ [(k, x)]) σ' := by
    intro x h99 hc hx
    obtain ⟨σ', e, k1, q⟩ := p_adds (k := k) (t := x) hs (by omega) hw hc
    refine ⟨σ', ?_, k1, q⟩
    have h340 : fX11_readsPiece_j325 (nI p) k x σ = fX11_readsPiece_j340 (nI p) k k x σ := by
      unfold fX11_readsPiece_j325
      by_cases h4 : k = 4
      · rw [if_pos h4]
      · rw [if_neg h4, hx h4]
    rw [h340]
    unfold fX11_readsPiece_j340 fX11_readsPiece_j354 fX11_readsPiece_j367 fX11_readsPiece_j369
    rw [e, ob_s]
    simp only [ltb, nI_2, nI_1]
    rcases hk0 with rfl | rfl | rfl | rfl | rfl <;> rfl
  constructor
  · rintro (h | ⟨h, h'⟩ | ⟨h, h'⟩)
    · rw [head, if_pos h]
    · rw [head]
      by_cases h9 : bs.length = 99
      · rw [if_pos h9]
      · rw [if_neg h9, if_neg (fun q => absurd h (Int32.not_lt.mpr q)), if_pos h']
    · rw [head]
      by_cases h9 : bs.length = 99
      · rw [if_pos h9]
      · rw [if_neg h9, if_pos (by rw [h]; decide)]
        unfold fX11_readsPiece_j255
        rw [if_pos h, s3, if_pos (e7.mpr h')]
  · intro hn
    have h99 : ¬ bs.length = 99 := fun q => hn (Or.inl q)
    have hh : fX11_readsPiece_j106 (nI p) 0 k σ = fX11_readsPiece_j255 (nI p) k σ := by
      rw [head, if_neg h99]
      by_cases hk3 : (3 : Int32) ≤ k
      · rw [if_pos hk3]
      · rw [if_neg hk3, if_neg (fun q => hn (Or.inr (Or.inl ⟨Int32.not_le.mp hk3, q⟩)))]
    rw [hh]
    constructor
    · intro h4 hb
      rw [midc h4 (fun q => hn (Or.inr (Or.inr ⟨h4, q⟩))), if_neg hb]
    · intro hok
      by_cases h4 : k = 4
      · rw [midc h4 (fun q => hn (Or.inr (Or.inr ⟨h4, q⟩))), if_pos (hok h4), if_pos h4, if_pos h4]
        have := tail (chAt T (p + 1) - 97) h99 (fun _ => by have : ¬ ncu bs = 6 := fun q => hn (Or.inr (Or.inr ⟨h4, q⟩)); omega) (fun q => absurd h4 q)
        rw [if_pos h4] at this
        exact this
      · rw [mid h4]
        have := tail (-1) h99 (fun q => absurd q h4) (fun _ => rfl)
        rw [if_neg h4] at this ⊢
        rw [if_neg h4]
        exact this
theorem p_readM {T : List Int32} {σ0 : St} : ∀ (f p : Nat) (bs : List (Int32 × Int32)) (σ : St), T.length < f + p → p ≤ T.length → 0 < f → TXm T σ → PSm bs σ → WB bs → keepM σ0 σ → EndM (prs T f p bs) σ0 (fX11_readsPiece_j29 (nI p) 0 σ) := by
  intro f
  induction f with
  | zero => intro p bs σ h1 h2 h3; omega
  | succ f ih =>
    intro p bs σ hf hpT _ ht hs hw hk
    obtain ⟨w1, w2, w3⟩ := id hw
    have hT := ht.1
    have hR : prs T (f + 1) p bs = Sum.elim .inl (fun z => if chAt T p = 120 then (if z.1 < T.length then .inl z.1 else .inr z.2) else prs T f z.1 z.2) (pstep T p bs) := rfl
    by_cases hpe : p = T.length
    · subst hpe
      have hc : chAt T T.length = -1 := getD_ge (Nat.le_refl _)
      have hps : pstep T T.length bs = .inl T.length := by unfold pstep; rw [hc]; rfl
      rw [hR, hps]
      refine EndM.bad ?_ hk
      rw [j29_exit (b30_end ht)]
      exact congrArg (fun z => some (z, σ)) ht.2.1
    · have hp : p < T.length := by omega
      obtain ⟨k, hb, hkk⟩ := b30_at (e := 0) ht hp
      -- what follows an item
      have go : ∀ (p' : Nat) (bs' : List (Int32 × Int32)) (σ' : St), pstep T p bs = .inr (p', bs') → chAt T p ≠ 120 → fX11_readsPiece_b30 (nI p) 0 σ = some (.inl (nI p', 0, σ')) → keepM σ σ' → PSm bs' σ' → EndM (prs T (f + 1) p bs) σ0 (fX11_readsPiece_j29 (nI p) 0 σ) := by
        intro p' bs' σ' hps hc he hk1 hs'
        obtain ⟨hw', hpp, hpl⟩ := pstep_ok hw hps
        rw [hR, hps, j29_step he]
        show EndM (if chAt T p = 120 then _ else _) _ _
        rw [if_neg hc]
        exact ih p' bs' σ' (by omega) hpl (by omega) (hk1.TX ht) hs' hw' (hk.trans hk1)
      have stop : ∀ (q : Nat) (r : (Int32 × St) ⊕ ((Int32 × Int32 × St) ⊕ ((Int32 × St) ⊕ ((Int32 × St) ⊕ ((Int32 × St) ⊕ (Int32 × St)))))), pstep T p bs = .inl q → fX11_readsPiece_b30 (nI p) 0 σ = some (.inr r) → (fX11_readsPiece_b30 (nI p) 0 σ = some (.inr r) → fX11_readsPiece_j29 (nI p) 0 σ = some (nI q, σ)) → EndM (prs T (f + 1) p bs) σ0 (fX11_readsPiece_j29 (nI p) 0 σ) := by
        intro q r hps he hq
        rw [hR, hps]
        exact EndM.bad (hq he) hk
      by_cases c112 : chAt T p = 112
      · have hk3 : k = 3 := by rw [hkk, c112]; rfl
        subst hk3
        have hj : fX11_readsPiece_j106 (nI p) 0 3 σ = (fX11_figureAt (nI p + 1) σ).bind fun q7 => (fX11_figureAt (nI p + 2) σ).bind fun q8 => ltb ((10 * q7) + q8) fun x9 => if q7 = (-1 : Int32) then some (.inr (.inr (.inl (nI p, q7, σ)))) else if q8 = (-1 : Int32) then some (.inr (.inr (.inl (nI p, q7, σ)))) else if x9 = (0 : Int32) then some (.inr (.inr (.inr (.inl (nI p, σ))))) else if ((σ.1 44 2) + x9) ≤ (99 : Int32) then (lpc (fun s => fX11_readsPiece_b206 (nI p) 0 x9 s.1 s.2) (0, σ)).bind fun r14 => fX11_readsPiece_j369 (nI p + 3) 0 r14 else some (.inr (.inr (.inr (.inl (nI p, σ))))) := by
          unfold fX11_readsPiece_j106
          rw [if_pos rfl, if_neg (by decide), if_pos rfl]
        rw [hj, nI_1, nI_2, p_figureAt ht (by omega), p_figureAt ht (by omega), ob_s, ob_s] at hb
        simp only [ltb] at hb
        have hps0 : pstep T p bs = match dig (chAt T (p + 1)) with
          | none => .inl (p + 1)
          | some t => match dig (chAt T (p + 2)) with
            | none => .inl (p + 2)
            | some u => if 10 * t + u = 0 ∨ 99 < bs.length + (10 * t + u) then .inl (p + 2) else .inr (p + 3, bs ++ rep3 (10 * t + u)) := by
          unfold pstep; rw [if_pos c112]; rfl
        cases hd : dig (chAt T (p + 1)) with
        | none =>
          rw [hd] at hb hps0
          refine stop (p + 1) (.inr (.inl (nI p, -1, σ))) hps0 ?_ (fun he => ?_)
          · rw [hb]; rfl
          · rw [j29_exit he, ← nI_1]; rfl
        | some t =>
          obtain ⟨t1, t2, -⟩ := dig_some hd
          have ht1 : ¬ nI t = -1 := nI_nm1 (by omega)
          rw [hd] at hb hps0
          cases hu : dig (chAt T (p + 2)) with
          | none =>
            rw [hu] at hb hps0
            refine stop (p + 2) (.inr (.inl (nI p, nI t, σ))) hps0 ?_ (fun he => ?_)
            · rw [hb]
              show (if nI t = -1 then _ else if (-1 : Int32) = -1 then _ else _) = _
              rw [if_neg ht1, if_pos rfl]; rfl
            · rw [j29_exit he]
              show (if nI t = -1 then _ else _) = _
              rw [if_neg ht1, nI_2]
          | some u =>
            obtain ⟨u1, u2, -⟩ := dig_some hu
            have hu1 : ¬ nI u = -1 := nI_nm1 (by omega)
            rw [hu] at hb hps0
            have e10 : (10 : Int32) * nI t + nI u = nI (10 * t + u) := by rw [show (10 : Int32) = nI 10 from rfl, pk_mul, nI_add]
            have hb2 : fX11_readsPiece_b30 (nI p) 0 σ = if nI (10 * t + u) = 0 then some (.inr (.inr (.inr (.inl (nI p, σ))))) else if nI (bs.length + (10 * t + u)) ≤ 99 then (lpc (fun s => fX11_readsPiece_b206 (nI p) 0 (nI (10 * t + u)) s.1 s.2) (0, σ)).bind fun r14 => fX11_readsPiece_j369 (nI p + 3) 0 r14 else some (.inr (.inr (.inr (.inl (nI p, σ))))) := by
              rw [hb]
              show (if nI t = -1 then _ else if nI u = -1 then _ else if (10 : Int32) * nI t + nI u = 0 then _ else if σ.1 44 2 + ((10 : Int32) * nI t + nI u) ≤ 99 then (lpc (fun s => fX11_readsPiece_b206 (nI p) 0 ((10 : Int32) * nI t + nI u) s.1 s.2) (0, σ)).bind (fun r14 => fX11_readsPiece_j369 (nI p + 3) 0 r14) else _) = _
              rw [if_neg ht1, if_neg hu1, e10, hs.1, nI_add]
            have hexit : (10 * t + u = 0 ∨ 99 < bs.length + (10 * t + u)) → EndM (prs T (f + 1) p bs) σ0 (fX11_readsPiece_j29 (nI p) 0 σ) := by
              intro h
              refine stop (p + 2) (.inr (.inr (.inl (nI p, σ)))) (by rw [hps0]; exact if_pos h) ?_ (fun he => ?_)
              · rw [hb2]
                by_cases h0 : 10 * t + u = 0
                · rw [if_pos (by rw [h0]; rfl)]
                · rw [if_neg (show ¬ nI (10 * t + u) = (0 : Int32) from fun q => h0 (nI_inj (b := 0) (by omega) (by omega) q)), if_neg (show ¬ nI (bs.length + (10 * t + u)) ≤ (99 : Int32) from fun q => by have := (nI_leI (b := 99) (by omega) (by omega)).mp q; omega)]
              · rw [j29_exit he]
                show some (nI p + 2, σ) = _
                rw [nI_2]
            by_cases h : 10 * t + u = 0 ∨ 99 < bs.length + (10 * t + u)
            · exact hexit h
            · obtain ⟨σ', e, k1, q⟩ := p_plainM (a := nI p) (b := 0) (n := 10 * t + u) hs hw (by omega)
              refine go (p + 3) (bs ++ rep3 (10 * t + u)) σ' (by rw [hps0]; exact if_neg h) (by rw [c112]; decide) ?_ k1 q
              rw [hb2, if_neg (show ¬ nI (10 * t + u) = (0 : Int32) from fun q => by have := nI_inj (b := 0) (by omega) (by omega) q; omega), if_pos (show nI (bs.length + (10 * t + u)) ≤ (99 : Int32) from (nI_leI (b := 99) (by omega) (by omega)).mpr (by omega)), e, ob_s]
              unfold fX11_readsPiece_j369
              rw [nI_3]
      · by_cases hkm : k = -1
        · subst hkm
          have hn : chAt T p ≠ 100 ∧ chAt T p ≠ 119 ∧ chAt T p ≠ 109 ∧ chAt T p ≠ 99 ∧ chAt T p ≠ 120 := by
            refine ⟨fun q => ?_, fun q => ?_, fun q => ?_, fun q => ?_, fun q => ?_⟩ <;> rw [q] at hkk <;> exact absurd hkk (by decide)
          refine stop p (.inl (nI p, σ)) (by unfold pstep; rw [if_neg c112, if_neg hn.1, if_neg hn.2.1, if_neg hn.2.2.1, if_neg hn.2.2.2.1, if_neg hn.2.2.2.2]) ?_ (fun he => by rw [j29_exit he]; rfl)
          rw [hb]
          unfold fX11_readsPiece_j106
          rw [if_pos rfl, if_pos rfl]
        · have hk0 : (k = 0 ∧ chAt T p = 100) ∨ (k = 1 ∧ chAt T p = 119) ∨ (k = 2 ∧ chAt T p = 109) ∨ (k = 4 ∧ chAt T p = 99) ∨ (k = 5 ∧ chAt T p = 120) := by
            revert hkk
            generalize chAt T p = c at c112
            intro hkk
            by_cases c1 : c = 100
            · subst c1; exact Or.inl ⟨hkk, rfl⟩
            by_cases c2 : c = 119
            · subst c2; exact Or.inr (Or.inl ⟨hkk, rfl⟩)
            by_cases c3 : c = 109
            · subst c3; exact Or.inr (Or.inr (Or.inl ⟨hkk, rfl⟩))
            by_cases c5 : c = 99
            · subst c5; exact Or.inr (Or.inr (Or.inr (Or.inl ⟨hkk, rfl⟩)))
            by_cases c6 : c = 120
            · subst c6; exact Or.inr (Or.inr (Or.inr (Or.inr ⟨hkk, rfl⟩)))
            rw [if_neg c1, if_neg c2, if_neg c3, if_neg c112, if_neg c5, if_neg c6] at hkk
            exact absurd hkk hkm
          obtain ⟨o1, o2⟩ := p_oneM (k := k) ht hs hw hp (by rcases hk0 with h | h | h | h | h <;> simp [h.1])
          have bad : (bs.length = 99 ∨ (k < 3 ∧ nlo bs = 10) ∨ (k = 4 ∧ ncu bs = 6)) → pstep T p bs = .inl p → EndM (prs T (f + 1) p bs) σ0 (fX11_readsPiece_j29 (nI p) 0 σ) := by
            intro h hps
            exact stop p (.inr (.inr (.inr (.inl (nI p, σ))))) hps (by rw [hb]; exact o1 h) (fun he => by rw [j29_exit he]; rfl)
          rcases hk0 with ⟨rfl, hc⟩ | ⟨rfl, hc⟩ | ⟨rfl, hc⟩ | ⟨rfl, hc⟩ | ⟨rfl, hc⟩
          · have hps : pstep T p bs = if nlo bs = 10 ∨ bs.length = 99 then .inl p else .inr (p + 1, bs ++ [(0, -1)]) := by
              unfold pstep; rw [if_neg c112, if_pos hc]
            by_cases h : nlo bs = 10 ∨ bs.length = 99
            · exact bad (by rcases h with h | h; exact Or.inr (Or.inl ⟨by decide, h⟩); exact Or.inl h) (by rw [hps, if_pos h])
            · obtain ⟨σ', e, k1, q⟩ := (o2 (by rintro (h9 | h9 | h9); exact h (Or.inr h9); exact h (Or.inl h9.2); exact absurd h9.1 (by decide))).2 (fun q => absurd q (by decide))
              exact go (p + 1) _ σ' (by rw [hps, if_neg h]; rfl) (by rw [hc]; decide) (by rw [hb]; exact e) k1 q
          · have hps : pstep T p bs = if nlo bs = 10 ∨ bs.length = 99 then .inl p else .inr (p + 1, bs ++ [(1, -1)]) := by
              unfold pstep; rw [if_neg c112, if_neg (by rw [hc]; decide), if_pos hc]
            by_cases h : nlo bs = 10 ∨ bs.length = 99
            · exact bad (by rcases h with h | h; exact Or.inr (Or.inl ⟨by decide, h⟩); exact Or.inl h) (by rw [hps, if_pos h])
            · obtain ⟨σ', e, k1, q⟩ := (o2 (by rintro (h9 | h9 | h9); exact h (Or.inr h9); exact h (Or.inl h9.2); exact absurd h9.1 (by decide))).2 (fun q => absurd q (by decide))
              exact go (p + 1) _ σ' (by rw [hps, if_neg h]; rfl) (by rw [hc]; decide) (by rw [hb]; exact e) k1 q
          · have hps : pstep T p bs = if nlo bs = 10 ∨ bs.length = 99 then .inl p else .inr (p + 1, bs ++ [(2, -1)]) := by
              unfold pstep; rw [if_neg c112, if_neg (by rw [hc]; decide), if_neg (by rw [hc]; decide), if_pos hc]
            by_cases h : nlo bs = 10 ∨ bs.length = 99
            · exact bad (by rcases h with h | h; exact Or.inr (Or.inl ⟨by decide, h⟩); exact Or.inl h) (by rw [hps, if_pos h])
            · obtain ⟨σ', e, k1, q⟩ := (o2 (by rintro (h9 | h9 | h9); exact h (Or.inr h9); exact h (Or.inl h9.2); exact absurd h9.1 (by decide))).2 (fun q => absurd q (by decide))
              exact go (p + 1) _ σ' (by rw [hps, if_neg h]; rfl) (by rw [hc]; decide) (by rw [hb]; exact e) k1 q
          · have hps : pstep T p bs = if ncu bs = 6 ∨ bs.length = 99 then .inl p else if 0 ≤ chAt T (p + 1) - 97 ∧ chAt T (p + 1) - 97 ≤ 3 then .inr (p + 2, bs ++ [(4, chAt T (p + 1) - 97)]) else .inl (p + 1) := by
              unfold pstep
              rw [if_neg c112, if_neg (by rw [hc]; decide), if_neg (by rw [hc]; decide), if_neg (by rw [hc]; decide), if_pos hc]
            by_cases h : ncu bs = 6 ∨ bs.length = 99
            · exact bad (by rcases h with h | h; exact Or.inr (Or.inr ⟨rfl, h⟩); exact Or.inl h) (by rw [hps, if_pos h])
            · have hn : ¬ (bs.length = 99 ∨ ((4 : Int32) < 3 ∧ nlo bs = 10) ∨ ((4 : Int32) = 4 ∧ ncu bs = 6)) := by
                rintro (h9 | h9 | h9); exact h (Or.inr h9); exact absurd h9.1 (by decide); exact h (Or.inl h9.2)
              by_cases htn : 0 ≤ chAt T (p + 1) - 97 ∧ chAt T (p + 1) - 97 ≤ 3
              · obtain ⟨σ', e, k1, q⟩ := (o2 hn).2 (fun _ => htn)
                exact go (p + 2) _ σ' (by rw [hps, if_neg h, if_pos htn]; rfl) (by rw [hc]; decide) (by rw [hb]; exact e) k1 q
              · exact stop (p + 1) (.inr (.inr (.inr (.inr (.inl (nI p, σ)))))) (by rw [hps, if_neg h, if_neg htn]) (by rw [hb]; exact (o2 hn).1 rfl htn) (fun he => by rw [j29_exit he]; show some (nI p + 1, σ) = _; rw [nI_1])
          · have hps : pstep T p bs = if bs.length = 99 then .inl p else .inr (p + 1, bs ++ [(5, -1)]) := by
              unfold pstep; rw [if_neg c112, if_neg (by rw [hc]; decide), if_neg (by rw [hc]; decide), if_neg (by rw [hc]; decide), if_neg (by rw [hc]; decide), if_pos hc]
            by_cases h : bs.length = 99
            · exact bad (Or.inl h) (by rw [hps, if_pos h])
            · obtain ⟨σ', e, k1, q⟩ := (o2 (by rintro (h9 | h9 | h9); exact h h9; exact absurd h9.1 (by decide); exact absurd h9.1 (by decide))).2 (fun q => absurd q (by decide))
              have hst : fX11_readsPiece_b30 (nI p) 0 σ = some (.inl (nI (p + 1), 1, σ')) := by rw [hb]; exact e
              rw [hR, hps, if_neg h, j29_step hst]
              show EndM (if chAt T p = 120 then (if p + 1 < T.length then _ else _) else _) _ _
              rw [if_pos hc]
              by_cases hl : p + 1 < T.length
              · rw [if_pos hl]
                refine EndM.bad ?_ (hk.trans k1)
                obtain ⟨k2, hb2, -⟩ := b30_at (e := 1) (k1.TX ht) hl
                have : fX11_readsPiece_b30 (nI (p + 1)) 1 σ' = some (.inr (.inl (nI (p + 1), σ'))) := by
                  rw [hb2]; unfold fX11_readsPiece_j106; rw [if_neg one_ne]
                rw [j29_exit this]
                rfl
              · rw [if_neg hl]
                have hpl : p + 1 = T.length := by omega
                refine ⟨σ', ?_, hk.trans k1, fun bs' h => by cases h; exact q⟩
                rw [hpl, j29_exit (b30_end (k1.TX ht))]
                rfl
/-- what a piece's bars keep -/
def BG (bs : List (Int32 × Int32)) : Prop := WB bs ∧ ∀ x ∈ bs, (x.1 = 4 ∧ 0 ≤ x.2 ∧ x.2 ≤ 3) ∨ (x.2 = -1 ∧ (x.1 = 0 ∨ x.1 = 1 ∨ x.1 = 2 ∨ x.1 = 3 ∨ x.1 = 5))
theorem BG_app {bs : List (Int32 × Int32)} {l : List (Int32 × Int32)} (h : BG bs) (hw : WB (bs ++ l)) (hl : ∀ x ∈ l, (x.1 = 4 ∧ 0 ≤ x.2 ∧ x.2 ≤ 3) ∨ (x.2 = -1 ∧ (x.1 = 0 ∨ x.1 = 1 ∨ x.1 = 2 ∨ x.1 = 3 ∨ x.1 = 5))) : BG (bs ++ l) := by
  refine ⟨hw, fun x hx => ?_⟩
  rcases List.mem_append.mp hx with q | q
  · exact h.2 x q
  · exact hl x q
theorem BG_one {x y : Int32 × Int32} (h : (y.1 = 4 ∧ 0 ≤ y.2 ∧ y.2 ≤ 3) ∨ (y.2 = -1 ∧ (y.1 = 0 ∨ y.1 = 1 ∨ y.1 = 2 ∨ y.1 = 3 ∨ y.1 = 5))) (hx : x ∈ [y]) : (x.1 = 4 ∧ 0 ≤ x.2 ∧ x.2 ≤ 3) ∨ (x.2 = -1 ∧ (x.1 = 0 ∨ x.1 = 1 ∨ x.1 = 2 ∨ x.1 = 3 ∨ x.1 = 5)) := by
  rw [List.mem_singleton] at hx; rw [hx]; exact h
theorem pstep_BG {T : List Int32} {p p' : Nat} {bs bs' : List (Int32 × Int32)} (hw : BG bs) (h : pstep T p bs = .inr (p', bs')) : BG bs' := by
  have h2 := (pstep_ok hw.1 h).1
  unfold pstep at h
  split at h
  · split at h
    · cases h
    · split at h
      · cases h
      · split at h
        · cases h
        · cases h
          refine BG_app hw h2 fun x hx => ?_
          rw [(List.mem_replicate.mp hx).2]
          exact Or.inr ⟨rfl, Or.inr (Or.inr (Or.inr (Or.inl rfl)))⟩
  · repeat' split at h
    all_goals first | cases h; exact BG_app hw h2 fun x hx => BG_one (Or.inr ⟨rfl, by simp⟩) hx | skip
    all_goals first | cases h; exact BG_app hw h2 fun x hx => BG_one (Or.inl ⟨rfl, by assumption⟩) hx | cases h
theorem prs_le {T : List Int32} : ∀ (f p : Nat) (bs : List (Int32 × Int32)), p ≤ T.length → BG bs → (∀ q, prs T f p bs = .inl q → q ≤ T.length + 2) ∧ ∀ bs', prs T f p bs = .inr bs' → BG bs' := by
  intro f
  induction f with
  | zero =>
    intro p bs hp hw
    refine ⟨fun q h => ?_, fun bs' h => by cases h⟩
    cases h; omega
  | succ f ih =>
    intro p bs hp hw
    have hR : prs T (f + 1) p bs = Sum.elim .inl (fun z => if chAt T p = 120 then (if z.1 < T.length then .inl z.1 else .inr z.2) else prs T f z.1 z.2) (pstep T p bs) := rfl
    rw [hR]
    cases hs : pstep T p bs with
    | inl q =>
      rw [Sum.elim_inl]
      refine ⟨fun q' h => ?_, fun bs' h => by cases h⟩
      cases h
      have := pstep_le hs
      omega
    | inr z =>
      obtain ⟨p', b'⟩ := z
      rw [Sum.elim_inr]
      have h1 := pstep_BG hw hs
      have h2 := (pstep_ok hw.1 hs).2.2
      show (∀ q, (if chAt T p = 120 then (if p' < T.length then .inl p' else .inr b') else prs T f p' b') = .inl q → _) ∧ ∀ bs', (if chAt T p = 120 then (if p' < T.length then .inl p' else .inr b') else prs T f p' b') = .inr bs' → _
      split
      · split
        · exact ⟨fun q h => by cases h; omega, fun bs' h => by cases h⟩
        · exact ⟨fun q h => (by cases h), fun bs' h => (by cases h; exact h1)⟩
      · exact ih p' b' h2 h1
theorem BG_nil : BG [] := ⟨⟨by decide, by decide, by decide⟩, fun x hx => by cases hx⟩
theorem parse_le {T : List Int32} {q : Nat} (h : parse T = .inl q) (hT : T.length ≤ 60) : q ≤ T.length + 2 := by
  unfold parse at h
  split at h
  · cases h
  · exact (prs_le 61 0 [] (by omega) BG_nil).1 q h
theorem BG_bsOf (T : List Int32) : BG (bsOf T) := by
  unfold bsOf
  cases h : parse T with
  | inl q => exact BG_nil
  | inr bs =>
    show BG bs
    unfold parse at h
    split at h
    · cases h; exact BG_nil
    · exact (prs_le 61 0 [] (by omega) BG_nil).2 bs h
theorem p_faultNow {T : List Int32} {σ : St} (ht : TXm T σ) : ∃ σ', fX11_faultNow σ = some (flOf T, σ') ∧ keepM σ σ' ∧ PSm (bsOf T) σ' := by
  have hT := ht.1
  have hσ1 : keepM σ (sI (sI (sI σ 44 2 0) 44 6 0) 44 7 0) := ⟨((Fr_sI (by decide)).trans (Fr_sI (by decide))).trans (Fr_sI (by decide)), fun j b1 b2 b3 => by simp [g_sI, b1, b2, b3], rfl⟩
  generalize hg : sI (sI (sI σ 44 2 0) 44 6 0) 44 7 0 = σ1 at hσ1
  have hps : PSm [] σ1 := by
    refine ⟨?_, ?_, ?_, PK_nil⟩ <;> rw [← hg] <;> simp [g_sI] <;> rfl
  have ht1 := hσ1.TX ht
  have key : EndM (parse T) σ (fX11_readsPiece σ) := by
    unfold fX11_readsPiece
    rw [ht.2.1, hg]
    by_cases h0 : T.length = 0
    · rw [if_pos (by rw [h0]; rfl)]
      have hp : parse T = .inr [] := by unfold parse; rw [if_pos h0]
      rw [hp]
      refine ⟨σ1, ?_, hσ1, fun bs h => by cases h; exact hps⟩
      have := b30_end (e := 1) ht1
      rw [h0] at this
      exact (j29_exit (x := nI 0) this).trans rfl
    · rw [if_neg (show ¬ nI T.length = (0 : Int32) from fun q => h0 (nI_inj (b := 0) (by omega) (by omega) q))]
      have hp : parse T = prs T 61 0 [] := by unfold parse; rw [if_neg h0]
      rw [hp]
      exact p_readM 61 0 [] σ1 (by omega) (by omega) (by omega) ht1 hps ⟨by decide, by decide, by decide⟩ hσ1
  obtain ⟨σ', e, hk, hb⟩ := key
  have kk : ∀ s : St, ∀ a b c : Int32, keepM s (sI (sI (sI s 44 2 a) 44 6 b) 44 7 c) := fun s a b c => ⟨((Fr_sI (by decide)).trans (Fr_sI (by decide))).trans (Fr_sI (by decide)), fun j b1 b2 b3 => by simp [g_sI, b1, b2, b3], rfl⟩
  cases hR : parse T with
  | inl q =>
    have hq : ¬ nI q = -1 := nI_nm1 (by have := parse_le hR hT; omega)
    have hf : flOf T = nI q := by unfold flOf; rw [hR]; rfl
    have hb' : bsOf T = [] := by unfold bsOf; rw [hR]; rfl
    have e' : fX11_readsPiece σ = some (nI q, σ') := by rw [e, hR]; rfl
    unfold fX11_faultNow
    rw [e', ob_s]
    unfold fX11_faultNow_j19 fX11_faultNow_j36 fX11_faultNow_j53
    dsimp only
    simp only [if_neg hq]
    rw [hf, hb']
    exact ⟨_, rfl, hk.trans (kk _ _ _ _), by simp [g_sI]; rfl, by simp [g_sI]; rfl, by simp [g_sI]; rfl, PK_nil⟩
  | inr bs =>
    have hb := hb bs hR
    have hf : flOf T = -1 := by unfold flOf; rw [hR]; rfl
    have hb' : bsOf T = bs := by unfold bsOf; rw [hR]; rfl
    have e' : fX11_readsPiece σ = some (-1, σ') := by rw [e, hR]; rfl
    unfold fX11_faultNow
    rw [e', ob_s]
    unfold fX11_faultNow_j19 fX11_faultNow_j36 fX11_faultNow_j53
    dsimp only
    simp only [if_true]
    rw [hf, hb']
    refine ⟨_, rfl, hk.trans (kk _ _ _ _), ?_, ?_, ?_, hb.2.2.2⟩
    · simp [g_sI]; exact hb.1
    · simp [g_sI]; exact hb.2.1
    · simp [g_sI]; exact hb.2.2.1
