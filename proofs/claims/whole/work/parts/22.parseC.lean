/-! the class reads its text -/
theorem keepP_f {σ : St} {x : Int32} : keepP σ (sI σ 1 9 x) ∧ (sI σ 1 9 x).1 1 9 = x := by
  refine ⟨⟨Fr_sI (by decide), fun j a b c d => ?_, rfl⟩, by rw [g_sI]; simp⟩
  rw [g_sI, if_pos rfl, if_neg d]
theorem nI_2 (p : Nat) : nI p + 2 = nI (p + 2) := nI_add p 2
theorem nI_3 (p : Nat) : nI p + 3 = nI (p + 3) := nI_add p 3
/-- one bar more, no cue -/
theorem p_add1 {σ : St} {bs : List (Int32 × Int32)} {k : Int32} (hs : PS bs σ) (hw : WB bs) (hl : bs.length < 99) (hk : k ≠ 4) : ∃ σ', fX4_addBars 1 k σ = some (1, σ') ∧ keepP σ σ' ∧ σ'.1 1 9 = σ.1 1 9 ∧ σ'.1 1 6 = nI (bs.length + 1) ∧ σ'.1 1 7 = nI (nlo bs) ∧ σ'.1 1 8 = nI (ncu bs) ∧ PK (bs ++ [(k, -1)]) (σ'.1 3) (σ'.1 5) (σ'.1 4) (σ'.1 6) := by
  obtain ⟨h1, h2, h3, h4⟩ := hs
  obtain ⟨σ', e, k1, a1, a2, a3, a4, a5, a6, a7, a8⟩ := p_addBars (k := k) (n := 1) h1 (by omega)
  refine ⟨σ', e, k1, a4, a1, a2.trans h2, a3.trans h3, ?_⟩
  refine PK_snoc k (-1) h4 (fun j hj => ?_) (fun j hj => ?_) (fun j hj => ?_) (fun j hj => ?_) ?_ ?_ (fun q => absurd q hk) (fun _ => ?_)
  · rw [a6 j, if_neg (by omega)]
  · rw [a8 j, if_neg (by omega)]
  · rw [a7 j, if_neg (by omega)]
  · rw [a5]
  · rw [a6, if_pos (by omega)]
  · rw [a8, if_pos (by omega)]
  · rw [a7, if_pos (by omega)]
theorem p_passedLoose {σ : St} {bs : List (Int32 × Int32)} {p : Nat} {k : Int32} (hs : PS bs σ) (hw : WB bs) (hp : p ≤ 60) (h9 : σ.1 1 9 = -1) (hk : k < 3) :
    ((nlo bs = 10 ∨ bs.length = 99) → ∃ σ', fX4_passedLoose (nI p) k σ = some (nI p, σ') ∧ keepP σ σ' ∧ σ'.1 1 9 = nI p) ∧
    (¬ (nlo bs = 10 ∨ bs.length = 99) → ∃ σ', fX4_passedLoose (nI p) k σ = some (nI (p + 1), σ') ∧ keepP σ σ' ∧ σ'.1 1 9 = -1 ∧ PS (bs ++ [(k, -1)]) σ') := by
  have hk4 : k ≠ 4 := fun q => by subst q; exact absurd hk (by decide)
  obtain ⟨w1, w2, w3⟩ := id hw
  constructor
  · intro hc
    unfold fX4_passedLoose fX4_passedLoose_j18
    by_cases h10 : nlo bs = 10
    · rw [hs.2.1, h10, if_pos (by decide)]
      exact ⟨_, rfl, keepP_f.1, keepP_f.2⟩
    · rw [hs.2.1, if_neg (show ¬ (10 : Int32) ≤ nI (nlo bs) from fun q => by have := (nI_leI (a := 10) (by omega) (by omega)).mp q; omega), show fX4_addBars 1 k σ = some (0, σ) from p_addBars_no (n := 1) hs.1 (by omega) (by omega) (by omega)]
      exact ⟨_, rfl, keepP_f.1, keepP_f.2⟩
  · intro hc
    obtain ⟨σ', e, k1, a9, a1, a2, a3, a4⟩ := p_add1 hs hw (by omega) hk4
    unfold fX4_passedLoose
    rw [hs.2.1, if_neg (show ¬ (10 : Int32) ≤ nI (nlo bs) from fun q => by have := (nI_leI (a := 10) (by omega) (by omega)).mp q; omega), e, ob_s, if_neg one_ne]
    refine ⟨_, by rw [nI_1], ?_, ?_, ?_, ?_, ?_, ?_⟩
    · refine k1.trans ⟨Fr_sI (by decide), fun j a b c d => ?_, rfl⟩
      rw [g_sI, if_pos rfl, if_neg b]
    · rw [g_sI]; simp [a9, h9]
    · rw [g_sI]; simp [a1]
    · rw [g_sI, a2, nlo_app]
      have : nlo [(k, (-1 : Int32))] = 1 := by simp [nlo, hk]
      rw [this, nI_1]; simp
    · rw [g_sI, ncu_app]
      have : ncu [(k, (-1 : Int32))] = 0 := by simp [ncu, hk4]
      rw [this]; simp [a3]
    · exact a4
def PassOK (T : List Int32) (p : Nat) (bs : List (Int32 × Int32)) (σ : St) (r : Option (Int32 × St)) : Prop :=
  Sum.elim (fun q => ∃ σ', r = some (nI q, σ') ∧ keepP σ σ' ∧ σ'.1 1 9 = nI q) (fun z => ∃ σ', r = some (nI z.1, σ') ∧ keepP σ σ' ∧ σ'.1 1 9 = -1 ∧ PS z.2 σ') (pstep T p bs)
theorem PassOK.bad {T : List Int32} {p q : Nat} {bs : List (Int32 × Int32)} {σ σ' : St} {r : Option (Int32 × St)} (h : pstep T p bs = .inl q) (hr : r = some (nI q, sI σ' 1 9 (nI q))) (hk : keepP σ σ') : PassOK T p bs σ r := by
  unfold PassOK
  rw [h]
  exact ⟨_, hr, hk.trans keepP_f.1, keepP_f.2⟩
theorem PassOK.ok {T : List Int32} {p p' : Nat} {bs bs' : List (Int32 × Int32)} {σ σ' : St} {r : Option (Int32 × St)} (h : pstep T p bs = .inr (p', bs')) (hr : r = some (nI p', σ')) (hk : keepP σ σ') (h9 : σ'.1 1 9 = -1) (hs : PS bs' σ') : PassOK T p bs σ r := by
  unfold PassOK
  rw [h]
  exact ⟨_, hr, hk, h9, hs⟩
theorem p_passedPlain {T : List Int32} {σ : St} {bs : List (Int32 × Int32)} {p : Nat} (ht : TX T σ) (hs : PS bs σ) (hw : WB bs) (hp : p ≤ 60) (h9 : σ.1 1 9 = -1) (hc : chAt T p = 112) : PassOK T p bs σ (fX4_passedPlain (nI p) σ) := by
  obtain ⟨w1, w2, w3⟩ := id hw
  have hp0 := p_byteAt ht (p := p + 1) (by omega)
  have hp2 := p_byteAt ht (p := p + 2) (by omega)
  cases hd : dig (chAt T (p + 1)) with
  | none =>
    refine PassOK.bad (q := p + 1) (σ' := σ) (by unfold pstep; rw [if_pos hc, hd]) ?_ keepP.rf
    unfold fX4_passedPlain
    rw [nI_1, hp0, ob_s]
    simp only [ltb]
    rw [p_within, ob_s, if_neg (dig_none hd), if_pos rfl]
    rfl
  | some t =>
    obtain ⟨t1, t2, -⟩ := dig_some hd
    cases hu : dig (chAt T (p + 2)) with
    | none =>
      refine PassOK.bad (q := p + 2) (σ' := σ) (by unfold pstep; rw [if_pos hc, hd]; simp only [hu]) ?_ keepP.rf
      unfold fX4_passedPlain
      rw [nI_1, hp0, ob_s]
      simp only [ltb]
      rw [p_within, ob_s, if_pos (dig_in hd), if_neg one_ne, nI_2, hp2, ob_s, p_within, ob_s, if_neg (dig_none hu), if_pos rfl]
      unfold fX4_passedPlain_j70
      rw [nI_2]
      rfl
    | some u =>
      obtain ⟨u1, u2, -⟩ := dig_some hu
      have e10 : (10 : Int32) * nI t + nI u = nI (10 * t + u) := by rw [show (10 : Int32) = nI 10 from rfl, pk_mul, nI_add]
      have hf : fX4_passedPlain (nI p) σ = if nI (t + u) = 0 then fX4_passedPlain_j70 (nI p) σ else (fX4_addBars (nI (10 * t + u)) 3 σ).bind fun q10 => if q10.1 = 0 then fX4_passedPlain_j70 (nI p) q10.2 else some (nI p + 3, q10.2) := by
        unfold fX4_passedPlain
        rw [nI_1, hp0, ob_s]
        simp only [ltb]
        rw [p_within, ob_s, if_pos (dig_in hd), if_neg one_ne, nI_2, hp2, ob_s, p_within, ob_s, if_pos (dig_in hu), if_neg one_ne, t1, u1, nI_add, e10]
      rw [hf]
      by_cases h0 : t + u = 0
      · refine PassOK.bad (q := p + 2) (σ' := σ) (by unfold pstep; rw [if_pos hc, hd]; simp only [hu]; rw [if_pos (Or.inl (by omega))]) ?_ keepP.rf
        rw [if_pos (show nI (t + u) = 0 by rw [h0]; rfl)]
        unfold fX4_passedPlain_j70
        rw [nI_2]
        rfl
      · rw [if_neg (show ¬ nI (t + u) = 0 from fun q => h0 (nI_inj (b := 0) (by omega) (by omega) q))]
        by_cases ho : 99 < bs.length + (10 * t + u)
        · refine PassOK.bad (q := p + 2) (σ' := σ) (by unfold pstep; rw [if_pos hc, hd]; simp only [hu]; rw [if_pos (Or.inr ho)]) ?_ keepP.rf
          rw [p_addBars_no hs.1 (by omega) (by omega) ho, ob_s, if_pos rfl]
          unfold fX4_passedPlain_j70
          rw [nI_2]
          rfl
        · obtain ⟨σ', e, k1, a1, a2, a3, a4, a5, a6, a7, a8⟩ := p_addBars (k := 3) (n := 10 * t + u) hs.1 (by omega)
          refine PassOK.ok (p' := p + 3) (bs' := bs ++ rep3 (10 * t + u)) (σ' := σ') (by unfold pstep; rw [if_pos hc, hd]; simp only [hu]; rw [if_neg (by omega)]) ?_ k1 (a4.trans h9) ⟨?_, ?_, ?_, ?_⟩
          · rw [e, ob_s, if_neg one_ne, nI_3]
          · rw [a1, List.length_append, len_rep]
          · rw [a2, hs.2.1, nlo_app, nlo_rep]; rfl
          · rw [a3, hs.2.2.1, ncu_app, ncu_rep]; rfl
          · refine PK_rep _ hs.2.2.2 (fun j hj => ?_) (fun j hj => ?_) (fun j hj => ?_) (fun j hj => by rw [a5]) (fun j h1 h2 => ?_)
            · rw [a6, if_neg (by omega)]
            · rw [a8, if_neg (by omega)]
            · rw [a7, if_neg (by omega)]
            · rw [a6, a7, a8, if_pos (by omega), if_pos (by omega), if_pos (by omega)]
              exact ⟨rfl, rfl, rfl⟩
theorem p_passedCue {T : List Int32} {σ : St} {bs : List (Int32 × Int32)} {p : Nat} (ht : TX T σ) (hs : PS bs σ) (hw : WB bs) (hp : p ≤ 60) (h9 : σ.1 1 9 = -1) (hc : chAt T p = 99) : PassOK T p bs σ (fX4_passedCue (nI p) σ) := by
  obtain ⟨w1, w2, w3⟩ := id hw
  have hps : pstep T p bs = if ncu bs = 6 ∨ bs.length = 99 then .inl p else if 0 ≤ chAt T (p + 1) - 97 ∧ chAt T (p + 1) - 97 ≤ 3 then .inr (p + 2, bs ++ [(4, chAt T (p + 1) - 97)]) else .inl (p + 1) := by
    unfold pstep
    rw [if_neg (by rw [hc]; decide), if_neg (by rw [hc]; decide), if_neg (by rw [hc]; decide), if_neg (by rw [hc]; decide), if_pos hc]
  by_cases h6 : ncu bs = 6
  · refine PassOK.bad (q := p) (σ' := σ) (by rw [hps, if_pos (Or.inl h6)]) ?_ keepP.rf
    unfold fX4_passedCue
    simp only [ltb]
    rw [hs.2.2.1, if_neg (nI_pos (by omega)), h6, if_pos (by decide)]
    rfl
  · by_cases h99 : bs.length = 99
    · refine PassOK.bad (q := p) (σ' := σ) (by rw [hps, if_pos (Or.inr h99)]) ?_ keepP.rf
      unfold fX4_passedCue
      simp only [ltb]
      rw [hs.2.2.1, if_neg (nI_pos (by omega)), if_neg (show ¬ (6 : Int32) ≤ nI (ncu bs) from fun q => by have := (nI_leI (a := 6) (by omega) (by omega)).mp q; omega), show fX4_addBars 1 4 σ = some (0, σ) from p_addBars_no (n := 1) hs.1 (by omega) (by omega) (by omega), ob_s, if_pos rfl]
      rfl
    · obtain ⟨σ', e, k1, a1, a2, a3, a4, a5, a6, a7, a8⟩ := p_addBars (k := 4) (n := 1) hs.1 (by omega)
      have hf : fX4_passedCue (nI p) σ = if (if 0 ≤ chAt T (p + 1) - 97 ∧ chAt T (p + 1) - 97 ≤ 3 then (1 : Int32) else 0) = 0 then fX4_passedCue_j66 (nI p) σ' else some (nI (p + 2), sI (sI (sI (sI σ' 4 bs.length (nI (ncu bs))) 5 bs.length (chAt T (p + 1) - 97)) 6 (ncu bs) (nI bs.length)) 1 8 (nI (ncu bs) + 1)) := by
        unfold fX4_passedCue
        simp only [ltb]
        rw [hs.2.2.1, if_neg (nI_pos (by omega)), if_neg (show ¬ (6 : Int32) ≤ nI (ncu bs) from fun q => by have := (nI_leI (a := 6) (by omega) (by omega)).mp q; omega), show fX4_addBars 1 4 σ = some (1, σ') from e, ob_s, if_neg one_ne, nI_1, p_byteAt (k1.TX ht) (by omega), ob_s, p_within, ob_s, hs.1, p_within, ob_s, if_pos (show (0 : Int32) ≤ nI bs.length ∧ nI bs.length ≤ 98 from ⟨nI_pos' (by omega), (nI_leI (b := 98) (by omega) (by omega)).mpr (by omega)⟩)]
        dsimp only
        rw [if_neg one_ne, inb_nI (by omega) (by omega), a3, hs.2.2.1, inb_nI (by omega) (by omega), nI_clamp (by omega), nI_clamp (by omega), nI_2]
        simp
      rw [hf]
      by_cases htn : 0 ≤ chAt T (p + 1) - 97 ∧ chAt T (p + 1) - 97 ≤ 3
      · refine PassOK.ok (p' := p + 2) (by rw [hps, if_neg (by omega), if_pos htn]) (by rw [if_pos htn, if_neg one_ne]) ?_ ?_ ⟨?_, ?_, ?_, ?_⟩
        · refine k1.trans ⟨(((Fr_sI (by decide)).trans (Fr_sI (by decide))).trans (Fr_sI (by decide))).trans (Fr_sI (by decide)), fun j b1 b2 b3 b4 => ?_, rfl⟩
          simp [g_sI, b3]
        · simp [g_sI, a4, h9]
        · simp [g_sI, a1]
        · rw [nlo_app]
          have : nlo [((4 : Int32), chAt T (p + 1) - 97)] = 0 := by simp [nlo]
          rw [this]
          simp [g_sI, a2, hs.2.1]
        · rw [ncu_app]
          have : ncu [((4 : Int32), chAt T (p + 1) - 97)] = 1 := by simp [ncu]
          rw [this, ← nI_1]
          simp [g_sI]
        · refine PK_snoc 4 _ hs.2.2.2 (fun j hj => ?_) (fun j hj => ?_) (fun j hj => ?_) (fun j hj => ?_) ?_ ?_ (fun _ => ⟨?_, ?_⟩) (fun q => absurd rfl q)
          · have : ¬ (bs.length ≤ j ∧ j < bs.length + 1) := by omega
            simp [g_sI, a6, this]
          · have : ¬ (bs.length ≤ j ∧ j < bs.length + 1) := by omega
            have h2 : ¬ j = bs.length := by omega
            simp [g_sI, a8, this, h2]
          · have : ¬ (bs.length ≤ j ∧ j < bs.length + 1) := by omega
            have h2 : ¬ j = bs.length := by omega
            simp [g_sI, a7, this, h2]
          · have h2 : ¬ j = ncu bs := by omega
            simp [g_sI, a5, h2]
          · simp [g_sI, a6]
          · simp [g_sI]
          · simp [g_sI]
          · simp [g_sI]
      · refine PassOK.bad (q := p + 1) (σ' := σ') (by rw [hps, if_neg (by omega), if_neg htn]) ?_ k1
        rw [if_neg htn, if_pos rfl]
        unfold fX4_passedCue_j66
        rw [nI_1]
        rfl
theorem p_passed {T : List Int32} {σ : St} {bs : List (Int32 × Int32)} {p : Nat} (ht : TX T σ) (hs : PS bs σ) (hw : WB bs) (hp : p ≤ 60) (h9 : σ.1 1 9 = -1) : PassOK T p bs σ (fX4_passed (nI p) σ) := by
  obtain ⟨w1, w2, w3⟩ := id hw
  unfold fX4_passed
  rw [p_byteAt ht (by omega), ob_s]
  have eta : ∀ o : Option (Int32 × St), (o.bind fun q => some (q.1, q.2)) = o := fun o => by cases o <;> rfl
  simp only [eta]
  by_cases c99 : chAt T p = 99
  · rw [if_pos c99]; exact p_passedCue ht hs hw hp h9 c99
  rw [if_neg c99]
  by_cases c100 : chAt T p = 100
  · rw [if_pos c100]
    have hps : pstep T p bs = if nlo bs = 10 ∨ bs.length = 99 then .inl p else .inr (p + 1, bs ++ [(0, -1)]) := by
      unfold pstep; rw [if_neg (by rw [c100]; decide), if_pos c100]
    obtain ⟨h1, h2⟩ := p_passedLoose (k := 0) hs hw hp h9 (by decide)
    by_cases hc : nlo bs = 10 ∨ bs.length = 99
    · unfold PassOK; rw [hps, if_pos hc]; exact h1 hc
    · unfold PassOK; rw [hps, if_neg hc]; exact h2 hc
  rw [if_neg c100]
  by_cases c109 : chAt T p = 109
  · rw [if_pos c109]
    have hps : pstep T p bs = if nlo bs = 10 ∨ bs.length = 99 then .inl p else .inr (p + 1, bs ++ [(2, -1)]) := by
      unfold pstep; rw [if_neg (by rw [c109]; decide), if_neg (by rw [c109]; decide), if_neg (by rw [c109]; decide), if_pos c109]
    obtain ⟨h1, h2⟩ := p_passedLoose (k := 2) hs hw hp h9 (by decide)
    by_cases hc : nlo bs = 10 ∨ bs.length = 99
    · unfold PassOK; rw [hps, if_pos hc]; exact h1 hc
    · unfold PassOK; rw [hps, if_neg hc]; exact h2 hc
  rw [if_neg c109]
  by_cases c112 : chAt T p = 112
  · rw [if_pos c112]; exact p_passedPlain ht hs hw hp h9 c112
  rw [if_neg c112]
  by_cases c119 : chAt T p = 119
  · rw [if_pos c119]
    have hps : pstep T p bs = if nlo bs = 10 ∨ bs.length = 99 then .inl p else .inr (p + 1, bs ++ [(1, -1)]) := by
      unfold pstep; rw [if_neg (by rw [c119]; decide), if_neg (by rw [c119]; decide), if_pos c119]
    obtain ⟨h1, h2⟩ := p_passedLoose (k := 1) hs hw hp h9 (by decide)
    by_cases hc : nlo bs = 10 ∨ bs.length = 99
    · unfold PassOK; rw [hps, if_pos hc]; exact h1 hc
    · unfold PassOK; rw [hps, if_neg hc]; exact h2 hc
  rw [if_neg c119]
  by_cases c120 : chAt T p = 120
  · rw [if_pos c120]
    have hps : pstep T p bs = if bs.length = 99 then .inl p else .inr (p + 1, bs ++ [(5, -1)]) := by
      unfold pstep; rw [if_neg c112, if_neg c100, if_neg c119, if_neg c109, if_neg c99, if_pos c120]
    by_cases hc : bs.length = 99
    · refine PassOK.bad (q := p) (σ' := σ) (by rw [hps, if_pos hc]) ?_ keepP.rf
      rw [show fX4_addBars 1 5 σ = some (0, σ) from p_addBars_no (n := 1) hs.1 (by omega) (by omega) (by omega), ob_s, if_pos rfl]
      rfl
    · obtain ⟨σ', e, k1, b9, b1, b2, b3, b4⟩ := p_add1 (k := 5) hs hw (by omega) (by decide)
      refine PassOK.ok (p' := p + 1) (σ' := σ') (by rw [hps, if_neg hc]) ?_ k1 (b9.trans h9) ⟨?_, ?_, ?_, b4⟩
      · rw [e, ob_s, if_neg one_ne, nI_1]
      · rw [b1]; simp
      · rw [b2, nlo_app, show nlo [((5 : Int32), (-1 : Int32))] = 0 by decide]; rfl
      · rw [b3, ncu_app, show ncu [((5 : Int32), (-1 : Int32))] = 0 by decide]; rfl
  · rw [if_neg c120]
    refine PassOK.bad (q := p) (σ' := σ) ?_ rfl keepP.rf
    unfold pstep; rw [if_neg c112, if_neg c100, if_neg c119, if_neg c109, if_neg c99, if_neg c120]
/-- the end of reading: where it stands -/
def EndOK (T : List Int32) (R : Nat ⊕ List (Int32 × Int32)) (σ : St) (x : Int32 × St) : Prop :=
  keepP σ x.2 ∧ ((∃ q, R = .inl q ∧ ((x.2.1 1 9 = nI q ∧ q ≤ 70) ∨ (x.2.1 1 9 = -1 ∧ x.1 = nI q ∧ q < T.length))) ∨ ∃ bs, R = .inr bs ∧ x.2.1 1 9 = -1 ∧ x.1 = nI T.length ∧ PS bs x.2)
theorem pstep_le {T : List Int32} {p q : Nat} {bs : List (Int32 × Int32)} (h : pstep T p bs = .inl q) : q ≤ p + 2 := by
  unfold pstep at h
  repeat' split at h
  all_goals first | (cases h; omega) | cases h
theorem p_readC {T : List Int32} {σ0 : St} : ∀ (f p tn : Nat) (bs : List (Int32 × Int32)) (σ : St), f + tn = 61 → T.length ≤ 60 → p < f + p → T.length < f + p → p ≤ T.length → TX T σ → PS bs σ → WB bs → σ.1 1 9 = -1 → keepP σ0 σ → ∃ x, lpc (fun s => fX4_understand_b37 s.1 s.2.1 s.2.2.1 s.2.2.2) (nI p, 1, nI tn, σ) = some x ∧ EndOK T (prs T f p bs) σ0 x := by
  intro f
  induction f with
  | zero => intro p tn bs σ h1 h2 h3; omega
  | succ f ih =>
    intro p tn bs σ hf hT hp hp2 hpT ht hs hw h9 hk
    have hstep : ∀ o x σ', fX4_passed (nI p) σ = some (x, σ') → (o = if chAt T p = 120 then (0 : Int32) else 1) → fX4_understand_b37 (nI p) 1 (nI tn) σ = some (.inl (x, o, nI tn + 1, σ')) := by
      intro o x σ' hx ho
      unfold fX4_understand_b37 fX4_understand_j70
      rw [if_neg (show ¬ (60 : Int32) < nI tn from fun q => by have := (nI_ltI (a := 60) (by omega) (by omega)).mp q; omega), if_neg one_ne, if_pos h9, p_byteAt ht (by omega), ob_s, hx]
      by_cases hc : chAt T p = 120
      · rw [if_pos hc, ob_s, ho, if_pos hc]
      · rw [if_neg hc, ob_s, ho, if_neg hc]
    have hexit : ∀ x o t σ', (o = 0 ∨ ¬ σ'.1 1 9 = -1) → fX4_understand_b37 x o t σ' = some (.inr (x, σ')) := by
      intro x o t σ' h
      unfold fX4_understand_b37
      by_cases h60 : (60 : Int32) < t
      · rw [if_pos h60]
      · rw [if_neg h60]
        by_cases h0 : o = 0
        · rw [if_pos h0]
        · rw [if_neg h0]
          rcases h with h | h
          · exact absurd h h0
          · rw [if_neg h]
    have hp60 := p_passed ht hs hw (p := p) (by omega) h9
    unfold PassOK at hp60
    cases hps : pstep T p bs with
    | inl q =>
      rw [hps] at hp60
      obtain ⟨σ', e, k1, e9⟩ := hp60
      have hq := pstep_le hps
      refine ⟨(nI q, σ'), ?_, hk.trans k1, Or.inl ⟨q, ?_, Or.inl ⟨e9, by omega⟩⟩⟩
      · rw [lpc_step (hstep _ _ _ e rfl)]
        exact lpc_exit (hexit _ _ _ _ (Or.inr (by rw [e9]; exact nI_nm1 (by omega))))
      · show Sum.elim _ _ (pstep T p bs) = _
        rw [hps]; rfl
    | inr z =>
      obtain ⟨p', bs'⟩ := z
      rw [hps] at hp60
      obtain ⟨σ', e, k1, e9, hs'⟩ := hp60
      obtain ⟨hw', hpp, hpl⟩ := pstep_ok hw hps
      have hR : prs T (f + 1) p bs = if chAt T p = 120 then (if p' < T.length then .inl p' else .inr bs') else prs T f p' bs' := by
        show Sum.elim _ _ (pstep T p bs) = _
        rw [hps]; rfl
      by_cases hc : chAt T p = 120
      · rw [hR, if_pos hc]
        refine ⟨(nI p', σ'), ?_, hk.trans k1, ?_⟩
        · rw [lpc_step (hstep _ _ _ e rfl)]
          exact lpc_exit (hexit _ _ _ _ (Or.inl (by rw [if_pos hc])))
        · by_cases hl : p' < T.length
          · rw [if_pos hl]; exact Or.inl ⟨p', rfl, Or.inr ⟨e9, rfl, hl⟩⟩
          · rw [if_neg hl]; exact Or.inr ⟨bs', rfl, e9, by rw [show p' = T.length by omega], hs'⟩
      · rw [hR, if_neg hc]
        obtain ⟨x, e1, e2⟩ := ih p' (tn + 1) bs' σ' (by omega) hT (by omega) (by omega) hpl (k1.TX ht) hs' hw' e9 (hk.trans k1)
        refine ⟨x, ?_, e2⟩
        rw [lpc_step (hstep _ _ _ e rfl), if_neg hc, nI_1]
        exact e1
/-- the class's piece is what its text says -/
def PC (T : List Int32) (σ : St) : Prop := PS (bsOf T) σ ∧ σ.1 1 9 = flOf T
theorem p_understand {T : List Int32} {σ : St} (ht : TX T σ) : ∃ σ', fX4_understand σ = some σ' ∧ keepP σ σ' ∧ PC T σ' := by
  have hT := ht.1
  have hσ1 : keepP σ (sI (sI (sI (sI σ 1 6 0) 1 7 0) 1 8 0) 1 9 (-1)) := ⟨(((Fr_sI (by decide)).trans (Fr_sI (by decide))).trans (Fr_sI (by decide))).trans (Fr_sI (by decide)), fun j b1 b2 b3 b4 => by simp [g_sI, b1, b2, b3, b4], rfl⟩
  generalize hg : sI (sI (sI (sI σ 1 6 0) 1 7 0) 1 8 0) 1 9 (-1) = σ1 at hσ1
  have h6 : σ1.1 1 6 = 0 := by rw [← hg]; simp [g_sI]
  have h7 : σ1.1 1 7 = 0 := by rw [← hg]; simp [g_sI]
  have h8 : σ1.1 1 8 = 0 := by rw [← hg]; simp [g_sI]
  have h9 : σ1.1 1 9 = -1 := by rw [← hg]; simp [g_sI]
  have hps : PS [] σ1 := ⟨h6, h7, h8, PK_nil⟩
  have ht1 := hσ1.TX ht
  have zero : ∀ s : St, keepP s (sI (sI (sI s 1 6 0) 1 7 0) 1 8 0) ∧ PS [] (sI (sI (sI s 1 6 0) 1 7 0) 1 8 0) ∧ (sI (sI (sI s 1 6 0) 1 7 0) 1 8 0).1 1 9 = s.1 1 9 := fun s =>
    ⟨⟨((Fr_sI (by decide)).trans (Fr_sI (by decide))).trans (Fr_sI (by decide)), fun j b1 b2 b3 b4 => by simp [g_sI, b1, b2, b3], rfl⟩, ⟨by simp [g_sI]; rfl, by simp [g_sI]; rfl, by simp [g_sI]; rfl, PK_nil⟩, by simp [g_sI]⟩
  by_cases h0 : T.length = 0
  · have hb : bsOf T = [] := by unfold bsOf parse; rw [if_pos h0]; rfl
    have hfl : flOf T = -1 := by unfold flOf parse; rw [if_pos h0]; rfl
    refine ⟨σ1, ?_, hσ1, by rw [hb]; exact hps, by rw [hfl]; exact h9⟩
    unfold fX4_understand
    rw [ht.2.1, h0, if_pos (by decide), hg]
    unfold fX4_understand_j34
    have : lpc (fun s => fX4_understand_b37 s.1 s.2.1 s.2.2.1 s.2.2.2) (0, 0, 0, σ1) = some (0, σ1) := lpc_exit (by show fX4_understand_b37 0 0 0 σ1 = _; unfold fX4_understand_b37; rw [if_neg (by decide), if_pos rfl])
    rw [this, ob_s, if_pos h9, ht1.2.1, h0, if_pos (show nI 0 ≤ (0 : Int32) by decide)]
    unfold fX4_understand_j104
    rw [if_pos h9]
  · obtain ⟨x, e, hk, hend⟩ := p_readC (σ0 := σ) 61 0 0 [] σ1 rfl hT (by omega) (by omega) (by omega) ht1 hps ⟨by decide, by decide, by decide⟩ h9 hσ1
    have hR : parse T = prs T 61 0 [] := by unfold parse; rw [if_neg h0]
    have hf : fX4_understand σ = fX4_understand_j34 0 1 σ1 := by
      unfold fX4_understand
      rw [ht.2.1, if_neg (show ¬ nI T.length ≤ (0 : Int32) from fun q => by have := (nI_leI (b := 0) (by omega) (by omega)).mp q; omega), hg]
    rw [hf]
    unfold fX4_understand_j34
    rw [show lpc (fun s => fX4_understand_b37 s.1 s.2.1 s.2.2.1 s.2.2.2) (0, 1, 0, σ1) = some x from e, ob_s]
    unfold PC bsOf flOf
    rw [hR]
    have hx5 : x.2.1 1 5 = nI T.length := (hk.TX ht).2.1
    rcases hend with ⟨q, hq, h | ⟨h, h', h''⟩⟩ | ⟨bs, hq, h, h', h''⟩
    · rw [hq, if_neg (by rw [h.1]; exact nI_nm1 (by omega))]
      unfold fX4_understand_j104
      rw [if_neg (by rw [h.1]; exact nI_nm1 (by omega))]
      exact ⟨_, rfl, hk.trans (zero _).1, (zero _).2.1, (zero _).2.2.trans h.1⟩
    · rw [hq, if_pos h, hx5, h', if_neg (show ¬ nI T.length ≤ nI q from fun z => by have := (nI_leI (by omega) (by omega)).mp z; omega)]
      unfold fX4_understand_j104
      rw [keepP_f.2, if_neg (nI_nm1 (by omega))]
      exact ⟨_, rfl, (hk.trans keepP_f.1).trans (zero _).1, (zero _).2.1, (zero _).2.2.trans keepP_f.2⟩
    · rw [hq, if_pos h, hx5, h', if_pos (Int32.le_refl _)]
      unfold fX4_understand_j104
      rw [if_pos h]
      exact ⟨_, rfl, hk, h'', h⟩
