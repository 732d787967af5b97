/-! the class reads its text -/
theorem keepP_f {σ : St} {x : Int32} : keepP σ (sI σ 1 9 x) ∧ (sI σ 1 9 x).1 1 9 = x := by
  refine ⟨⟨Fr_sI (by decide), fun j a b c d => ?_, rfl⟩, by rw [g_sI]; simp⟩
  rw [g_sI, if_pos rfl, if_neg d]
theorem nI_2 (p : Nat) : nI p + 2 = nI (p + 2) := nI_add p 2
theorem nI_3 (p : Nat) : nI p + 3 = nI (p + 3) := nI_add p 3
/-- one bar more, no cue -/
theorem p_add1 {σ : St} {bs : List (Int32 × Int32)} {k : Int32} (hs : PS bs σ) (hw : WB bs) (hl : bs.length < 99) (hk : k ≠ 4) : ∃ σ', fX4_addBars 1 k σ = some (1, σ') ∧ keepP σ σ' ∧ σ'.1 1 9 = σ.1 1 9 ∧ σ'.1 1 6 = nI (bs.length + 1) ∧ σ'.1 1 7 = nI (nlo bs) ∧ σ'.1 1 8 = nI (ncu bs) ∧ PK (bs ++ [(k, -1)]) (σ'.1 3) (σ'.1 5) (σ'.1 4) (σ'.1 6) := by
  obtain ⟨h1, h2, h3, h4⟩ := hs
  obtain ⟨σ', e, k1, a1, a2, a3, a4, a5, a6, a7, a8⟩ := p_addBars (k := k) (n := 1) h1 (by omega)
  refine ⟨σ', e, k1, a4, a1, a2.trans h2, a3.trans h3, ?_⟩
  refine PK_snoc k (-1) h4 (fun j hj => ?_) (fun j hj => ?_) (fun j hj => ?_) (fun j hj => ?_) ?_ ?_ (fun q => absurd q hk) (fun _ => ?_)
  · rw [a6 j, if_neg (by omega)]
  · rw [a8 j, if_neg (by omega)]
  · rw [a7 j, if_neg (by omega)]
  · rw [a5]
  · rw [a6, if_pos (by omega)]
  · rw [a8, if_pos (by omega)]
  · rw [a7, if_pos (by omega)]
theorem p_passedLoose {σ : St} {bs : List (Int32 × Int32)} {p : Nat} {k : Int32} (hs : PS bs σ) (hw : WB bs) (hp : p ≤ 60) (h9 : σ.1 1 9 = -1) (hk : k < 3) :
    ((nlo bs = 10 ∨ bs.length = 99) → ∃ σ', fX4_passedLoose (nI p) k σ = some (nI p, σ') ∧ keepP σ σ' ∧ σ'.1 1 9 = nI p) ∧
    (¬ (nlo bs = 10 ∨ bs.length = 99) → ∃ σ', fX4_passedLoose (nI p) k σ = some (nI (p + 1), σ') ∧ keepP σ σ' ∧ σ'.1 1 9 = -1 ∧ PS (bs ++ [(k, -1)]) σ') := by
  have hk4 : k ≠ 4 := fun q => by subst q; exact absurd hk (by decide)
  obtain ⟨w1, w2, w3⟩ := id hw
  constructor
  · intro hc
    unfold fX4_passedLoose fX4_passedLoose_j18
    by_cases h10 : nlo bs = 10
    · rw [hs.2.1, h10, if_pos (by decide)]
      exact ⟨_, rfl, keepP_f.1, keepP_f.2⟩
    · rw [hs.2.1, if_neg (show ¬ (10 : Int32) ≤ nI (nlo bs) from fun q => by have := (nI_leI (a := 10) (by omega) (by omega)).mp q; omega), show fX4_addBars 1 k σ = some (0, σ) from p_addBars_no (n := 1) hs.1 (by omega) (by omega) (by omega)]
      exact ⟨_, rfl, keepP_f.1, keepP_f.2⟩
  · intro hc
    obtain ⟨σ', e, k1, a9, a1, a2, a3, a4⟩ := p_add1 hs hw (by omega) hk4
    unfold fX4_passedLoose
    rw [hs.2.1, if_neg (show ¬ (10 : Int32) ≤ nI (nlo bs) from fun q => by have := (nI_leI (a := 10) (by omega) (by omega)).mp q; omega), e, ob_s, if_neg one_ne]
    refine ⟨_, by rw [nI_1], ?_, ?_, ?_, ?_, ?_, ?_⟩
    · refine k1.trans ⟨Fr_sI (by decide), fun j a b c d => ?_, rfl⟩
      rw [g_sI, if_pos rfl, if_neg b]
    · rw [g_sI]; simp [a9, h9]
    · rw [g_sI]; simp [a1]
    · rw [g_sI, a2, nlo_app]
      have : nlo [(k, (-1 : Int32))] = 1 := by simp [nlo, hk]
      rw [this, nI_1]; simp
    · rw [g_sI, ncu_app]
      have : ncu [(k, (-1 : Int32))] = 0 := by simp [ncu, hk4]
      rw [this]; simp [a3]
    · exact a4
def PassOK (T : List Int32) (p : Nat) (bs : List (Int32 × Int32)) (σ : St) (r : Option (Int32 × St)) : Prop :=
  Sum.elim (fun q => ∃ σ', r = some (nI q, σ') ∧ keepP σ σ' ∧ σ'.1 1 9 = nI q) (fun z => ∃ σ', r = some (nI z.1, σ') ∧ keepP σ σ' ∧ σ'.1 1 9 = -1 ∧ PS z.2 σ') (pstep T p bs)
theorem PassOK.bad {T : List Int32} {p q : Nat} {bs : List (Int32 × Int32)} {σ σ' : St} {r : Option (Int32 × St)} (h : pstep T p bs = .inl q) (hr : r = some (nI q, sI σ' 1 9 (nI q))) (hk : keepP σ σ') : PassOK T p bs σ r := by
  unfold PassOK
  rw [h]
  exact ⟨_, hr, hk.trans keepP_f.1, keepP_f.2⟩
theorem PassOK.ok {T : List Int32} {p p' : Nat} {bs bs' : List (Int32 × Int32)} {σ σ' : St} {r : Option (Int32 × St)} (h : pstep T p bs = .inr (p', bs')) (hr : r = some (nI p', σ')) (hk : keepP σ σ') (h9 : σ'.1 1 9 = -1) (hs : PS bs' σ') : PassOK T p bs σ r := by
  unfold PassOK
  rw [h]
  exact ⟨_, hr, hk, h9, hs⟩
theorem p_passedPlain {T : List Int32} {σ : St} {bs : List (Int32 × Int32)} {p : Nat} (ht : TX T σ) (hs : PS bs σ) (hw : WB bs) (hp : p ≤ 60) (h9 : σ.1 1 9 = -1) (hc : chAt T p = 112) : PassOK T p bs σ (fX4_passedPlain (nI p) σ) := by
  obtain ⟨w1, w2, w3⟩ := id hw
  have hp0 := p_byteAt ht (p := p + 1) (by omega)
  have hp2 := p_byteAt ht (p := p + 2) (by omega)
  cases hd : dig (chAt T (p + 1)) with
  | none =>
    refine PassOK.bad (q := p + 1) (σ' := σ) (by unfold pstep; rw [if_pos hc, hd]) ?_ keepP.rf
    unfold fX4_passedPlain
    rw [nI_1, hp0, ob_s]
    simp only [ltb]
    rw [p_within, ob_s, if_neg (dig_none hd), if_pos rfl]
    rfl
  | some t =>
    obtain ⟨t1, t2, -⟩ := dig_some hd
    cases hu : dig (chAt T (p + 2)) with
    | none =>
      refine PassOK.bad (q := p + 2) (σ' := σ) (by unfold pstep; rw [if_pos hc, hd]; simp only [hu]) ?_ keepP.rf
      unfold fX4_passedPlain
      rw [nI_1, hp0, ob_s]
      simp only [ltb]
      rw [p_within, ob_s, if_pos (dig_in hd), if_neg one_ne, nI_2, hp2, ob_s, p_within, ob_s, if_neg (dig_none hu), if_pos rfl]
      unfold fX4_passedPlain_j70
      rw [nI_2]
      rfl
    | some u =>
      obtain ⟨u1, u2, -⟩ := dig_some hu
      have e10 : (10 : Int32) * nI t + nI u = nI (10 * t + u) := by rw [show (10 : Int32) = nI 10 from rfl, pk_mul, nI_add]
      have hf : fX4_passedPlain (nI p) σ = if nI (t + u) = 0 then fX4_passedPlain_j70 (nI p) σ else (fX4_addBars (nI (10 * t + u)) 3 σ).bind fun q10 => if q10.1 = 0 then fX4_passedPlain_j70 (nI p) q10.2 else some (nI p + 3, q10.2) := by
        unfold fX4_passedPlain
        rw [nI_1, hp0, ob_s]
        simp only [ltb]
        rw [p_within, ob_s, if_pos (dig_in hd), if_neg one_ne, nI_2, hp2, ob_s, p_within, ob_s, if_pos (dig_in hu), if_neg one_ne, t1, u1, nI_add, e10]
      rw [hf]
      by_cases h0 : t + u = 0
      · refine PassOK.bad (q := p + 2) (σ' := σ) (by unfold pstep; rw [if_pos hc, hd]; simp only [hu]; rw [if_pos (Or.inl (by omega))]) ?_ keepP.rf
        rw [if_pos (show nI (t + u) = 0 by rw [h0]; rfl)]
        unfold fX4_passedPlain_j70
        rw [nI_2]
        rfl
      · rw [if_neg (show ¬ nI (t + u) = 0 from fun q => h0 (nI_inj (b := 0) (by omega) (by omega) q))]
        by_cases ho : 99 < bs.length + (10 * t + u)
        · refine PassOK.bad (q := p + 2) (σ' := σ) (by unfold pstep; rw [if_pos hc, hd]; simp only [hu]; rw [if_pos (Or.inr ho)]) ?_ keepP.rf
          rw [p_addBars_no hs.1 (by omega) (by omega) ho, ob_s, if_pos rfl]
          unfold fX4_passedPlain_j70
          rw [nI_2]
          rfl
        · obtain ⟨σ', e, k1, a1, a2, a3, a4, a5, a6, a7, a8⟩ := p_addBars (k := 3) (n := 10 * t + u) hs.1 (by omega)
          refine PassOK.ok (p' := p + 3) (bs' := bs ++ rep3 (10 * t + u)) (σ' := σ') (by unfold pstep; rw [if_pos hc, hd]; simp only [hu]; rw [if_neg (by omega)]) ?_ k1 (a4.trans h9) ⟨?_, ?_, ?_, ?_⟩
          · rw [e, ob_s, if_neg one_ne, nI_3]
          · rw [a1, List.length_append, len_rep]
          · rw [a2, hs.2.1, nlo_app, nlo_rep]; rfl
          · rw [a3, hs.2.2.1, ncu_app, ncu_rep]; rfl
          · refine PK_rep _ hs.2.2.2 (fun j hj => ?_) (fun j hj => ?_) (fun j hj => ?_) (fun j hj => by rw [a5]) (fun j h1 h2 => ?_)
            · rw [a6, if_neg (by omega)]
            · rw [a8, if_neg (by omega)]
            · rw [a7, if_neg (by omega)]
            · rw [a6, a7, a8, if_pos (by omega), if_pos (by omega), if_pos (by omega)]
              exact ⟨rfl, rfl, rfl⟩
theorem p_passedCue {T : List Int32} {σ : St} {bs : List (Int32 × Int32)} {p : Nat} (ht : TX T σ) (hs : PS bs σ) (hw : WB bs) (hp : p ≤ 60) (h9 : σ.1 1 9 = -1) (hc : chAt T p = 99) : PassOK T p bs σ (fX4_passedCue (nI p) σ) := by
  obtain ⟨w1, w2, w3⟩ := id hw
  have hps : pstep T p bs = if ncu bs = 6 ∨ bs.length = 99 then .inl p else if 0 ≤ chAt T (p + 1) - 97 ∧ chAt T (p + 1) - 97 ≤ 3 then .inr (p + 2, bs ++ [(4, chAt T (p + 1) - 97)]) else .inl (p + 1) := by
    unfold pstep
    rw [if_neg (by rw [hc]; decide), if_neg (by rw [hc]; decide), if_neg (by rw [hc]; decide), if_neg (by rw [hc]; decide), if_pos hc]
  by_cases h6 : ncu bs = 6
  · refine PassOK.bad (q := p) (σ' := σ) (by rw [hps, if_pos (Or.inl h6)]) ?_ keepP.rf
    unfold fX4_passedCue
    simp only [ltb]
    rw [hs.2.2.1, if_neg (nI_pos (by omega)), h6, if_pos (by decide)]
    rfl
  · by_cases h99 : bs.length = 99
    · refine PassOK.bad (q := p) (σ' := σ) (by rw [hps, if_pos (Or.inr h99)]) ?_ keepP.rf
      unfold fX4_passedCue
      simp only [ltb]
      rw [hs.2.2.1, if_neg (nI_pos (by omega)), if_neg (show ¬ (6 : Int32) ≤ nI (ncu bs) from fun q => by have := (nI_leI (a := 6) (by omega) (by omega)).mp q; omega), show fX4_addBars 1 4 σ = some (0, σ) from p_addBars_no (n := 1) hs.1 (by omega) (by omega) (by omega), ob_s, if_pos rfl]
      rfl
    · obtain ⟨σ', e, k1, a1, a2, a3, a4, a5, a6, a7, a8⟩ := p_addBars (k := 4) (n := 1) hs.1 (by omega)
      have hf : fX4_passedCue (nI p) σ = if (if 0 ≤ chAt T (p + 1) - 97 ∧ chAt T (p + 1) - 97 ≤ 3 then (1 : Int32) else 0) = 0 then fX4_passedCue_j66 (nI p) σ' else some (nI (p + 2), sI (sI (sI (sI σ' 4 bs.length (nI (ncu bs))) 5 bs.length (chAt T (p + 1) - 97)) 6 (ncu bs) (nI bs.length)) 1 8 (nI (ncu bs) + 1)) := by
        unfold fX4_passedCue
        simp only [ltb]
        rw [hs.2.2.1, if_neg (nI_pos (by omega)), if_neg (show ¬ (6 : Int32) ≤ nI (ncu bs) from fun q => by have := (nI_leI (a := 6) (by omega) (by omega)).mp q; omega), show fX4_addBars 1 4 σ = some (1, σ') from e, ob_s, if_neg one_ne, nI_1, p_byteAt (k1.TX ht) (by omega), ob_s, p_within, ob_s, hs.1, p_within, ob_s, if_pos (show (0 : Int32) ≤ nI bs.length ∧ nI bs.length ≤ 98 from ⟨nI_pos' (by omega), (nI_leI (b := 98) (by omega) (by omega)).mpr (by omega)⟩)]
        dsimp only
        rw [if_neg one_ne, inb_nI (by omega) (by omega), a3, hs.2.2.1, inb_nI (by omega) (by omega), nI_clamp (by omega), nI_clamp (by omega), nI_2]
        simp
      rw [hf]
      by_cases htn : 0 ≤ chAt T (p + 1) - 97 ∧ chAt T (p + 1) - 97 ≤ 3
      · refine PassOK.ok (p' := p + 2) (by rw [hps, if_neg (by omega), if_pos htn]) (by rw [if_pos htn, if_neg one_ne]) ?_ ?_ ⟨?_, ?_, ?_, ?_⟩
        · refine k1.trans ⟨(((Fr_sI (by decide)).trans (Fr_sI (by decide))).trans (Fr_sI (by decide))).trans (Fr_sI (by decide)), fun j b1 b2 b3 b4 => ?_, rfl⟩
          simp [g_sI, b3]
        · simp [g_sI, a4, h9]
        · simp [g_sI, a1]
        · rw [nlo_app]
          have : nlo [((4 : Int32), chAt T (p + 1) - 97)] = 0 := by simp [nlo]
          rw [this]
          simp [g_sI, a2, hs.2.1]
        · rw [ncu_app]
          have : ncu [((4 : Int32), chAt T (p + 1) - 97)] = 1 := by simp [ncu]
          rw [this, ← nI_1]
          simp [g_sI]
        · refine PK_snoc 4 _ hs.2.2.2 (fun j hj => ?_) (fun j hj => ?_) (fun j hj => ?_) (fun j hj => ?_) ?_ ?_ (fun _ => ⟨?_, ?_⟩) (fun q => absurd rfl q)
          · have : ¬ (bs.length ≤ j ∧ j < bs.length + 1) := by omega
            simp [g_sI, a6, this]
          · have : ¬ (bs.length ≤ j ∧ j < bs.length + 1) := by omega
            have h2 : ¬ j = bs.length := by omega
            simp [g_sI, a8, this, h2]
          · have : ¬ (bs.length ≤ j ∧ j < bs.length + 1) := by omega
            have h2 : ¬ j = bs.length := by omega
            simp [g_sI, a7, this, h2]
          · have h2 : ¬ j = ncu bs := by omega
            simp [g_sI, a5, h2]
          · simp [g_sI, a6]
          · simp [g_sI]
          · simp [g_sI]
          · simp [g_sI]
      · refine PassOK.bad (q := p + 1) (σ' := σ') (by rw [hps, if_neg (by omega), if_neg htn]) ?_ k1
        rw [if_neg htn, if_pos rfl]
        unfold fX4_passedCue_j66
        rw [nI_1]
        rfl
