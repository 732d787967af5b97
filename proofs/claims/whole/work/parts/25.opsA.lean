/-! the calls one by one: what both answer, and what is left -/
theorem sI_o {σ : St} {r j c : Nat} {v : Int32} (h : c ≠ r) : (sI σ r j v).1 c = σ.1 c := if_neg h
theorem IC.text {A : AbS} {σ σ' : St} {T' : List Int32} (h : IC A σ) (h0 : σ'.1 0 11 = 1) (h12 : σ'.1 0 12 = σ.1 0 12) (hf : ∀ c, 7 ≤ c → σ'.1 c = σ.1 c) (ht : TX T' σ') (hp : PC T' σ') : IC ((T', A.1.2), A.2) σ' := by
  obtain ⟨-, -, a3, a4, a5, a6, a7, a8, a9, a10, -⟩ := h
  refine ⟨ht, hp, ?_, ?_, ?_, ?_, ?_, ?_, a9.fr (fun c h1 _ => hf c (by omega)), h12.trans a10, Or.inl h0⟩
  · rw [hf 10 (by decide), hf 11 (by decide)]; exact a3
  · rw [hf 8 (by decide)]; exact a4
  · rw [hf 15 (by decide), hf 16 (by decide), hf 17 (by decide), hf 18 (by decide)]; exact a5
  · rw [hf 32 (by decide), hf 33 (by decide)]; exact a6
  · rw [hf 32 (by decide)]; exact a7
  · rw [hf 27 (by decide), hf 28 (by decide), hf 29 (by decide), hf 30 (by decide)]; exact a8
theorem TX.snoc {T : List Int32} {σ : St} {b : Int32} (h : TX T σ) (hl : T.length < 60) : TX (T ++ [b]) (sI (sI σ 2 T.length b) 1 5 (nI T.length + 1)) := by
  obtain ⟨h1, h2, h3⟩ := h
  have hle : (T ++ [b]).length = T.length + 1 := by simp
  refine ⟨by omega, by rw [hle, ← nI_1]; simp [g_sI], fun i hi => ?_⟩
  rw [hle] at hi
  rw [g_sI, if_neg (by decide), g_sI, if_pos rfl, List.getD_eq_getElem?_getD]
  by_cases hj : i = T.length
  · subst hj; rw [if_pos rfl]; simp
  · rw [if_neg hj, h3 i (by omega), List.getD_eq_getElem?_getD, List.getElem?_append_left (by omega)]
theorem TXm.snoc {T : List Int32} {σ : St} {b : Int32} (h : TXm T σ) (hl : T.length < 60) : TXm (T ++ [b]) (sI (sI σ 45 T.length b) 44 1 (nI T.length + 1)) := by
  obtain ⟨h1, h2, h3⟩ := h
  have hle : (T ++ [b]).length = T.length + 1 := by simp
  refine ⟨by omega, by rw [hle, ← nI_1]; simp [g_sI], fun i hi => ?_⟩
  rw [hle] at hi
  rw [g_sI, if_neg (by decide), g_sI, if_pos rfl, List.getD_eq_getElem?_getD]
  by_cases hj : i = T.length
  · subst hj; rw [if_pos rfl]; simp
  · rw [if_neg hj, h3 i (by omega), List.getD_eq_getElem?_getD, List.getElem?_append_left (by omega)]
theorem TX.cut {T : List Int32} {σ : St} {k : Nat} (h : TX T σ) (hk : k ≤ T.length) : TX (T.take k) (sI σ 1 5 (nI k)) := by
  obtain ⟨h1, h2, h3⟩ := h
  have hle : (T.take k).length = k := by rw [List.length_take]; omega
  refine ⟨by omega, by rw [hle]; simp [g_sI], fun i hi => ?_⟩
  rw [hle] at hi
  rw [g_sI, if_neg (by decide), h3 i (by omega), List.getD_eq_getElem?_getD, List.getD_eq_getElem?_getD, List.getElem?_take_of_lt hi]
theorem TXm.cut {T : List Int32} {σ : St} {k : Nat} (h : TXm T σ) (hk : k ≤ T.length) : TXm (T.take k) (sI σ 44 1 (nI k)) := by
  obtain ⟨h1, h2, h3⟩ := h
  have hle : (T.take k).length = k := by rw [List.length_take]; omega
  refine ⟨by omega, by rw [hle]; simp [g_sI], fun i hi => ?_⟩
  rw [hle] at hi
  rw [g_sI, if_neg (by decide), h3 i (by omega), List.getD_eq_getElem?_getD, List.getD_eq_getElem?_getD, List.getElem?_take_of_lt hi]
/-- the component's new text is understood -/
theorem c_newtext {A : AbS} {σ σ1 : St} {T' : List Int32} (h : IC A σ) (hf : ∀ c, c ≠ 1 → c ≠ 2 → σ1.1 c = σ.1 c) (h2 : σ1.2 = σ.2) (ht : TX T' σ1) : ∃ σ2, fX4_understand σ1 = some σ2 ∧ σ2.1 1 5 = nI T'.length ∧ IC ((T', A.1.2), A.2) (sI σ2 0 11 1) ∧ CM σ (sI σ2 0 11 1) := by
  obtain ⟨σ2, e, k, p⟩ := p_understand ht
  have k5 : σ2.1 1 5 = σ1.1 1 5 := k.2.1 5 (by decide) (by decide) (by decide) (by decide)
  refine ⟨σ2, e, k5.trans ht.2.1, h.text (by simp [g_sI]) ?_ (fun c hc => ?_) ⟨ht.1, ?_, ?_⟩ ⟨p.1, p.2⟩, ?_, ?_⟩
  · show σ2.1 0 12 = _
    rw [k.1.1 0 (by decide), hf 0 (by decide) (by decide)]
  · rw [sI_o (by omega), k.1.1 c (fun q => by simp at q; omega), hf c (by omega) (by omega)]
  · exact k5.trans ht.2.1
  · intro i hi
    show σ2.1 2 i = _
    rw [k.1.1 2 (by decide)]
    exact ht.2.2 i hi
  · intro c hc
    rw [sI_o (by omega), k.1.1 c (fun q => by simp at q; omega), hf c (by omega) (by omega)]
  · intro c hc
    show σ2.2 c = _
    rw [k.2.2, h2]
theorem IM.text {A : AbS} {σ σ' : St} {T' : List Int32} (h : IM A σ) (hs : ∀ j, j ≠ 1 → σ'.1 44 j = σ.1 44 j) (hf : ∀ c, c ≠ 44 → c ≠ 45 → σ'.1 c = σ.1 c) (ht : TXm T' σ') : IM ((T', A.1.2), A.2) σ' := by
  obtain ⟨-, a3, a4, a5, a6, a7, a8, a9, a10⟩ := h
  refine ⟨ht, ?_, ?_, ?_, ?_, ?_, ?_, ?_, ?_⟩
  · rw [hf 50 (by decide) (by decide), hf 51 (by decide) (by decide)]; exact a3
  · rw [hf 52 (by decide) (by decide)]; exact a4
  · rw [hs 15 (by decide), hf 54 (by decide) (by decide), hf 55 (by decide) (by decide), hf 56 (by decide) (by decide)]; exact a5
  · rw [hs 12 (by decide), hf 53 (by decide) (by decide)]; exact a6
  · rw [hs 14 (by decide)]; exact a7
  · rw [hs 26 (by decide), hf 62 (by decide) (by decide), hf 63 (by decide) (by decide)]; exact a8
  · unfold SHm; rw [hf 65 (by decide) (by decide), hf 66 (by decide) (by decide), hf 67 (by decide) (by decide), hf 68 (by decide) (by decide)]; exact a9
  · rw [hs 35 (by decide)]; exact a10
/-! type -/
def vType (b : Int32) (A : AbS) : Int32 := if 0 ≤ b ∧ b ≤ 255 then (if (aT A).length = 60 then -4 else nI (aT A).length + 1) else -2
def uType (b : Int32) (A : AbS) : AbS := if (0 ≤ b ∧ b ≤ 255) ∧ (aT A).length ≠ 60 then ((aT A ++ [b], A.1.2), A.2) else A
theorem OKA.text {A : AbS} {T' : List Int32} (h : OKA A) (hT : T'.length ≤ 60) : OKA ((T', A.1.2), A.2) := ⟨hT, h.2⟩
theorem ok_type (b : Int32) (A : AbS) (h : OKA A) : OKA (uType b A) := by
  unfold uType
  split
  · exact h.text (by have := h.1; simp; omega)
  · exact h
theorem c_type (b : Int32) (A : AbS) (σ : St) (hA : OKA A) (h : IC A σ) : ∃ σ', fX10_type b σ = some (vType b A, σ') ∧ IC (uType b A) σ' ∧ CM σ σ' := by
  have hT := hA.1
  unfold fX10_type vType uType
  rw [p_within, ob_s]
  by_cases hb : 0 ≤ b ∧ b ≤ 255
  · rw [if_pos hb, if_neg one_ne, if_pos hb]
    unfold fX4_append
    rw [h.1.2.1, if_neg (nI_pos (by omega))]
    by_cases hl : (aT A).length = 60
    · rw [if_neg (show ¬ nI (aT A).length < (60 : Int32) from by rw [hl]; decide), if_pos hl, if_neg (fun q => q.2 hl)]
      exact ⟨σ, rfl, h, CM.rf⟩
    · rw [if_pos (show nI (aT A).length < (60 : Int32) from nI_lt (b := 60) (by omega) (by omega)), inb_nI (by omega) (by omega), if_pos rfl, if_neg hl, if_pos ⟨hb, hl⟩, nI_clamp (by omega)]
      obtain ⟨σ2, e, k5, i, k⟩ := c_newtext h (σ1 := sI (sI σ 2 (aT A).length b) 1 5 (nI (aT A).length + 1)) (fun c h1 h2 => by rw [sI_o h1, sI_o h2]) rfl (h.1.snoc (by omega))
      rw [e, ob_s, ob_s]
      refine ⟨_, ?_, i, k⟩
      show some (σ2.1 1 5, _) = _
      rw [k5, List.length_append, nI_1]
      rfl
  · rw [if_neg hb, if_pos rfl, if_neg hb, if_neg (fun q => hb q.1)]
    exact ⟨σ, rfl, h, CM.rf⟩
theorem m_type (b : Int32) (A : AbS) (σ : St) (hA : OKA A) (h : IM A σ) : ∃ σ', fX11_type b σ = some (vType b A, σ') ∧ IM (uType b A) σ' ∧ MC σ σ' := by
  have hT := hA.1
  unfold fX11_type vType uType
  rw [p_in, ob_s]
  by_cases hb : 0 ≤ b ∧ b ≤ 255
  · rw [if_pos hb, if_neg one_ne, if_pos hb, h.1.2.1]
    by_cases hl : (aT A).length = 60
    · rw [if_pos (show nI (aT A).length = (60 : Int32) from by rw [hl]; rfl), if_pos hl, if_neg (fun q => q.2 hl)]
      exact ⟨σ, rfl, h, MC.rf⟩
    · rw [if_neg (show ¬ nI (aT A).length = (60 : Int32) from fun q => hl (nI_inj (b := 60) (by omega) (by omega) q)), inb_nI (by omega) (by omega), if_pos rfl, if_neg hl, if_pos ⟨hb, hl⟩, nI_clamp (by omega)]
      exact ⟨_, rfl, h.text (fun j hj => by simp [g_sI, hj]) (fun c h1 h2 => by rw [sI_o h1, sI_o h2]) (h.1.snoc (by omega)), (MC_sI (by decide)).trans (MC_sI (by decide))⟩
  · rw [if_neg hb, if_pos rfl, if_neg hb, if_neg (fun q => hb q.1)]
    exact ⟨σ, rfl, h, MC.rf⟩
theorem l_type : ls_type Inv := fun σ a1 h => ls_mk (vType a1) (uType a1) (ok_type a1) (c_type a1) (m_type a1) σ h
/-! wipe, undo -/
theorem p_shorten {A : AbS} {σ : St} {k : Nat} (hT : (aT A).length ≤ 60) (h : IC A σ) (hk : k ≤ (aT A).length) : ∃ σ2, fX4_shorten (nI k) σ = some σ2 ∧ σ2.1 1 5 = nI ((aT A).length - k) ∧ IC (((aT A).take ((aT A).length - k), A.1.2), A.2) (sI σ2 0 11 1) ∧ CM σ (sI σ2 0 11 1) := by
  unfold fX4_shorten
  rw [h.1.2.1, pk_sub hk, p_max, ob_s]
  have hm : (if (0 : Int32) < nI ((aT A).length - k) then nI ((aT A).length - k) else 0) = nI ((aT A).length - k) := by
    by_cases h0 : (0 : Int32) < nI ((aT A).length - k)
    · rw [if_pos h0]
    · rw [if_neg h0]
      by_cases h1 : (aT A).length - k = 0
      · rw [h1]; rfl
      · exact absurd (nI_lt (a := 0) (by omega) (by omega)) h0
  rw [hm]
  obtain ⟨σ2, e, k5, i, kk⟩ := c_newtext h (σ1 := sI σ 1 5 (nI ((aT A).length - k))) (fun c h1 _ => by rw [sI_o h1]) rfl (h.1.cut (by omega))
  refine ⟨σ2, by rw [e, ob_s], by rw [k5, List.length_take]; congr 1; omega, i, kk⟩
theorem ok_cut {A : AbS} (k : Nat) (h : OKA A) : OKA (((aT A).take k, A.1.2), A.2) := h.text (by have := h.1; rw [List.length_take]; omega)
theorem l_wipe : ls_wipe Inv := fun σ h => ls_mk (fun A => nI (aT A).length) (fun A => (((aT A).take ((aT A).length - (aT A).length), A.1.2), A.2)) (fun A h => ok_cut _ h) (fun A σ hA h => by
    obtain ⟨σ2, e, -, i, k⟩ := p_shorten hA.1 h (Nat.le_refl _)
    refine ⟨_, ?_, i, k⟩
    unfold fX10_wipe
    rw [h.1.2.1]
    show (fX4_shorten (nI (aT A).length) σ).bind _ = _
    rw [e, ob_s]) (fun A σ hA h => by
    refine ⟨_, ?_, h.text (σ' := sI σ 44 1 (nI ((aT A).length - (aT A).length))) (fun j hj => by simp [g_sI, hj]) (fun c h1 _ => by rw [sI_o h1]) (h.1.cut (by omega)), MC_sI (by decide)⟩
    unfold fX11_wipe
    rw [h.1.2.1, Nat.sub_self]
    rfl) σ h
theorem l_undo : ls_undo Inv := fun σ h => ls_mk (fun A => if (aT A).length = 0 then -3 else nI ((aT A).length - 1)) (fun A => if (aT A).length = 0 then A else (((aT A).take ((aT A).length - 1), A.1.2), A.2)) (fun A h => by split; exact h; exact ok_cut _ h) (fun A σ hA h => by
    have hT := hA.1
    unfold fX10_undo
    rw [h.1.2.1]
    by_cases h0 : (aT A).length = 0
    · rw [if_pos h0, if_pos h0, if_pos (show nI (aT A).length = (0 : Int32) from by rw [h0]; rfl)]
      exact ⟨σ, rfl, h, CM.rf⟩
    · obtain ⟨σ2, e, k5, i, k⟩ := p_shorten (k := 1) hA.1 h (by omega)
      rw [if_neg h0, if_neg h0, if_neg (show ¬ nI (aT A).length = (0 : Int32) from nI_ne0 (by omega) (by omega))]
      refine ⟨_, ?_, i, k⟩
      rw [show (1 : Int32) = nI 1 from rfl, e, ob_s, k5]) (fun A σ hA h => by
    have hT := hA.1
    unfold fX11_undo
    rw [h.1.2.1]
    by_cases h0 : (aT A).length = 0
    · rw [if_pos h0, if_pos h0, if_pos (show nI (aT A).length = (0 : Int32) from by rw [h0]; rfl)]
      exact ⟨σ, rfl, h, MC.rf⟩
    · rw [if_neg h0, if_neg h0, if_neg (show ¬ nI (aT A).length = (0 : Int32) from nI_ne0 (by omega) (by omega)), show (1 : Int32) = nI 1 from rfl, pk_sub (by omega)]
      exact ⟨_, rfl, h.text (fun j hj => by simp [g_sI, hj]) (fun c h1 _ => by rw [sI_o h1]) (h.1.cut (by omega)), MC_sI (by decide)⟩) σ h
/-! fault -/
theorem m_faultNow {A : AbS} {σ : St} (h : IM A σ) : ∃ σ', fX11_faultNow σ = some (flOf (aT A), σ') ∧ MS σ σ' ∧ PSm (aB A) σ' := by
  obtain ⟨σ', e, k, p⟩ := p_faultNow h.1
  exact ⟨σ', e, k.MS, p⟩
theorem m_reads {A : AbS} {σ : St} (h : IM A σ) : ∃ σ', fX11_reads σ = some σ' ∧ MS σ σ' ∧ PSm (aB A) σ' := by
  obtain ⟨σ', e, k, p⟩ := m_faultNow h
  exact ⟨σ', by unfold fX11_reads; rw [e, ob_s], k, p⟩
theorem l_fault : ls_fault Inv := fun σ h => ls_mk1 (fun A => flOf (aT A)) (fun A σ hA h => by unfold fX10_fault; rw [h.2.1.2]) (fun A σ hA h => by
    obtain ⟨σ', e, k, -⟩ := m_faultNow h
    exact ⟨σ', by unfold fX11_fault; rw [e, ob_s], k⟩) σ h
/-! a place among n -/
def ix (n : Nat) (x : Int32) : Option Nat := if 0 ≤ x ∧ x.toNatClampNeg < n then some x.toNatClampNeg else none
theorem ix_nI {n j : Nat} (h : j < n) (hn : n < 2 ^ 31) : ix n (nI j) = some j := by
  unfold ix
  rw [nI_clamp (by omega), if_pos ⟨nI_pos' (by omega), h⟩]
theorem ix_neg {n : Nat} {x : Int32} (h : x < 0) : ix n x = none := if_neg (fun q => absurd h (Int32.not_lt.mpr q.1))
theorem ix_ge {n : Nat} {x : Int32} (h : nI n ≤ x) (hn : n < 2 ^ 31) : ix n x = none := by
  refine if_neg fun q => ?_
  obtain ⟨j, hj, rfl⟩ := nI_of (Int32.not_lt.mpr q.1)
  rw [nI_clamp hj] at q
  have := (nI_leI hn hj).mp h
  omega
theorem ix_some {n j : Nat} {x : Int32} (h : ix n x = some j) (hn : n < 2 ^ 31) : j < n ∧ x = nI j := by
  rcases pk_ix x hn with q | q | ⟨i, hi, rfl⟩
  · rw [ix_neg q] at h; cases h
  · rw [ix_ge q hn] at h; cases h
  · rw [ix_nI hi hn] at h; cases h; exact ⟨hi, rfl⟩
/-- within 0 .. n - 1 -/
theorem ix_in {n : Nat} {x : Int32} (hn : n < 2 ^ 30) : (0 ≤ x ∧ x ≤ nI n - 1) ↔ ix n x ≠ none := by
  rcases pk_ix x (show n < 2 ^ 31 by omega) with q | q | ⟨i, hi, rfl⟩
  · rw [ix_neg q]; exact ⟨fun z => absurd q (Int32.not_lt.mpr z.1), fun z => absurd rfl z⟩
  · rw [ix_ge q (by omega)]
    refine ⟨fun z => ?_, fun z => absurd rfl z⟩
    exfalso
    have z2 := z.2
    rw [Int32.le_iff_toInt_le] at z2 q
    rw [nI_toInt (by omega)] at q
    rw [show (1 : Int32) = nI 1 from rfl, pk_sub_toInt (by omega) (by omega)] at z2
    omega
  · rw [ix_nI hi (by omega)]
    refine ⟨fun _ z => (by cases z), fun _ => ⟨nI_pos' (by omega), ?_⟩⟩
    obtain ⟨m, rfl⟩ : ∃ m, n = m + 1 := ⟨n - 1, by omega⟩
    rw [nI_pred]
    exact nI_le (by omega) (by omega)
/-! the component's piece -/
theorem bs_at {bs : List (Int32 × Int32)} {b : Nat} (h : b < bs.length) : bs[b]? = some (kdB bs b, tuB bs b) := by
  unfold kdB tuB
  rw [List.getD_eq_getElem?_getD, List.getElem?_eq_getElem h]
  rfl
def cuB (bs : List (Int32 × Int32)) (b : Nat) : Int32 := if kdB bs b = 4 then nI (ncu (bs.take b)) else -1
theorem PK.at {bs : List (Int32 × Int32)} {K Tu Cq Cb : Nat → Int32} (h : PK bs K Tu Cq Cb) {b : Nat} (hb : b < bs.length) : K b = kdB bs b ∧ Tu b = tuB bs b ∧ Cq b = cuB bs b := by
  obtain ⟨h1, h2, h3, h4⟩ := h b _ (bs_at hb)
  refine ⟨h1, h2, ?_⟩
  unfold cuB
  by_cases h9 : kdB bs b = 4
  · rw [if_pos h9]; exact (h3 h9).1
  · rw [if_neg h9]; exact h4 h9
theorem p_hasBar0 {bs : List (Int32 × Int32)} {σ : St} {x : Int32} (hs : PS bs σ) (h : x < 0 ∨ nI bs.length ≤ x) : fX4_hasBar x σ = some 0 := by
  unfold fX4_hasBar
  rw [hs.1]
  rcases h with h | h
  · rw [if_pos h]
  · by_cases h0 : x < 0
    · rw [if_pos h0]
    · rw [if_neg h0, if_pos h]
theorem p_hasBar1 {bs : List (Int32 × Int32)} {σ : St} {b : Nat} (hs : PS bs σ) (hl : bs.length ≤ 99) (h : b < bs.length) : fX4_hasBar (nI b) σ = some 1 := by
  unfold fX4_hasBar
  rw [hs.1, if_neg (nI_pos (by omega)), if_neg (nI_ge h (by omega))]
theorem p_item3 {σ : St} {b : Nat} (h : b < 99) : fX10_itemAt 3 (nI b) σ = some (σ.1 3 b) := by
  rw [p_itemAt (n := 99) rfl (by omega) b (by omega), if_pos h, rv_w (by decide) (by decide)]
theorem p_item4 {σ : St} {b : Nat} (h : b < 99) : fX10_itemAt 4 (nI b) σ = some (σ.1 4 b) := by
  rw [p_itemAt (n := 99) rfl (by omega) b (by omega), if_pos h, rv_w (by decide) (by decide)]
theorem p_item5 {σ : St} {b : Nat} (h : b < 99) : fX10_itemAt 5 (nI b) σ = some (σ.1 5 b) := by
  rw [p_itemAt (n := 99) rfl (by omega) b (by omega), if_pos h, rv_w (by decide) (by decide)]
theorem p_kindOf {bs : List (Int32 × Int32)} {σ : St} {b : Nat} (hs : PS bs σ) (hl : bs.length ≤ 99) (h : b < bs.length) : fX4_kindOf (nI b) σ = some (kdB bs b) := by
  unfold fX4_kindOf
  rw [p_item3 (by omega), ob_s, (hs.2.2.2.at h).1]
theorem p_tuneOf {bs : List (Int32 × Int32)} {σ : St} {b : Nat} (hs : PS bs σ) (hl : bs.length ≤ 99) (h : b < bs.length) : fX4_tuneOf (nI b) σ = some (tuB bs b) := by
  unfold fX4_tuneOf
  rw [p_hasBar1 hs hl h, ob_s, if_neg one_ne, p_item5 (by omega), ob_s, (hs.2.2.2.at h).2.1]
theorem p_cueIn {bs : List (Int32 × Int32)} {σ : St} {b : Nat} (hs : PS bs σ) (hl : bs.length ≤ 99) (h : b < bs.length) : fX4_cueIn (nI b) σ = some (cuB bs b) := by
  unfold fX4_cueIn
  rw [p_hasBar1 hs hl h, ob_s, if_neg one_ne, p_item4 (by omega), ob_s, (hs.2.2.2.at h).2.2]
theorem p_isLoose0 {bs : List (Int32 × Int32)} {σ : St} {x : Int32} (hs : PS bs σ) (h : x < 0 ∨ nI bs.length ≤ x) : fX4_isLoose x σ = some 0 := by
  unfold fX4_isLoose
  rw [p_hasBar0 hs h, ob_s, if_pos rfl]
theorem lt3 {k : Int32} : (k < 3) ↔ ¬ (2 : Int32) < k := by
  rw [Int32.lt_iff_toInt_lt, Int32.lt_iff_toInt_lt]
  simp
  omega
theorem p_isLoose {bs : List (Int32 × Int32)} {σ : St} {b : Nat} (hs : PS bs σ) (hl : bs.length ≤ 99) (h : b < bs.length) : fX4_isLoose (nI b) σ = some (if kdB bs b < 3 then 1 else 0) := by
  unfold fX4_isLoose
  rw [p_hasBar1 hs hl h, ob_s, if_neg one_ne, p_item3 (by omega), ob_s, (hs.2.2.2.at h).1]
  by_cases h2 : (2 : Int32) < kdB bs b
  · rw [if_pos h2, if_neg (fun q => lt3.mp q h2)]
  · rw [if_neg h2, if_pos (lt3.mpr h2)]
theorem IC.ps {A : AbS} {σ : St} (h : IC A σ) : PS (aB A) σ := h.2.1.1
theorem lenB (A : AbS) : (aB A).length ≤ 99 := (BG_bsOf (aT A)).1.1
/-! bar -/
def vBar (x w : Int32) (A : AbS) : Int32 := Option.elim (ix (aB A).length x) (-2) (fun b => if 0 ≤ w ∧ w ≤ 2 then (if w = 0 then kdB (aB A) b else if w = 1 then tuB (aB A) b else cuB (aB A) b) else -2)
theorem m_isBar {A : AbS} {σ : St} (x : Int32) (h : IM A σ) : ∃ σ', fX11_isBar x σ = some (if ix (aB A).length x = none then 0 else 1, σ') ∧ MS σ σ' ∧ PSm (aB A) σ' := by
  obtain ⟨σ', e, k, p⟩ := m_reads h
  refine ⟨σ', ?_, k, p⟩
  unfold fX11_isBar
  have hl := lenB A
  rw [e, ob_s, p.1, p_in, ob_s, zb_ite, if_pos rfl]
  have := ix_in (n := (aB A).length) (x := x) (by omega)
  by_cases q : ix (aB A).length x = none
  · rw [if_pos q, if_neg (fun z => this.mp z q)]
  · rw [if_neg q, if_pos (this.mpr q)]
theorem l_bar : ls_bar Inv := fun σ a1 a2 h => ls_mk1 (vBar a1 a2) (fun A σ hA h => by
    have hl := lenB A
    unfold fX10_bar fX10_bar_j20 vBar
    rcases pk_ix a1 (show (aB A).length < 2 ^ 31 by omega) with q | q | ⟨j, hj, rfl⟩
    · rw [p_hasBar0 h.ps (Or.inl q), ob_s, if_pos rfl, ix_neg q]; rfl
    · rw [p_hasBar0 h.ps (Or.inr q), ob_s, if_pos rfl, ix_ge q (by omega)]; rfl
    · rw [p_hasBar1 h.ps hl hj, ob_s, if_neg one_ne, p_within, ob_s, ix_nI hj (by omega)]
      show _ = some (if 0 ≤ a2 ∧ a2 ≤ 2 then _ else _)
      by_cases hw : 0 ≤ a2 ∧ a2 ≤ 2
      · rw [if_pos hw, if_pos hw, if_neg one_ne, p_kindOf h.ps hl hj, p_tuneOf h.ps hl hj, p_cueIn h.ps hl hj, ob_s, ob_s, ob_s]
        by_cases h0 : a2 = 0
        · rw [if_pos h0, if_pos h0]
        · rw [if_neg h0, if_neg h0]
          by_cases h1 : a2 = 1
          · rw [if_pos h1, if_pos h1]
          · rw [if_neg h1, if_neg h1]
      · rw [if_neg hw, if_neg hw, if_pos rfl]) (fun A σ hA h => by
    have hl := lenB A
    obtain ⟨σ', e, k, p⟩ := m_isBar a1 h
    refine ⟨σ', ?_, k⟩
    unfold fX11_bar fX11_bar_j26 vBar
    rw [e, ob_s]
    cases hx : ix (aB A).length a1 with
    | none =>
      dsimp only
      rw [if_pos rfl, if_pos rfl]; rfl
    | some j =>
      obtain ⟨hj, rfl⟩ := ix_some hx (by omega)
      dsimp only
      rw [if_neg (show ¬ some j = none from fun q => by cases q), if_neg one_ne, p_in, ob_s]
      show _ = some (if 0 ≤ a2 ∧ a2 ≤ 2 then _ else _, σ')
      obtain ⟨g1, g2, g3⟩ := p.2.2.2.at hj
      by_cases hw : 0 ≤ a2 ∧ a2 ≤ 2
      · rw [if_pos hw, if_pos hw, if_neg one_ne]
        unfold fX11_barOf
        rw [inb_nI (show j < 100 by omega) (by omega), nI_clamp (by omega), g1, g2, g3, if_pos rfl, if_pos rfl, if_pos rfl]
        by_cases h0 : a2 = 0
        · rw [if_pos h0, if_pos h0]; rfl
        · rw [if_neg h0, if_neg h0]
          by_cases h1 : a2 = 1
          · rw [if_pos h1, if_pos h1]; rfl
          · rw [if_neg h1, if_neg h1]; rfl
      · rw [if_neg hw, if_neg hw, if_pos rfl]) σ h
