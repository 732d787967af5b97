/-! lose, put, get -/
theorem IC.hs {A : AbS} {σ : St} (h : IC A σ) : SHc (aH A) σ := h.2.2.2.2.2.2.2.2.1
theorem IM.hs {A : AbS} {σ : St} (h : IM A σ) : SHm (aH A) σ := h.2.2.2.2.2.2.2.1
def vLose (x : Int32) (A : AbS) : Int32 := Option.elim (ix 4 x) (-2) (fun s => if (aH A s).1 = true then nI (aH A s).2.2.1 else -10 - 1)
def uLose (x : Int32) (A : AbS) : AbS := Option.elim (ix 4 x) A (fun s => if (aH A s).1 = true then (A.1, aR A, aF A, aP A, putH (aH A) s (false, (aH A s).2), aG A) else uFd 1 A)
theorem ok_lose (x : Int32) (A : AbS) (h : OKA A) : OKA (uLose x A) := by
  unfold uLose
  cases hx : ix 4 x with
  | none => exact h
  | some s =>
    show OKA (if (aH A s).1 = true then _ else _)
    split
    · exact ok_H h (h.2.2.2.2.2.2 s (ix_some hx (by omega)).1)
    · exact h
theorem c_lose (x : Int32) (A : AbS) (σ : St) (h : IC A σ) : ∃ σ', fX10_lose x σ = some (vLose x A, σ') ∧ IC (uLose x A) σ' ∧ CM σ σ' := by
  unfold fX10_lose vLose uLose
  rcases sh_cases x with q | ⟨s, hs, rfl⟩
  · rw [p_sheetAt0 q, ob_s, sh_none q]
    exact ⟨σ, rfl, h, CM.rf⟩
  · rw [p_sheetAt1 hs, ob_s, ix_nI hs (by omega)]
    show ∃ σ', (if isS (36 + 2 * s) = true then _ else _) = some (if (aH A s).1 = true then _ else _, σ') ∧ IC (if (aH A s).1 = true then _ else _) σ' ∧ _
    obtain ⟨s1, s2, s3, s4⟩ := h.hs s hs
    rw [if_pos (isS_s hs), s1]
    by_cases g : (aH A s).1 = true
    · rw [if_pos g, if_pos g, if_pos g, if_pos rfl]
      refine ⟨_, by rw [show (sI σ (36 + 2 * s) 1 1).1 (36 + 2 * s) 3 = nI (aH A s).2.2.1 by rw [← s3]; simp [g_sI]], h.sh (fun c hc h0 => sI_o (by omega)) (by rw [sI_o (by omega)]) rfl (by rw [sI_o (by omega)]; exact h.2.2.2.2.2.2.2.2.2.1) (SHc_put h.hs (fun c _ _ h1 h2 => sI_o h1) (by simp [g_sI]) ?_ ?_ (fun i hi => ?_)), CM_sI (by omega)⟩
      · rw [← s2]; simp [g_sI]
      · rw [← s3]; simp [g_sI]
      · rw [sI_o (by omega)]; exact s4 i hi
    · rw [if_neg g, if_neg g, if_neg g, if_neg one_ne]
      obtain ⟨σ', e, i, k⟩ := c_found 1 h
      rw [e, ob_s]
      exact ⟨σ', rfl, i, k⟩
theorem m_lose (x : Int32) (A : AbS) (σ : St) (h : IM A σ) : ∃ σ', fX11_lose x σ = some (vLose x A, σ') ∧ IM (uLose x A) σ' ∧ MC σ σ' := by
  unfold fX11_lose vLose uLose
  rcases sh_cases x with q | ⟨s, hs, rfl⟩
  · rw [p_isSheet, ob_s, if_neg (sh_out q), if_pos rfl, sh_none q]
    exact ⟨σ, rfl, h, MC.rf⟩
  · rw [p_isSheet, ob_s, if_pos (sh_in hs), if_neg one_ne, ix_nI hs (by omega)]
    show ∃ σ', _ = some (if (aH A s).1 = true then _ else _, σ') ∧ IM (if (aH A s).1 = true then _ else _) σ' ∧ _
    obtain ⟨s1, s2, s3, s4⟩ := h.hs s hs
    rw [inb_nI hs (by omega), if_pos rfl, nI_clamp (show s < 2 ^ 31 by omega), s1, s3]
    by_cases g : (aH A s).1 = true
    · rw [if_pos g, if_pos g, if_pos g, if_neg one_ne]
      refine ⟨_, rfl, h.sh (fun c h1 h2 => sI_o (by omega)) (fun j hj => rfl) h.2.2.2.2.2.2.2.2 (SHm_put h.hs (fun t ht hne => ⟨?_, rfl, rfl, fun i hi => rfl⟩) ?_ s2 s3 s4), MC_sI (by decide)⟩
      · rw [g_sI, if_pos rfl, if_neg hne]
      · rw [g_sI, if_pos rfl, if_pos rfl]; rfl
    · rw [if_neg g, if_neg g, if_neg g, if_pos rfl]
      obtain ⟨σ', e, i, k⟩ := m_meets 1 h
      rw [e, ob_s]
      exact ⟨σ', rfl, i, k⟩
theorem l_lose : ls_lose Inv := fun σ a1 h => ls_mk (vLose a1) (uLose a1) (ok_lose a1) (fun A σ _ h => c_lose a1 A σ h) (fun A σ _ h => m_lose a1 A σ h) σ h
/-- what stands against item i -/
def lack (v : HT) (f i : Int32) : Int32 := if v.1 = true then (if f = v.2.1 then (if ix v.2.2.1 i = none then 2 else 0) else 3) else 1
theorem p_hasItems {H : Nat → HT} {σ : St} {s : Nat} {i n : Int32} (hs : s < 4) (h : SHc H σ) : fX7_hasItems (36 + 2 * s) i n σ = some (if 0 ≤ i ∧ 0 ≤ n ∧ i ≤ nI (H s).2.2.1 ∧ n ≤ nI (H s).2.2.1 - i then 1 else 0) := by
  unfold fX7_hasItems
  rw [if_pos (isS_s hs), (h s hs).2.2.1]
  by_cases g1 : i < 0
  · rw [if_pos g1, if_neg (fun q => absurd g1 (Int32.not_lt.mpr q.1))]
  rw [if_neg g1]
  by_cases g2 : n < 0
  · rw [if_pos g2, if_neg (fun q => absurd g2 (Int32.not_lt.mpr q.2.1))]
  rw [if_neg g2]
  by_cases g3 : nI (H s).2.2.1 < i
  · rw [if_pos g3, if_neg (fun q => absurd g3 (Int32.not_lt.mpr q.2.2.1))]
  rw [if_neg g3]
  by_cases g4 : nI (H s).2.2.1 - i < n
  · rw [if_pos g4, if_neg (fun q => absurd g4 (Int32.not_lt.mpr q.2.2.2))]
  rw [if_neg g4, if_pos ⟨Int32.not_lt.mp g1, Int32.not_lt.mp g2, Int32.not_lt.mp g3, Int32.not_lt.mp g4⟩]
theorem has1 {m : Nat} {i : Int32} (hm : m ≤ 48) : (0 ≤ i ∧ (0 : Int32) ≤ 1 ∧ i ≤ nI m ∧ 1 ≤ nI m - i) ↔ ix m i ≠ none := by
  rcases pk_ix i (show m < 2 ^ 31 by omega) with q | q | ⟨j, hj, rfl⟩
  · rw [ix_neg q]; exact ⟨fun z => absurd q (Int32.not_lt.mpr z.1), fun z => absurd rfl z⟩
  · rw [ix_ge q (by omega)]
    refine ⟨fun z => ?_, fun z => absurd rfl z⟩
    exfalso
    obtain ⟨j, hj, rfl⟩ := i32_nat (m := m) (by omega) z.1 z.2.2.1
    have h1 := (nI_leI (by omega) (by omega)).mp q
    have e : j = m := by omega
    subst e
    have h2 := z.2.2.2
    rw [pk_sub (Nat.le_refl _), Nat.sub_self] at h2
    exact absurd h2 (by decide)
  · rw [ix_nI hj (by omega)]
    refine ⟨fun _ z => (by cases z), fun _ => ⟨nI_pos' (by omega), by decide, nI_le (by omega) (by omega), ?_⟩⟩
    rw [pk_sub (by omega)]
    exact nI_le (a := 1) (by omega) (by omega)
theorem p_findingAt {H : Nat → HT} {σ : St} {s : Nat} {f i : Int32} (hs : s < 4) (hm : (H s).2.2.1 ≤ 48) (h : SHc H σ) : fX7_findingAt (36 + 2 * s) f i σ = some (lack (H s) f i) := by
  unfold fX7_findingAt lack
  rw [if_pos (isS_s hs), p_hasItems hs h, ob_s, (h s hs).1, (h s hs).2.1]
  by_cases g1 : (H s).1 = true
  · rw [if_pos g1, if_pos g1, if_pos rfl]
    by_cases g2 : f = (H s).2.1
    · rw [if_pos g2, if_pos g2]
      by_cases g3 : ix (H s).2.2.1 i = none
      · rw [if_pos g3, if_neg (fun q => (has1 hm).mp q g3), if_pos rfl]
      · rw [if_neg g3, if_pos ((has1 hm).mpr g3), if_neg one_ne]
    · rw [if_neg g2, if_neg g2]
  · rw [if_neg g1, if_neg g1, if_neg one_ne]
theorem p_lacks {H : Nat → HT} {σ : St} {s : Nat} {f i : Int32} (hs : s < 4) (hm : (H s).2.2.1 ≤ 48) (h : SHm H σ) : fX11_lacks (nI s) f i σ = some (lack (H s) f i) := by
  unfold fX11_lacks lack
  rw [inb_nI hs (by omega), if_pos rfl, nI_clamp (show s < 2 ^ 31 by omega), (h s hs).1, (h s hs).2.1, (h s hs).2.2.1, p_in, ob_s]
  by_cases g1 : (H s).1 = true
  · rw [if_pos g1, if_pos g1, if_neg one_ne]
    by_cases g2 : f = (H s).2.1
    · rw [if_pos g2, if_pos g2.symm]
      by_cases g3 : ix (H s).2.2.1 i = none
      · rw [if_pos g3, if_neg (fun q => (ix_in (by omega)).mp q g3), if_pos rfl]
      · rw [if_neg g3, if_pos ((ix_in (by omega)).mpr g3), if_neg one_ne]
    · rw [if_neg g2, if_neg (fun q => g2 q.symm)]
  · rw [if_neg g1, if_neg g1, if_pos rfl]
theorem lack_0 {v : HT} {f i : Int32} (h : lack v f i = 0) : v.1 = true ∧ f = v.2.1 ∧ ix v.2.2.1 i ≠ none := by
  unfold lack at h
  by_cases g1 : v.1 = true
  · rw [if_pos g1] at h
    by_cases g2 : f = v.2.1
    · rw [if_pos g2] at h
      by_cases g3 : ix v.2.2.1 i = none
      · rw [if_pos g3] at h; exact absurd h (by decide)
      · exact ⟨g1, g2, g3⟩
    · rw [if_neg g2] at h; exact absurd h (by decide)
  · rw [if_neg g1] at h; exact absurd h (by decide)
theorem lack_le {v : HT} {f i : Int32} : lack v f i ≤ 0 ↔ lack v f i = 0 := by
  unfold lack
  by_cases g1 : v.1 = true
  · rw [if_pos g1]
    by_cases g2 : f = v.2.1
    · rw [if_pos g2]
      by_cases g3 : ix v.2.2.1 i = none
      · rw [if_pos g3]; decide
      · rw [if_neg g3]; decide
    · rw [if_neg g2]; decide
  · rw [if_neg g1]; decide
def nar (f v : Int32) : Int32 := if f = 0 then v.toInt8.toInt32 else if f = 1 then v.toInt16.toInt32 else v
theorem p_become {H : Nat → HT} {σ : St} {s i : Nat} {v : Int32} (hs : s < 4) (hi : i < 48) (h : SHc H σ) : fX7_become (36 + 2 * s) (nI i) v σ = some (sI σ (36 + 2 * s + 1) i (nar (H s).2.1 v)) := by
  unfold fX7_become fX7_become_j44 nar
  rw [if_pos (isS_s hs), if_neg (nI_pos (by omega)), if_neg (show ¬ (48 : Int32) ≤ nI i from nI_ge (b := 48) hi (by omega)), (h s hs).2.1, isS_wi (isS_s hs), ob_s, ob_s, ob_s, inb_nI hi (by omega), if_pos rfl, if_pos rfl, if_pos rfl, nI_clamp (by omega)]
  repeat' split
  all_goals rfl
theorem p_keep {H : Nat → HT} {σ : St} {s i : Nat} {v : Int32} (hs : s < 4) (hi : i < 48) (h : SHm H σ) : fX11_keep (nI s) (nI i) v σ = some (sI σ 68 (48 * s + i) (nar (H s).2.1 v)) := by
  unfold fX11_keep fX11_keep_j40 nar
  rw [inb_nI hs (by omega), if_pos rfl, nI_clamp (show s < 2 ^ 31 by omega), (h s hs).2.1, (inb48 hs hi).1, (inb48 hs hi).2, if_pos rfl, if_pos rfl, if_pos rfl]
  repeat' split
  all_goals rfl
def vPut (x f i : Int32) (A : AbS) : Int32 := Option.elim (ix 4 x) (-2) (fun s => if 0 ≤ f ∧ f ≤ 2 then (if lack (aH A s) f i = 0 then 1 else -10 - lack (aH A s) f i) else -2)
def uPut (x f i v : Int32) (A : AbS) : AbS := Option.elim (ix 4 x) A (fun s => if 0 ≤ f ∧ f ≤ 2 then (if lack (aH A s) f i = 0 then (A.1, aR A, aF A, aP A, putH (aH A) s ((aH A s).1, (aH A s).2.1, (aH A s).2.2.1, putF (aH A s).2.2.2 i.toNatClampNeg (nar (aH A s).2.1 v)), aG A) else uFd (lack (aH A s) f i) A) else A)
theorem ok_put (x f i v : Int32) (A : AbS) (h : OKA A) : OKA (uPut x f i v A) := by
  unfold uPut
  cases hx : ix 4 x with
  | none => exact h
  | some s =>
    show OKA (if 0 ≤ f ∧ f ≤ 2 then _ else _)
    split
    · split
      · exact ok_H h (h.2.2.2.2.2.2 s (ix_some hx (by omega)).1)
      · exact h
    · exact h
/-- an item is written in the component -/
theorem c_write {A : AbS} {σ : St} {s i : Nat} {v : Int32} (hs : s < 4) (h : IC A σ) : IC (A.1, aR A, aF A, aP A, putH (aH A) s ((aH A s).1, (aH A s).2.1, (aH A s).2.2.1, putF (aH A s).2.2.2 i v), aG A) (sI σ (36 + 2 * s + 1) i v) ∧ CM σ (sI σ (36 + 2 * s + 1) i v) := by
  obtain ⟨s1, s2, s3, s4⟩ := h.hs s hs
  refine ⟨h.sh (fun c hc h0 => sI_o (by omega)) (by rw [sI_o (by omega)]) rfl (by rw [sI_o (by omega)]; exact h.2.2.2.2.2.2.2.2.2.1) (SHc_put h.hs (fun c _ _ h1 h2 => sI_o h2) ?_ ?_ ?_ (fun j hj => ?_)), CM_sI (by omega)⟩
  · rw [sI_o (by omega)]; exact s1
  · rw [sI_o (by omega)]; exact s2
  · rw [sI_o (by omega)]; exact s3
  · rw [g_sI, if_pos rfl]
    show _ = putF _ i v j
    unfold putF
    by_cases e : j = i
    · rw [if_pos e, if_pos e]
    · rw [if_neg e, if_neg e]; exact s4 j hj
theorem m_write {A : AbS} {σ : St} {s i : Nat} {v : Int32} (hs : s < 4) (hi : i < 48) (h : IM A σ) : IM (A.1, aR A, aF A, aP A, putH (aH A) s ((aH A s).1, (aH A s).2.1, (aH A s).2.2.1, putF (aH A s).2.2.2 i v), aG A) (sI σ 68 (48 * s + i) v) ∧ MC σ (sI σ 68 (48 * s + i) v) := by
  obtain ⟨s1, s2, s3, s4⟩ := h.hs s hs
  refine ⟨h.sh (fun c h1 h2 => sI_o (by omega)) (fun j hj => rfl) h.2.2.2.2.2.2.2.2 (SHm_put h.hs (fun t ht hne => ⟨rfl, rfl, rfl, fun j hj => ?_⟩) s1 s2 s3 (fun j hj => ?_)), MC_sI (by decide)⟩
  · rw [g_sI, if_pos rfl, if_neg (by omega)]
  · rw [g_sI, if_pos rfl]
    show _ = putF _ i v j
    unfold putF
    by_cases e : j = i
    · rw [if_pos (by omega), if_pos e]
    · rw [if_neg (by omega), if_neg e]; exact s4 j hj
theorem c_put (x f i v : Int32) (A : AbS) (σ : St) (hA : OKA A) (h : IC A σ) : ∃ σ', fX10_put x f i v σ = some (vPut x f i A, σ') ∧ IC (uPut x f i v A) σ' ∧ CM σ σ' := by
  unfold fX10_put fX10_put_j21 vPut uPut
  rcases sh_cases x with q | ⟨s, hs, rfl⟩
  · rw [p_sheetAt0 q, ob_s, sh_none q]
    exact ⟨σ, rfl, h, CM.rf⟩
  · have hm := hA.2.2.2.2.2.2 s hs
    rw [p_sheetAt1 hs, ob_s, ix_nI hs (by omega)]
    show ∃ σ', (if isS (36 + 2 * s) = true then _ else _) = some (if 0 ≤ f ∧ f ≤ 2 then _ else _, σ') ∧ IC (if 0 ≤ f ∧ f ≤ 2 then _ else _) σ' ∧ _
    rw [if_pos (isS_s hs), p_within, ob_s, p_findingAt hs hm h.hs, ob_s]
    by_cases g1 : 0 ≤ f ∧ f ≤ 2
    · rw [if_pos g1, if_pos g1, if_pos g1, if_neg one_ne]
      by_cases g2 : lack (aH A s) f i = 0
      · rw [if_pos g2, if_pos g2, if_pos g2]
        obtain ⟨-, -, h3⟩ := lack_0 g2
        cases hi : ix (aH A s).2.2.1 i with
        | none => exact absurd hi h3
        | some j =>
          obtain ⟨hj, rfl⟩ := ix_some hi (by omega)
          rw [p_become hs (by omega) h.hs, ob_s, nI_clamp (by omega)]
          exact ⟨_, rfl, (c_write hs h).1, (c_write (A := A) hs h).2⟩
      · rw [if_neg g2, if_neg g2, if_neg g2]
        obtain ⟨σ', e, i', k⟩ := c_found (lack (aH A s) f i) h
        rw [e, ob_s]
        exact ⟨σ', rfl, i', k⟩
    · rw [if_neg g1, if_neg g1, if_neg g1, if_pos rfl]
      exact ⟨σ, rfl, h, CM.rf⟩
theorem m_put (x f i v : Int32) (A : AbS) (σ : St) (hA : OKA A) (h : IM A σ) : ∃ σ', fX11_put x f i v σ = some (vPut x f i A, σ') ∧ IM (uPut x f i v A) σ' ∧ MC σ σ' := by
  unfold fX11_put fX11_put_j16 vPut uPut
  rcases sh_cases x with q | ⟨s, hs, rfl⟩
  · rw [p_isSheet, ob_s, if_neg (sh_out q), if_pos rfl, sh_none q]
    exact ⟨σ, rfl, h, MC.rf⟩
  · have hm := hA.2.2.2.2.2.2 s hs
    rw [p_isSheet, ob_s, if_pos (sh_in hs), if_neg one_ne, ix_nI hs (by omega)]
    show ∃ σ', _ = some (if 0 ≤ f ∧ f ≤ 2 then _ else _, σ') ∧ IM (if 0 ≤ f ∧ f ≤ 2 then _ else _) σ' ∧ _
    rw [p_in, ob_s, p_lacks hs hm h.hs, ob_s]
    by_cases g1 : 0 ≤ f ∧ f ≤ 2
    · rw [if_pos g1, if_pos g1, if_pos g1, if_neg one_ne]
      by_cases g2 : lack (aH A s) f i = 0
      · rw [if_pos g2, if_pos g2, if_pos (lack_le.mpr g2)]
        obtain ⟨-, -, h3⟩ := lack_0 g2
        cases hi : ix (aH A s).2.2.1 i with
        | none => exact absurd hi h3
        | some j =>
          obtain ⟨hj, rfl⟩ := ix_some hi (by omega)
          rw [p_keep hs (by omega) h.hs, ob_s, nI_clamp (by omega)]
          exact ⟨_, rfl, (m_write hs (by omega) h).1, (m_write (A := A) hs (by omega) h).2⟩
      · rw [if_neg g2, if_neg g2, if_neg (fun q => g2 (lack_le.mp q))]
        obtain ⟨σ', e, i', k⟩ := m_meets (lack (aH A s) f i) h
        rw [e, ob_s]
        exact ⟨σ', rfl, i', k⟩
    · rw [if_neg g1, if_neg g1, if_neg g1, if_pos rfl]
      exact ⟨σ, rfl, h, MC.rf⟩
theorem l_put : ls_put Inv := fun σ a1 a2 a3 a4 h => ls_mk (vPut a1 a2 a3) (uPut a1 a2 a3 a4) (ok_put a1 a2 a3 a4) (c_put a1 a2 a3 a4) (m_put a1 a2 a3 a4) σ h
def vGet (x f i : Int32) (A : AbS) : Int32 := Option.elim (ix 4 x) (-2147483648) (fun s => if 0 ≤ f ∧ f ≤ 2 then (if lack (aH A s) f i = 0 then (aH A s).2.2.2 i.toNatClampNeg else -2147483648) else -2147483648)
def uGet (x f i : Int32) (A : AbS) : AbS := Option.elim (ix 4 x) A (fun s => if 0 ≤ f ∧ f ≤ 2 then (if lack (aH A s) f i = 0 then A else uFd (lack (aH A s) f i) A) else A)
theorem ok_get (x f i : Int32) (A : AbS) (h : OKA A) : OKA (uGet x f i A) := by
  unfold uGet
  cases hx : ix 4 x with
  | none => exact h
  | some s =>
    show OKA (if 0 ≤ f ∧ f ≤ 2 then _ else _)
    repeat' split
    all_goals exact h
theorem c_get (x f i : Int32) (A : AbS) (σ : St) (hA : OKA A) (h : IC A σ) : ∃ σ', fX10_get x f i σ = some (vGet x f i A, σ') ∧ IC (uGet x f i A) σ' ∧ CM σ σ' := by
  unfold fX10_get fX10_get_j21 vGet uGet
  rcases sh_cases x with q | ⟨s, hs, rfl⟩
  · rw [p_sheetAt0 q, ob_s, sh_none q]
    exact ⟨σ, rfl, h, CM.rf⟩
  · have hm := hA.2.2.2.2.2.2 s hs
    rw [p_sheetAt1 hs, ob_s, ix_nI hs (by omega)]
    show ∃ σ', (if isS (36 + 2 * s) = true then _ else _) = some (if 0 ≤ f ∧ f ≤ 2 then _ else _, σ') ∧ IC (if 0 ≤ f ∧ f ≤ 2 then _ else _) σ' ∧ _
    rw [if_pos (isS_s hs), p_within, ob_s, p_findingAt hs hm h.hs, ob_s]
    by_cases g1 : 0 ≤ f ∧ f ≤ 2
    · rw [if_pos g1, if_pos g1, if_pos g1, if_neg one_ne]
      by_cases g2 : lack (aH A s) f i = 0
      · rw [if_pos g2, if_pos g2, if_pos g2]
        obtain ⟨-, -, h3⟩ := lack_0 g2
        cases hi : ix (aH A s).2.2.1 i with
        | none => exact absurd hi h3
        | some j =>
          obtain ⟨hj, rfl⟩ := ix_some hi (by omega)
          unfold fX7_itemOf
          rw [if_pos (isS_s hs), p_itemAt (n := 48) (wi_ri (isS_wi (isS_s hs))) (by omega) j (by omega), if_pos (show j < 48 by omega), ob_s, ob_s, rv_w (by omega) (by omega), (h.hs s hs).2.2.2 j (by omega), nI_clamp (by omega)]
          exact ⟨σ, rfl, h, CM.rf⟩
      · rw [if_neg g2, if_neg g2, if_neg g2]
        exact ⟨_, rfl, (c_fset _ h).1, (c_fset _ h).2⟩
    · rw [if_neg g1, if_neg g1, if_neg g1, if_pos rfl]
      exact ⟨σ, rfl, h, CM.rf⟩
theorem m_get (x f i : Int32) (A : AbS) (σ : St) (hA : OKA A) (h : IM A σ) : ∃ σ', fX11_get x f i σ = some (vGet x f i A, σ') ∧ IM (uGet x f i A) σ' ∧ MC σ σ' := by
  unfold fX11_get fX11_get_j16 vGet uGet
  rcases sh_cases x with q | ⟨s, hs, rfl⟩
  · rw [p_isSheet, ob_s, if_neg (sh_out q), if_pos rfl, sh_none q]
    exact ⟨σ, rfl, h, MC.rf⟩
  · have hm := hA.2.2.2.2.2.2 s hs
    rw [p_isSheet, ob_s, if_pos (sh_in hs), if_neg one_ne, ix_nI hs (by omega)]
    show ∃ σ', _ = some (if 0 ≤ f ∧ f ≤ 2 then _ else _, σ') ∧ IM (if 0 ≤ f ∧ f ≤ 2 then _ else _) σ' ∧ _
    rw [p_in, ob_s, p_lacks hs hm h.hs, ob_s]
    by_cases g1 : 0 ≤ f ∧ f ≤ 2
    · rw [if_pos g1, if_pos g1, if_pos g1, if_neg one_ne]
      by_cases g2 : lack (aH A s) f i = 0
      · rw [if_pos g2, if_pos g2, if_pos (lack_le.mpr g2)]
        obtain ⟨-, -, h3⟩ := lack_0 g2
        cases hi : ix (aH A s).2.2.1 i with
        | none => exact absurd hi h3
        | some j =>
          obtain ⟨hj, rfl⟩ := ix_some hi (by omega)
          rw [(inb48 hs (show j < 48 by omega)).1, if_pos rfl, (inb48 hs (show j < 48 by omega)).2, (h.hs s hs).2.2.2 j (by omega), nI_clamp (by omega)]
          exact ⟨σ, rfl, h, MC.rf⟩
      · rw [if_neg g2, if_neg g2, if_neg (fun q => g2 (lack_le.mp q))]
        exact ⟨_, rfl, (m_fset _ h).1, (m_fset _ h).2⟩
    · rw [if_neg g1, if_neg g1, if_neg g1, if_pos rfl]
      exact ⟨σ, rfl, h, MC.rf⟩
theorem l_get : ls_get Inv := fun σ a1 a2 a3 h => ls_mk (vGet a1 a2 a3) (uGet a1 a2 a3) (ok_get a1 a2 a3) (c_get a1 a2 a3) (m_get a1 a2 a3) σ h
