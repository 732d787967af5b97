/-! pure part: numbers, frames, loops -/
theorem nI_inj {a b : Nat} (ha : a < 2 ^ 31) (hb : b < 2 ^ 31) (h : nI a = nI b) : a = b := (nI_eq ha hb).mp h
theorem nI_nm1 {n : Nat} (h : n < 2 ^ 31) : ¬ nI n = -1 := by
  intro e
  have := congrArg Int32.toInt e
  rw [nI_toInt h] at this
  simp at this
theorem i32_nat {x : Int32} {m : Nat} (hm : m < 2 ^ 31) (h0 : 0 ≤ x) (h1 : x ≤ nI m) : ∃ k : Nat, k ≤ m ∧ x = nI k := by
  rw [Int32.le_iff_toInt_le] at h0 h1
  rw [nI_toInt hm] at h1
  simp at h0
  exact ⟨x.toInt.toNat, by omega, by
    apply Int32.toInt_inj.mp
    rw [nI_toInt (by omega)]
    omega⟩
theorem inb_nI {n N : Nat} (h : n < N) (hn : n < 2 ^ 31) : inb (nI n) N = true := by
  unfold inb
  rw [nI_clamp hn]
  simp only [Bool.and_eq_true, decide_eq_true_eq]
  exact ⟨nI_pos' hn, h⟩
/-- what a run of calls left as it was -/
def Fr (S : List Nat) (σ σ' : St) : Prop := (∀ c, c ∉ S → σ'.1 c = σ.1 c) ∧ ∀ c, c ∉ S → σ'.2 c = σ.2 c
theorem Fr.rf {S : List Nat} {σ : St} : Fr S σ σ := ⟨fun _ _ => rfl, fun _ _ => rfl⟩
theorem Fr.trans {S : List Nat} {a b c : St} (h : Fr S a b) (h' : Fr S b c) : Fr S a c := ⟨fun x hx => (h'.1 x hx).trans (h.1 x hx), fun x hx => (h'.2 x hx).trans (h.2 x hx)⟩
theorem Fr.mono {S S' : List Nat} {a b : St} (h : Fr S a b) (hs : ∀ c ∈ S, c ∈ S') : Fr S' a b := ⟨fun x hx => h.1 x (fun q => hx (hs x q)), fun x hx => h.2 x (fun q => hx (hs x q))⟩
theorem Fr_sI {S : List Nat} {σ : St} {r j : Nat} {v : Int32} (h : r ∈ S) : Fr S σ (sI σ r j v) := ⟨fun c hc => if_neg (show ¬ c = r from fun e => hc (e.symm ▸ h)), fun _ _ => rfl⟩
theorem Fr_sL {S : List Nat} {σ : St} {r j : Nat} {v : Int64} (h : r ∈ S) : Fr S σ (sL σ r j v) := ⟨fun _ _ => rfl, fun c hc => if_neg (show ¬ c = r from fun e => hc (e.symm ▸ h))⟩
theorem Fr_rI {S : List Nat} {σ : St} {r : Nat} {f : Nat → Int32} (h : r ∈ S) : Fr S σ (rI σ r f) := ⟨fun c hc => if_neg (show ¬ c = r from fun e => hc (e.symm ▸ h)), fun _ _ => rfl⟩
theorem Fr_rL {S : List Nat} {σ : St} {r : Nat} {f : Nat → Int64} (h : r ∈ S) : Fr S σ (rL σ r f) := ⟨fun _ _ => rfl, fun c hc => if_neg (show ¬ c = r from fun e => hc (e.symm ▸ h))⟩
theorem g_sI (σ : St) (r j : Nat) (v : Int32) (r' j' : Nat) : (sI σ r j v).1 r' j' = if r' = r then (if j' = j then v else σ.1 r' j') else σ.1 r' j' := by
  by_cases h : r' = r
  · subst h; simp [sI, rI, upd]
  · simp [sI, rI, h]
theorem g_sI2 (σ : St) (r j : Nat) (v : Int32) : (sI σ r j v).2 = σ.2 := rfl
theorem g_sL (σ : St) (r j : Nat) (v : Int64) (r' j' : Nat) : (sL σ r j v).2 r' j' = if r' = r then (if j' = j then v else σ.2 r' j') else σ.2 r' j' := by
  by_cases h : r' = r
  · subst h; simp [sL, rL, vp_updL]
  · simp [sL, rL, h]
theorem g_sL1 (σ : St) (r j : Nat) (v : Int64) : (sL σ r j v).1 = σ.1 := rfl
/-- a loop whose states are known -/
theorem lpc_for {S R : Type} {body : S → Option (S ⊕ R)} (st : Nat → S) {a b : Nat} {r : R} (hab : a ≤ b) (hs : ∀ i, a ≤ i → i < b → body (st i) = some (.inl (st (i + 1)))) (he : body (st b) = some (.inr r)) : lpc body (st a) = some r := by
  obtain ⟨d, rfl⟩ : ∃ d, b = a + d := ⟨b - a, by omega⟩
  clear hab
  induction d generalizing a with
  | zero => exact lpc_exit he
  | succ d ih =>
    rw [lpc_step (hs a (Nat.le_refl _) (by omega))]
    exact ih (a := a + 1) (fun i h1 h2 => hs i (by omega) (by omega)) (by rw [show a + 1 + d = a + (d + 1) by omega]; exact he)
/-- a counted loop with an invariant -/
theorem lpc_cnt {S R : Type} {body : S → Option (S ⊕ R)} (I : Nat → S → Prop) (P : R → Prop) {a b : Nat} (hab : a ≤ b) (hs : ∀ i s, a ≤ i → i < b → I i s → ∃ s', body s = some (.inl s') ∧ I (i + 1) s') (he : ∀ s, I b s → ∃ r, body s = some (.inr r) ∧ P r) {s : S} (h : I a s) : ∃ r, lpc body s = some r ∧ P r := by
  obtain ⟨d, rfl⟩ : ∃ d, b = a + d := ⟨b - a, by omega⟩
  clear hab
  induction d generalizing a s with
  | zero =>
    obtain ⟨r, h1, h2⟩ := he s h
    exact ⟨r, lpc_exit h1, h2⟩
  | succ d ih =>
    obtain ⟨s', h1, h2⟩ := hs a s (Nat.le_refl _) (by omega) h
    rw [lpc_step h1]
    exact ih (a := a + 1) h2 (fun i s q1 q2 => hs i s (by omega) (by omega)) (by rw [show a + 1 + d = a + (d + 1) by omega]; exact he)
/-! small methods -/
theorem p_within (v a b : Int32) : fX10_within v a b = some (if a ≤ v ∧ v ≤ b then 1 else 0) := by
  unfold fX10_within
  by_cases h1 : v < a
  · rw [if_pos h1, if_neg (fun h => absurd h.1 (Int32.not_le.mpr h1))]
  · rw [if_neg h1]
    by_cases h2 : b < v
    · rw [if_pos h2, if_neg (fun h => absurd h.2 (Int32.not_le.mpr h2))]
    · rw [if_neg h2, if_pos ⟨Int32.not_lt.mp h1, Int32.not_lt.mp h2⟩]
theorem p_in (v a b : Int32) : fX11_in v a b = some (if a ≤ v ∧ v ≤ b then 1 else 0) := by
  unfold fX11_in
  by_cases h1 : v < a
  · rw [if_pos h1, if_neg (fun h => absurd h.1 (Int32.not_le.mpr h1))]
  · rw [if_neg h1]
    by_cases h2 : b < v
    · rw [if_pos h2, if_neg (fun h => absurd h.2 (Int32.not_le.mpr h2))]
    · rw [if_neg h2, if_pos ⟨Int32.not_lt.mp h1, Int32.not_lt.mp h2⟩]
theorem zb_ite (c : Prop) [Decidable c] : zb (if c then 1 else 0) = true := by
  by_cases h : c
  · rw [if_pos h]; rfl
  · rw [if_neg h]; rfl
theorem p_isNumber (v : Int32) : fX10_isNumber v = some (if 1 ≤ v ∧ v ≤ 110 then 1 else 0) := by
  unfold fX10_isNumber
  rw [p_within]
  show (if zb _ = true then _ else _) = _
  rw [zb_ite]; rfl
theorem p_isPart (v : Int32) : fX10_isPart v = some (if 0 ≤ v ∧ v ≤ 1 then 1 else 0) := by
  unfold fX10_isPart
  rw [p_within]
  show (if zb _ = true then _ else _) = _
  rw [zb_ite]; rfl
theorem p_isNumberM (v : Int32) : fX11_isNumber v = some (if 1 ≤ v ∧ v ≤ 110 then 1 else 0) := by
  unfold fX11_isNumber
  rw [p_in]
  show (if zb _ = true then _ else _) = _
  rw [zb_ite]; rfl
theorem p_isSheet (v : Int32) : fX11_isSheet v = some (if 0 ≤ v ∧ v ≤ 3 then 1 else 0) := by
  unfold fX11_isSheet
  rw [p_in]
  show (if zb _ = true then _ else _) = _
  rw [zb_ite]; rfl
theorem p_max (a b : Int32) : fJ9_max_7cf53 a b = some (if a < b then b else a) := by
  unfold fJ9_max_7cf53
  by_cases h : a < b
  · rw [if_pos h, if_pos h]
  · rw [if_neg h, if_neg h]
theorem p_min (a b : Int32) : fJ9_min_7cf53 a b = some (if b < a then b else a) := by
  unfold fJ9_min_7cf53
  by_cases h : b < a
  · rw [if_pos h, if_pos h]
  · rw [if_neg h, if_neg h]
theorem p_itemAt {r n : Nat} (hr : ri r = some n) (hn : n < 2 ^ 31) (i : Nat) (hi : i < 2 ^ 31) (σ : St) : fX10_itemAt r (nI i) σ = some (if i < n then rv σ r i else 0) := by
  unfold fX10_itemAt
  rw [hr]
  show (if nI i < 0 then _ else _) = _
  rw [if_neg (nI_pos hi)]
  by_cases h : i < n
  · rw [if_neg (show ¬ Int32.ofNat n ≤ nI i from fun q => by have := (nI_leI hn hi).mp q; omega), inb_nI h hi, if_pos rfl, if_pos h, nI_clamp hi]
  · rw [if_pos (show Int32.ofNat n ≤ nI i from nI_le (by omega) hi), if_neg h]
theorem p_itemAt_neg {r n : Nat} (hr : ri r = some n) {x : Int32} (hx : x < 0) (σ : St) : fX10_itemAt r x σ = some 0 := by
  unfold fX10_itemAt
  rw [hr]
  show (if x < 0 then _ else _) = _
  rw [if_pos hx]
theorem rv_w {σ : St} {r i : Nat} (h0 : r ≠ 1000) (h1 : r ≠ 1001) : rv σ r i = σ.1 r i := by
  unfold rv; rw [if_neg h0, if_neg h1]
theorem ob_s {α β : Type} {x : α} {f : α → Option β} : Option.bind (some x) f = f x := rfl
theorem getD_ge {T : List Int32} {i : Nat} {d : Int32} (h : T.length ≤ i) : T.getD i d = d := by
  rw [List.getD_eq_getElem?_getD, List.getElem?_eq_none h]; rfl
theorem one_ne : ¬ (1 : Int32) = 0 := by decide
