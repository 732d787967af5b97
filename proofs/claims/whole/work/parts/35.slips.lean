/-! slips: the spec -/
def Lf (S : List Nat) (σ σ' : St) : Prop := σ'.1 = σ.1 ∧ ∀ c, c ∉ S → σ'.2 c = σ.2 c
theorem Lf.rf {S : List Nat} {σ : St} : Lf S σ σ := ⟨rfl, fun _ _ => rfl⟩
theorem Lf.trans {S : List Nat} {a b c : St} (h : Lf S a b) (h' : Lf S b c) : Lf S a c := ⟨h'.1.trans h.1, fun x hx => (h'.2 x hx).trans (h.2 x hx)⟩
theorem Lf.mono {S S' : List Nat} {a b : St} (h : Lf S a b) (hs : ∀ c ∈ S, c ∈ S') : Lf S' a b := ⟨h.1, fun x hx => h.2 x (fun q => hx (hs x q))⟩
theorem Lf_sL {S : List Nat} {σ : St} {r j : Nat} {v : Int64} (h : r ∈ S) : Lf S σ (sL σ r j v) := ⟨rfl, (Fr_sL h).2⟩
theorem Lf_rL {S : List Nat} {σ : St} {r : Nat} {f : Nat → Int64} (h : r ∈ S) : Lf S σ (rL σ r f) := ⟨rfl, (Fr_rL h).2⟩
theorem Lf.Fr {S : List Nat} {σ σ' : St} (h : Lf S σ σ') : Fr S σ σ' := ⟨fun c _ => by rw [h.1], h.2⟩
theorem PS.lf {bs : List (Int32 × Int32)} {σ σ' : St} (h : PS bs σ) (e : σ'.1 = σ.1) : PS bs σ' := by
  unfold PS; rw [e]; exact h
theorem PSm.lf {bs : List (Int32 × Int32)} {σ σ' : St} (h : PSm bs σ) (e : σ'.1 = σ.1) : PSm bs σ' := by
  unfold PSm; rw [e]; exact h
theorem Lf.MS {S : List Nat} {σ σ' : St} (h : Lf S σ σ') (hS : ∀ c ∈ S, 44 ≤ c) : MS σ σ' := ⟨fun c _ => by rw [h.1], fun j _ _ _ => by rw [h.1], fun c hc => h.2 c (fun q => by have := hS c q; omega)⟩
theorem g_rL (σ : St) (r : Nat) (f : Nat → Int64) : (rL σ r f).2 r = f := if_pos rfl
theorem g_rLo (σ : St) {r c : Nat} (f : Nat → Int64) (h : c ≠ r) : (rL σ r f).2 c = σ.2 c := if_neg h
/-- text, missed, doubled, heard, written -/
abbrev SP : Type := List Int32 × (Nat → Nat) × (Nat → Nat) × Nat × Nat
abbrev spB (q : SP) : List (Int32 × Int32) := bsOf q.1
abbrev spM (q : SP) (b : Nat) : Nat := q.2.1 (kdB (spB q) b).toNatClampNeg
abbrev spD (q : SP) (b : Nat) : Nat := q.2.2.1 (kdB (spB q) b).toNatClampNeg
abbrev spH (q : SP) : Nat := q.2.2.2.1
abbrev spW (q : SP) : Nat := q.2.2.2.2
abbrev gW (q : SP) (b : Nat) : Prop := kdB (spB q) b = 4 ∧ spW q / 2 ^ ncu ((spB q).take b) % 2 = 1
def sc (q : SP) : Nat → Nat
  | 0 => 0
  | b + 1 => sc q b + (if kdB (spB q) b < 3 then 1 else if gW q b then 1 else 0)
def sl (q : SP) : Nat → Nat → Nat
  | 0, i => if i = 10 then 1 else 0
  | b + 1, i => if kdB (spB q) b < 3 then (if i < 20 then sl q b (i + 1) * spM q b else 0) + sl q b i * (16 - spM q b - spD q b) + (if 0 < i then sl q b (i - 1) * spD q b else 0) else if gW q b then (if i = 10 then 16 * sl q b i + spH q * (16 ^ sc q b - sl q b i) else (16 - spH q) * sl q b i) else sl q b i
theorem sc_s (q : SP) (b : Nat) : sc q (b + 1) = sc q b + (if kdB (spB q) b < 3 then 1 else if gW q b then 1 else 0) := rfl
theorem sl_s (q : SP) (b i : Nat) : sl q (b + 1) i = if kdB (spB q) b < 3 then (if i < 20 then sl q b (i + 1) * spM q b else 0) + sl q b i * (16 - spM q b - spD q b) + (if 0 < i then sl q b (i - 1) * spD q b else 0) else if gW q b then (if i = 10 then 16 * sl q b i + spH q * (16 ^ sc q b - sl q b i) else (16 - spH q) * sl q b i) else sl q b i := rfl
def SPok (q : SP) : Prop := (∀ k, k < 3 → q.2.1 k + q.2.2.1 k ≤ 16) ∧ spH q ≤ 16 ∧ spW q < 64
theorem SPok.md {q : SP} (h : SPok q) {b : Nat} (hb : b < (spB q).length) (hk : kdB (spB q) b < 3) : spM q b + spD q b ≤ 16 := by
  obtain ⟨k, h1, h2⟩ := kd_l hb hk
  unfold spM spD
  rw [h2, nI_clamp (by omega)]
  exact h.1 k h1
theorem mul3 {x y z m d X : Nat} (hx : x ≤ X) (hy : y ≤ X) (hz : z ≤ X) (h : m + d ≤ 16) : y * m + x * (16 - m - d) + z * d ≤ X * 16 := by
  have h1 : y * m ≤ X * m := Nat.mul_le_mul_right _ hy
  have h2 : x * (16 - m - d) ≤ X * (16 - m - d) := Nat.mul_le_mul_right _ hx
  have h3 : z * d ≤ X * d := Nat.mul_le_mul_right _ hz
  have h4 : X * m + X * (16 - m - d) + X * d = X * 16 := by
    rw [← Nat.mul_add, ← Nat.mul_add]; congr 1; omega
  omega
theorem hmix {s h S : Nat} (hs : s ≤ S) (hh : h ≤ 16) : 16 * s + h * (S - s) = s * (16 - h) + h * S := by
  obtain ⟨t, rfl⟩ : ∃ t, S = s + t := ⟨S - s, by omega⟩
  obtain ⟨u, hu⟩ : ∃ u, u + h = 16 := ⟨16 - h, by omega⟩
  have : 16 - h = u := by omega
  rw [this, ← hu, Nat.add_sub_cancel_left, Nat.mul_add, Nat.add_mul, Nat.mul_comm u s]
  omega
theorem sl_le {q : SP} (hq : SPok q) : ∀ b, b ≤ (spB q).length → ∀ i, sl q b i ≤ 16 ^ sc q b := by
  intro b
  induction b with
  | zero => intro _ i; unfold sl sc; split <;> omega
  | succ b ih =>
    intro hb i
    have ih := ih (by omega)
    rw [sl_s, sc_s]
    by_cases h1 : kdB (spB q) b < 3
    · rw [if_pos h1, if_pos h1, Nat.pow_succ]
      refine Nat.le_trans (Nat.add_le_add (Nat.add_le_add (?_ : _ ≤ sl q b (i + 1) * spM q b) (Nat.le_refl _)) (?_ : _ ≤ sl q b (i - 1) * spD q b)) (mul3 (ih i) (ih _) (ih _) (hq.md (by omega) h1))
      · split <;> omega
      · split <;> omega
    · rw [if_neg h1, if_neg h1]
      by_cases h2 : gW q b
      · rw [if_pos h2, if_pos h2, Nat.pow_succ]
        have := ih i
        by_cases h3 : i = 10
        · rw [if_pos h3, hmix this hq.2.1]
          have e1 : sl q b i * (16 - spH q) ≤ 16 ^ sc q b * (16 - spH q) := Nat.mul_le_mul_right _ this
          have e2 : 16 ^ sc q b * (16 - spH q) + spH q * 16 ^ sc q b = 16 ^ sc q b * 16 := by
            rw [Nat.mul_comm (spH q), ← Nat.mul_add]; congr 1; have := hq.2.1; omega
          omega
        · rw [if_neg h3]
          have e1 : (16 - spH q) * sl q b i ≤ 16 * 16 ^ sc q b := Nat.mul_le_mul (by omega) this
          omega
      · rw [if_neg h2, if_neg h2]; exact ih i
theorem lo_s {bs : List (Int32 × Int32)} {b : Nat} (hb : b < bs.length) : nlo (bs.take (b + 1)) = nlo (bs.take b) + (if kdB bs b < 3 then 1 else 0) := by
  rw [List.take_succ, bs_at hb, nlo_app]
  congr 1
  unfold nlo
  simp [List.countP_cons]
theorem cu_s {bs : List (Int32 × Int32)} {b : Nat} (hb : b < bs.length) : ncu (bs.take (b + 1)) = ncu (bs.take b) + (if kdB bs b = 4 then 1 else 0) := by
  rw [List.take_succ, bs_at hb, ncu_app]
  congr 1
  unfold ncu
  simp [List.countP_cons]
theorem lo_le (bs : List (Int32 × Int32)) (b : Nat) : nlo (bs.take b) ≤ nlo bs := by
  conv => rhs; rw [← List.take_append_drop b bs, nlo_app]
  omega
theorem cu_le (bs : List (Int32 × Int32)) (b : Nat) : ncu (bs.take b) ≤ ncu bs := by
  conv => rhs; rw [← List.take_append_drop b bs, ncu_app]
  omega
theorem sl_out {q : SP} : ∀ b, b ≤ (spB q).length → ∀ i, i + nlo ((spB q).take b) < 10 ∨ 10 + nlo ((spB q).take b) < i → sl q b i = 0 := by
  intro b
  induction b with
  | zero => intro _ i hi; unfold sl; rw [if_neg (by omega)]
  | succ b ih =>
    intro hb i hi
    have ih := ih (by omega)
    rw [lo_s (by omega)] at hi
    rw [sl_s]
    by_cases h1 : kdB (spB q) b < 3
    · rw [if_pos h1] at hi ⊢
      rw [ih i (by omega), ih (i + 1) (by omega)]
      by_cases h0 : 0 < i
      · rw [ih (i - 1) (by omega)]; simp
      · rw [if_neg h0]; simp
    · rw [if_neg h1] at hi ⊢
      rw [ih i (by omega)]
      have : ¬ i = 10 := by omega
      rw [if_neg this]
      simp
/-! the component's walk -/
theorem p_longAt {r n i : Nat} {σ : St} (hw : wj r = some n) (hn : n < 2 ^ 31) (hi : i < 2 ^ 31) : fX10_longAt r (nI i) σ = some (if i < n then σ.2 r i else 0) := by
  unfold fX10_longAt fX10_longAt_j16
  rw [hw, ob_s, if_neg (nI_pos hi)]
  by_cases h : i < n
  · rw [if_pos h, if_neg (show ¬ Int32.ofNat n ≤ nI i from nI_ge h hn), inb_nI h (by omega), if_pos rfl, nI_clamp (by omega)]
  · rw [if_neg h, if_pos (show Int32.ofNat n ≤ nI i from nI_le (by omega) hi)]
theorem p_longAtN {r n : Nat} {x : Int32} {σ : St} (hw : wj r = some n) (hx : x < 0) : fX10_longAt r x σ = some 0 := by
  unfold fX10_longAt fX10_longAt_j16
  rw [hw, ob_s, if_pos hx]
theorem p_fillL {r n : Nat} {v : Int64} {σ : St} (hw : wj r = some n) (hn : n < 2 ^ 31) : ∃ σ', fJ7_fill_d0a16 r v σ = some σ' ∧ (∀ i, i < n → σ'.2 r i = v) ∧ Lf [r] σ σ' := by
  have key : ∃ q, lpc (fun s => fJ7_fill_d0a16_b6 r v (nI n) s.1 s.2) (0, σ) = some q ∧ ((∀ i, i < n → q.2 r i = v) ∧ Lf [r] σ q) := by
    refine lpc_cnt (a := 0) (b := n) (fun k s => s.1 = nI k ∧ (∀ i, i < k → s.2.2 r i = v) ∧ Lf [r] σ s.2) _ (by omega) ?_ ?_ ⟨rfl, fun i hi => absurd hi (Nat.not_lt_zero _), Lf.rf⟩
    · rintro k ⟨x, τ⟩ _ hk ⟨e1, e2, e3⟩
      dsimp only at e1 e2 e3
      subst e1
      refine ⟨(nI k + 1, sL τ r k v), ?_, nI_1 k, fun i hi => ?_, e3.trans (Lf_sL (by simp))⟩
      · show fJ7_fill_d0a16_b6 r v (nI n) (nI k) τ = _
        unfold fJ7_fill_d0a16_b6
        rw [hw, ob_s, if_neg (nI_ge hk (by omega)), inb_nI hk (by omega), if_pos rfl, nI_clamp (by omega)]
      · show (sL τ r k v).2 r i = v
        rw [g_sL, if_pos rfl]
        by_cases q : i = k
        · rw [if_pos q]
        · rw [if_neg q]; exact e2 i (by omega)
    · rintro ⟨x, τ⟩ ⟨e1, e2, e3⟩
      dsimp only at e1 e2 e3
      subst e1
      refine ⟨τ, ?_, e2, e3⟩
      show fJ7_fill_d0a16_b6 r v (nI n) (nI n) τ = _
      unfold fJ7_fill_d0a16_b6
      rw [hw, ob_s, if_pos (Int32.le_refl _)]
  obtain ⟨q, e, h1, h2⟩ := key
  refine ⟨q, ?_, h1, h2⟩
  unfold fJ7_fill_d0a16
  rw [hw, ob_s]
  simp only [ltb]
  show (lpc (fun s => fJ7_fill_d0a16_b6 r v (nI n) s.1 s.2) (0, σ)).bind _ = _
  rw [e, ob_s]
def dr (g : Nat → Nat) (m d i : Nat) : Nat := (if i < 20 then g (i + 1) * m else 0) + g i * (16 - m - d) + (if 0 < i then g (i - 1) * d else 0)
theorem div16 {g : Nat} (h : 16 * g < 2 ^ 63) : lN (16 * g) / (16 : Int64) = lN g := by
  have := pk_lDiv (b := 16) h (by omega) (by omega)
  rw [Nat.mul_div_cancel_left g (by omega)] at this
  exact this
theorem lmul (g m : Nat) (h : m < 2 ^ 31) : lN g * (nI m).toInt64 = lN (g * m) := by rw [nI_l h, lN_mul]
theorem p_drift {σ : St} {m d f : Nat} {g : Nat → Nat} (hmd : m + d ≤ 16) (hf : f ≤ 10) (hg : ∀ i, i < 21 → σ.2 25 i = lN (16 * g i) ∧ 16 * g i < 2 ^ 63) : ∃ σ', fX8_drift (nI m) (nI d) (nI f) σ = some σ' ∧ Lf [25, 26] σ σ' ∧ (∀ i, i < 21 → 10 ≤ i + f → i ≤ 10 + f → σ'.2 25 i = lN (dr g m d i)) ∧ (∀ i, i < 21 → ¬ (10 ≤ i + f ∧ i ≤ 10 + f) → σ'.2 25 i = σ.2 26 i) ∧ ∀ i, i < 21 → ¬ (10 ≤ i + f ∧ i ≤ 10 + f) → σ'.2 26 i = σ.2 26 i := by
  unfold fX8_drift
  simp only [ltb]
  rw [show (16 : Int32) - nI m = nI (16 - m) from pk_sub (a := 16) (by omega), pk_sub (by omega), p_max, ob_s, show (10 : Int32) - nI f = nI (10 - f) from pk_sub (a := 10) (by omega)]
  have e0 : (if (0 : Int32) < nI (10 - f) then nI (10 - f) else 0) = nI (10 - f) := by
    by_cases q : 10 - f = 0
    · rw [q]; rfl
    · rw [if_pos (show (0 : Int32) < nI (10 - f) from nI_lt (a := 0) (by omega) (by omega))]
  rw [e0]
  have key : ∃ r, lpc (fun s => fX8_drift_b18 (nI m) (nI d) (nI f) (nI (16 - m - d)) s.1 s.2) (nI (10 - f), σ) = some r ∧ (Lf [26] σ r ∧ (∀ j, 10 - f ≤ j → j < 11 + f → r.2 26 j = lN (dr g m d j)) ∧ ∀ j, ¬ (10 - f ≤ j ∧ j < 11 + f) → r.2 26 j = σ.2 26 j) := by
    refine lpc_cnt (a := 10 - f) (b := 11 + f) (fun k s => s.1 = nI k ∧ Lf [26] σ s.2 ∧ (∀ j, 10 - f ≤ j → j < k → s.2.2 26 j = lN (dr g m d j)) ∧ ∀ j, ¬ (10 - f ≤ j ∧ j < k) → s.2.2 26 j = σ.2 26 j) _ (by omega) ?_ ?_ ⟨rfl, Lf.rf, fun j h1 h2 => by omega, fun _ _ => rfl⟩
    · rintro k ⟨x, τ⟩ hk0 hk ⟨e1, e2, e3, e4⟩
      dsimp only at e1 e2 e3 e4
      subst e1
      have h25 : ∀ i, i < 21 → τ.2 25 i = lN (16 * g i) := fun i hi => by rw [e2.2 25 (by decide)]; exact (hg i hi).1
      have v1 : fX10_longAt 25 (nI k + 1) τ = some (if k < 20 then lN (16 * g (k + 1)) else 0) := by
        rw [nI_1, p_longAt (n := 21) rfl (by omega) (by omega)]
        by_cases q : k < 20
        · rw [if_pos q, if_pos (by omega), h25 _ (by omega)]
        · rw [if_neg q, if_neg (by omega)]
      have v2 : fX10_longAt 25 (nI k) τ = some (lN (16 * g k)) := by
        rw [p_longAt (n := 21) rfl (by omega) (by omega), if_pos (by omega), h25 _ (by omega)]
      have v3 : fX10_longAt 25 (nI k - 1) τ = some (if 0 < k then lN (16 * g (k - 1)) else 0) := by
        by_cases q : 0 < k
        · rw [if_pos q, show nI k - (1 : Int32) = nI (k - 1) from pk_sub (b := 1) (by omega), p_longAt (n := 21) rfl (by omega) (by omega), if_pos (by omega), h25 _ (by omega)]
        · have : k = 0 := by omega
          subst this
          rw [if_neg q, p_longAtN (n := 21) rfl (by decide)]
      have w1 : (if k < 20 then lN (16 * g (k + 1)) else 0) / (16 : Int64) * (nI m).toInt64 = lN (if k < 20 then g (k + 1) * m else 0) := by
        by_cases q : k < 20
        · rw [if_pos q, if_pos q, div16 (hg _ (by omega)).2, lmul _ _ (by omega)]
        · rw [if_neg q, if_neg q, show ((0 : Int64) / 16) = lN 0 from by decide, lmul _ _ (by omega), Nat.zero_mul]
      have w3 : (if 0 < k then lN (16 * g (k - 1)) else 0) / (16 : Int64) * (nI d).toInt64 = lN (if 0 < k then g (k - 1) * d else 0) := by
        by_cases q : 0 < k
        · rw [if_pos q, if_pos q, div16 (hg _ (by omega)).2, lmul _ _ (by omega)]
        · rw [if_neg q, if_neg q, show ((0 : Int64) / 16) = lN 0 from by decide, lmul _ _ (by omega), Nat.zero_mul]
      have eb : fX8_drift_b18 (nI m) (nI d) (nI f) (nI (16 - m - d)) (nI k) τ = some (.inl (nI k + 1, sL τ 26 k (lN (dr g m d k)))) := by
        unfold fX8_drift_b18
        rw [show (10 : Int32) + nI f = nI (10 + f) from nI_add 10 f, if_neg (fun q => by have := (nI_ltI (by omega) (by omega)).mp q; omega), if_neg (show ¬ (21 : Int32) ≤ nI k from nI_ge (b := 21) (by omega) (by omega)), v1, ob_s, v2, ob_s, v3, ob_s, inb_nI (show k < 21 by omega) (by omega), if_pos rfl, nI_clamp (by omega), w1, w3, div16 (hg _ (by omega)).2, lmul _ _ (by omega), lN_add, lN_add]
        rfl
      refine ⟨_, eb, nI_1 k, e2.trans (Lf_sL (by simp)), fun j h1 h2 => ?_, fun j hj => ?_⟩
      · show (sL τ 26 k _).2 26 j = _
        rw [g_sL, if_pos rfl]
        by_cases q : j = k
        · rw [if_pos q, q]
        · rw [if_neg q]; exact e3 j h1 (by omega)
      · show (sL τ 26 k _).2 26 j = _
        rw [g_sL, if_pos rfl, if_neg (by omega)]
        exact e4 j (by omega)
    · rintro ⟨x, τ⟩ ⟨e1, e2, e3, e4⟩
      dsimp only at e1 e2 e3 e4
      subst e1
      refine ⟨τ, ?_, e2, e3, e4⟩
      show fX8_drift_b18 (nI m) (nI d) (nI f) (nI (16 - m - d)) (nI (11 + f)) τ = _
      unfold fX8_drift_b18
      rw [show (10 : Int32) + nI f = nI (10 + f) from nI_add 10 f, if_pos (nI_lt (by omega) (by omega))]
  obtain ⟨r, e, l, h1, h2⟩ := key
  rw [e, ob_s]
  have hc : ∀ i, i < 21 → (rL r 25 (va_cpy (r.2 26) (r.2 25) 0 0 21)).2 25 i = r.2 26 i := fun i hi => by
    rw [g_rL, pk_cpy_in (by omega) (by omega)]; exact congrArg (r.2 26) (by omega)
  refine ⟨_, rfl, (l.mono (by decide)).trans (Lf_rL (by decide)), fun i hi a b => ?_, fun i hi a => ?_, fun i hi a => ?_⟩
  · rw [hc i hi]; exact h1 i (by omega) (by omega)
  · rw [hc i hi]; exact h2 i (by omega)
  · rw [g_rLo _ _ (by decide)]; exact h2 i (by omega)
theorem p_gather {σ : St} {h : Nat} {g : Nat → Nat} (hh : h ≤ 16) (hg : ∀ i, i < 21 → σ.2 25 i = lN (16 * g i) ∧ 16 * g i < 2 ^ 63) : ∃ σ', fX8_gather (nI h) σ = some σ' ∧ Lf [25] σ σ' ∧ ∀ i, i < 21 → σ'.2 25 i = lN (g i * (16 - h) + if i = 10 then 281474976710656 * h else 0) := by
  unfold fX8_gather
  have key : ∃ r, lpc (fun s => fX8_gather_b2 (nI h) s.1 s.2) (0, σ) = some r ∧ (Lf [25] σ r ∧ ∀ j, j < 21 → r.2 25 j = lN (g j * (16 - h))) := by
    refine lpc_cnt (a := 0) (b := 21) (fun k s => s.1 = nI k ∧ Lf [25] σ s.2 ∧ (∀ j, j < k → s.2.2 25 j = lN (g j * (16 - h))) ∧ ∀ j, k ≤ j → s.2.2 25 j = σ.2 25 j) _ (by omega) ?_ ?_ ⟨rfl, Lf.rf, fun j h => absurd h (Nat.not_lt_zero _), fun _ _ => rfl⟩
    · rintro k ⟨x, τ⟩ _ hk ⟨e1, e2, e3, e4⟩
      dsimp only at e1 e2 e3 e4
      subst e1
      have eb : fX8_gather_b2 (nI h) (nI k) τ = some (.inl (nI k + 1, sL τ 25 k (lN (g k * (16 - h))))) := by
        unfold fX8_gather_b2
        rw [if_neg (show ¬ (21 : Int32) ≤ nI k from nI_ge (b := 21) (by omega) (by omega)), inb_nI (show k < 21 by omega) (by omega), if_pos rfl, nI_clamp (by omega), e4 k (Nat.le_refl _), (hg k hk).1, div16 (hg k hk).2, show (16 : Int32) - nI h = nI (16 - h) from pk_sub (a := 16) hh, lmul _ _ (by omega)]
      refine ⟨_, eb, nI_1 k, e2.trans (Lf_sL (by simp)), fun j h2 => ?_, fun j hj => ?_⟩
      · show (sL τ 25 k _).2 25 j = _
        rw [g_sL, if_pos rfl]
        by_cases q : j = k
        · rw [if_pos q, q]
        · rw [if_neg q]; exact e3 j (by omega)
      · show (sL τ 25 k _).2 25 j = _
        rw [g_sL, if_pos rfl, if_neg (by omega)]
        exact e4 j (by omega)
    · rintro ⟨x, τ⟩ ⟨e1, e2, e3, e4⟩
      dsimp only at e1 e2 e3 e4
      subst e1
      exact ⟨τ, rfl, e2, e3⟩
  obtain ⟨r, e, l, h1⟩ := key
  rw [e, ob_s]
  have ea : fX10_addTo 25 (10 : Int32) ((281474976710656 : Int64) * (nI h).toInt64) r = some (sL r 25 10 (lN (g 10 * (16 - h) + 281474976710656 * h))) := by
    show some (sL r 25 10 (r.2 25 10 + (281474976710656 : Int64) * (nI h).toInt64)) = _
    rw [h1 10 (by omega), show (281474976710656 : Int64) * (nI h).toInt64 = lN (281474976710656 * h) from lmul 281474976710656 h (by omega), lN_add]
  rw [ea, ob_s]
  refine ⟨_, rfl, l.trans (Lf_sL (by simp)), fun i hi => ?_⟩
  rw [g_sL, if_pos rfl]
  by_cases q : i = 10
  · rw [if_pos q, if_pos q, q]
  · rw [if_neg q, if_neg q, h1 i hi, Nat.add_zero]
theorem bit_w : ∀ W, W < 64 → ∀ c, c < 6 → (((nI W >>> (nI c &&& 31)) &&& (1 : Int32)) = 1 ↔ W / 2 ^ c % 2 = 1) := by
  intro W hW c hc
  have e : (nI c &&& 31) = nI c := by
    rcases c with _ | _ | _ | _ | _ | _ | c
    all_goals first | rfl | omega
  have e2 : nI W >>> nI c = nI (W / 2 ^ c) := pk_shrN (by omega) _ _ (by
    rcases c with _ | _ | _ | _ | _ | _ | c
    all_goals first | rfl | omega)
  have hd : W / 2 ^ c ≤ W := Nat.div_le_self _ _
  rw [e, e2, pk_andN (m := 1) (by omega) 1 (by decide)]
  exact nI_eq (b := 1) (by omega) (by omega)
theorem pw13 {k : Nat} (h : k + 1 ≤ 13) : (16 : Nat) ^ (13 - k) = 16 * 16 ^ (13 - (k + 1)) := by
  rw [show 13 - k = (13 - (k + 1)) + 1 by omega, Nat.pow_succ, Nat.mul_comm]
theorem pw13' {k : Nat} (h : k ≤ 13) : (16 : Nat) ^ (13 - k) * 16 ^ k = 2 ^ 52 := by
  rw [← Nat.pow_add, Nat.sub_add_cancel h]
theorem sl_52 {q : SP} (hq : SPok q) {b : Nat} (hb : b ≤ (spB q).length) (hs : sc q b ≤ 13) (i : Nat) : 16 ^ (13 - sc q b) * sl q b i ≤ 2 ^ 52 := by
  rw [← pw13' hs]
  exact Nat.mul_le_mul_left _ (sl_le hq b hb i)
theorem sc_mono {q : SP} {b e : Nat} (h : b ≤ e) : sc q b ≤ sc q e := by
  induction e with
  | zero => have : b = 0 := by omega
            rw [this]; exact Nat.le_refl _
  | succ e ih =>
    by_cases q' : b = e + 1
    · rw [q']; exact Nat.le_refl _
    · have := ih (by omega)
      rw [sc_s]; omega
theorem p_mis {o : Nat} {σ : St} {k : Nat} (ho : o = 9 ∨ o = 12) (hk : k < 3) : fX3_missedOf o (nI k) σ = some (σ.1 (o + 1) k) := by
  unfold fX3_missedOf
  rcases ho with rfl | rfl
  · rw [if_pos (show isO 9 = true from rfl), p_itemAt (r := 9 + 1) (n := 3) rfl (by omega) k (by omega), if_pos hk, rv_w (by decide) (by decide), ob_s]
  · rw [if_pos (show isO 12 = true from rfl), p_itemAt (r := 12 + 1) (n := 3) rfl (by omega) k (by omega), if_pos hk, rv_w (by decide) (by decide), ob_s]
theorem p_dou {o : Nat} {σ : St} {k : Nat} (ho : o = 9 ∨ o = 12) (hk : k < 3) : fX3_doubledOf o (nI k) σ = some (σ.1 (o + 2) k) := by
  unfold fX3_doubledOf
  rcases ho with rfl | rfl
  · rw [if_pos (show isO 9 = true from rfl), p_itemAt (r := 9 + 2) (n := 3) rfl (by omega) k (by omega), if_pos hk, rv_w (by decide) (by decide), ob_s]
  · rw [if_pos (show isO 12 = true from rfl), p_itemAt (r := 12 + 2) (n := 3) rfl (by omega) k (by omega), if_pos hk, rv_w (by decide) (by decide), ob_s]
theorem isO_o {o : Nat} (ho : o = 9 ∨ o = 12) : isO o = true := by rcases ho with rfl | rfl <;> rfl
theorem p_walk {σ : St} {q : SP} {o e : Nat} (ho : o = 9 ∨ o = 12) (hq : SPok q) (hs : PS (spB q) σ) (hod : ODr q.2.1 q.2.2.1 (σ.1 (o + 1)) (σ.1 (o + 2))) (he : e ≤ (spB q).length) (hc : sc q e ≤ 13) : ∃ σ', fX8_walk o (nI e) (nI (spW q)) (nI (spH q)) σ = some σ' ∧ Lf [25, 26] σ σ' ∧ ∀ i, i < 21 → σ'.2 25 i = lN (16 ^ (13 - sc q e) * sl q e i) := by
  have hl : (spB q).length ≤ 99 := (BG_bsOf q.1).1.1
  have hn : nlo (spB q) ≤ 10 := (BG_bsOf q.1).1.2.1
  have hcu : ncu (spB q) ≤ 6 := (BG_bsOf q.1).1.2.2
  unfold fX8_walk
  rw [if_pos (isO_o ho)]
  obtain ⟨σ1, e1, a1, l1⟩ := p_fillL (r := 25) (n := 21) (v := 0) (σ := σ) rfl (by omega)
  obtain ⟨σ2, e2, a2, l2⟩ := p_fillL (r := 26) (n := 21) (v := 0) (σ := σ1) rfl (by omega)
  rw [e1, ob_s, e2, ob_s]
  have e3 : fX10_addTo 25 (10 : Int32) (4503599627370496 : Int64) σ2 = some (sL σ2 25 10 (lN (2 ^ 52))) := by
    show some (sL σ2 25 10 (σ2.2 25 10 + (4503599627370496 : Int64))) = _
    rw [l2.2 25 (by decide), a1 10 (by omega)]
    rfl
  rw [e3, ob_s]
  have key : ∃ r, lpc (fun s => fX8_walk_b34 o (nI e) (nI (spW q)) (nI (spH q)) s.1 s.2.1 s.2.2) (0, 0, sL σ2 25 10 (lN (2 ^ 52))) = some r ∧ (Lf [25, 26] σ r ∧ ∀ i, i < 21 → r.2 25 i = lN (16 ^ (13 - sc q e) * sl q e i)) := by
    refine lpc_cnt (a := 0) (b := e) (fun b s => s.1 = nI (nlo ((spB q).take b)) ∧ s.2.1 = nI b ∧ Lf [25, 26] σ s.2.2 ∧ (∀ i, i < 21 → s.2.2.2 25 i = lN (16 ^ (13 - sc q b) * sl q b i)) ∧ ∀ i, i < 21 → ¬ (10 ≤ i + nlo ((spB q).take b) ∧ i ≤ 10 + nlo ((spB q).take b)) → s.2.2.2 26 i = 0) _ (by omega) ?_ ?_ ⟨rfl, rfl, ((l1.mono (by decide)).trans (l2.mono (by decide))).trans (Lf_sL (by decide)), fun i hi => ?_, fun i hi _ => ?_⟩
    · rintro b ⟨x, y, τ⟩ _ hb ⟨f1, f2, f3, f4, f5⟩
      dsimp only at f1 f2 f3 f4 f5
      subst f1
      subst f2
      have hps : PS (spB q) τ := hs.lf f3.1
      have hbl : b < (spB q).length := by omega
      show ∃ s', fX8_walk_b34 o (nI e) (nI (spW q)) (nI (spH q)) (nI (nlo ((spB q).take b))) (nI b) τ = some (.inl s') ∧ _
      unfold fX8_walk_b34
      rw [if_pos (isO_o ho), if_neg (nI_ge hb (by omega)), p_isLoose hps hl hbl, ob_s]
      have hsc : sc q (b + 1) ≤ 13 := Nat.le_trans (sc_mono (by omega)) hc
      have hscs := sc_s q b
      have h52 := sl_52 hq (b := b) (by omega) (Nat.le_trans (sc_mono (by omega)) hc)
      by_cases k3 : kdB (spB q) b < 3
      · rw [if_pos k3] at hscs
        rw [if_pos k3, if_neg one_ne, p_kindOf hps hl hbl, ob_s, p_min, ob_s]
        obtain ⟨k, hk, ek⟩ := kd_l hbl k3
        have hlo := lo_s hbl
        rw [if_pos k3] at hlo
        have hlo2 := lo_le (spB q) (b + 1)
        have em : (if nI (nlo ((spB q).take b)) + 1 < (10 : Int32) then nI (nlo ((spB q).take b)) + 1 else 10) = nI (nlo ((spB q).take (b + 1))) := by
          rw [nI_1, ← hlo]
          by_cases q' : nlo ((spB q).take (b + 1)) < 10
          · rw [if_pos (show nI _ < (10 : Int32) from nI_lt (b := 10) q' (by omega))]
          · have : nlo ((spB q).take (b + 1)) = 10 := by omega
            rw [this]; rfl
        rw [em, ek, p_mis ho hk, ob_s, p_dou ho hk, ob_s, f3.1, (hod k hk).1, (hod k hk).2]
        obtain ⟨τ', d1, d2, d3, d4, d5⟩ := p_drift (σ := τ) (m := q.2.1 k) (d := q.2.2.1 k) (f := nlo ((spB q).take (b + 1))) (g := fun i => 16 ^ (13 - sc q (b + 1)) * sl q b i) (hq.1 k hk) (by omega) (fun i hi => by
          have h1 := h52 i
          rw [pw13 (k := sc q b) (by omega), ← hscs, Nat.mul_assoc] at h1
          refine ⟨?_, by omega⟩
          rw [f4 i hi, pw13 (k := sc q b) (by omega), ← hscs, Nat.mul_assoc])
        rw [d1, ob_s]
        unfold fX8_walk_j131
        rw [if_pos (isO_o ho)]
        have hM : spM q b = q.2.1 k := by unfold spM; rw [ek, nI_clamp (by omega)]
        have hD : spD q b = q.2.2.1 k := by unfold spD; rw [ek, nI_clamp (by omega)]
        refine ⟨_, rfl, rfl, nI_1 b, f3.trans d2, fun i hi => ?_, fun i hi hw => ?_⟩
        · show τ'.2 25 i = _
          by_cases w : 10 ≤ i + nlo ((spB q).take (b + 1)) ∧ i ≤ 10 + nlo ((spB q).take (b + 1))
          · rw [d3 i hi w.1 w.2, sl_s, if_pos k3, hM, hD]
            congr 1
            unfold dr
            rw [Nat.mul_add, Nat.mul_add]
            congr 1
            · congr 1
              · split
                · rw [Nat.mul_assoc]
                · rfl
              · rw [Nat.mul_assoc]
            · split
              · rw [Nat.mul_assoc]
              · rfl
          · rw [d4 i hi w, f5 i hi (by omega), sl_out (b + 1) (by omega) i (by omega), Nat.mul_zero]; rfl
        · show τ'.2 26 i = 0
          rw [d5 i hi hw, f5 i hi (by omega)]
      · rw [if_neg k3] at hscs
        have hlo := lo_s hbl
        rw [if_neg k3, Nat.add_zero] at hlo
        rw [if_neg k3, if_pos rfl, p_cueIn hps hl hbl, ob_s]
        have nog : ¬ gW q b → (∃ s', fX8_walk_j131 o (nI e) (nI (spW q)) (nI (spH q)) (nI (nlo ((spB q).take b))) (nI b) τ = some (.inl s') ∧ s'.1 = nI (nlo ((spB q).take (b + 1))) ∧ s'.2.1 = nI (b + 1) ∧ Lf [25, 26] σ s'.2.2 ∧ (∀ i, i < 21 → s'.2.2.2 25 i = lN (16 ^ (13 - sc q (b + 1)) * sl q (b + 1) i)) ∧ ∀ i, i < 21 → ¬ (10 ≤ i + nlo ((spB q).take (b + 1)) ∧ i ≤ 10 + nlo ((spB q).take (b + 1))) → s'.2.2.2 26 i = 0) := by
          intro ng
          rw [if_neg ng, Nat.add_zero] at hscs
          unfold fX8_walk_j131
          rw [if_pos (isO_o ho), hlo]
          refine ⟨_, rfl, rfl, nI_1 b, f3, fun i hi => ?_, f5⟩
          show τ.2 25 i = _
          rw [hscs, sl_s, if_neg k3, if_neg ng]; exact f4 i hi
        unfold cuB
        by_cases k4 : kdB (spB q) b = 4
        · have hcl : ncu ((spB q).take b) < 6 := by
            have h1 := cu_s hbl
            rw [if_pos k4] at h1
            have h2 := cu_le (spB q) (b + 1)
            omega
          rw [if_pos k4, if_neg (nI_nm1 (by omega)), ob_s]
          by_cases hw : spW q / 2 ^ ncu ((spB q).take b) % 2 = 1
          · have gw : gW q b := ⟨k4, hw⟩
            rw [if_pos gw] at hscs
            rw [if_pos ((bit_w _ hq.2.2 _ hcl).mpr hw)]
            obtain ⟨τ', d1, d2, d3⟩ := p_gather (σ := τ) (h := spH q) (g := fun i => 16 ^ (13 - sc q (b + 1)) * sl q b i) hq.2.1 (fun i hi => by
              have h1 := h52 i
              rw [pw13 (k := sc q b) (by omega), ← hscs, Nat.mul_assoc] at h1
              refine ⟨?_, by omega⟩
              rw [f4 i hi, pw13 (k := sc q b) (by omega), ← hscs, Nat.mul_assoc])
            rw [d1, ob_s]
            unfold fX8_walk_j131
            rw [if_pos (isO_o ho), hlo]
            refine ⟨_, rfl, rfl, nI_1 b, f3.trans (d2.mono (by decide)), fun i hi => ?_, fun i hi hw' => ?_⟩
            · show τ'.2 25 i = _
              rw [d3 i hi, sl_s, if_neg k3, if_pos gw]
              congr 1
              by_cases e10 : i = 10
              · rw [if_pos e10, if_pos e10, hmix (sl_le hq b (by omega) i) hq.2.1, Nat.mul_add, Nat.mul_assoc]
                congr 1
                have h3 := pw13' hsc
                rw [hscs, Nat.pow_succ, ← Nat.mul_assoc] at h3
                rw [hscs, Nat.mul_left_comm, Nat.mul_comm _ (spH q)]
                congr 1
                omega
              · rw [if_neg e10, if_neg e10, Nat.add_zero, Nat.mul_assoc, Nat.mul_comm (sl q b i)]
            · show τ'.2 26 i = 0
              rw [d2.2 26 (by decide)]; exact f5 i hi hw'
          · rw [if_neg (fun z => hw ((bit_w _ hq.2.2 _ hcl).mp z))]
            exact nog (fun g => hw g.2)
        · rw [if_neg k4, if_pos rfl]
          exact nog (fun g => k4 g.1)
    · rintro ⟨x, y, τ⟩ ⟨f1, f2, f3, f4, f5⟩
      dsimp only at f1 f2 f3 f4 f5
      subst f1
      subst f2
      refine ⟨τ, ?_, f3, f4⟩
      show fX8_walk_b34 o (nI e) (nI (spW q)) (nI (spH q)) (nI (nlo ((spB q).take e))) (nI e) τ = _
      unfold fX8_walk_b34
      rw [if_pos (isO_o ho), if_pos (Int32.le_refl _)]
    · show (sL σ2 25 10 (lN (2 ^ 52))).2 25 i = lN (16 ^ (13 - 0) * sl q 0 i)
      rw [g_sL, if_pos rfl]
      unfold sl
      by_cases q' : i = 10
      · rw [if_pos q', if_pos q']
      · rw [if_neg q', if_neg q', l2.2 25 (by decide), a1 i hi]; rfl
    · show (sL σ2 25 10 (lN (2 ^ 52))).2 26 i = 0
      rw [g_sL, if_neg (by decide)]; exact a2 i hi
  obtain ⟨r, er, l, h⟩ := key
  rw [er, ob_s]
  exact ⟨r, rfl, l, h⟩
