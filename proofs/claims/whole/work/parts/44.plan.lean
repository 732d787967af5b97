/-! looks: the spec -/
theorem zI_and (a b : Nat) : nI a &&& nI b = nI (a &&& b) := by
  apply Int32.toBitVec_inj.1
  show BitVec.ofNat 32 a &&& BitVec.ofNat 32 b = BitVec.ofNat 32 (a &&& b)
  apply BitVec.eq_of_getLsbD_eq
  intro i hi
  simp [hi]
theorem zI_or (a b : Nat) : nI a ||| nI b = nI (a ||| b) := by
  apply Int32.toBitVec_inj.1
  show BitVec.ofNat 32 a ||| BitVec.ofNat 32 b = BitVec.ofNat 32 (a ||| b)
  apply BitVec.eq_of_getLsbD_eq
  intro i hi
  simp [hi]
theorem zI_xor (a b : Nat) : nI a ^^^ nI b = nI (a ^^^ b) := by
  apply Int32.toBitVec_inj.1
  show BitVec.ofNat 32 a ^^^ BitVec.ofNat 32 b = BitVec.ofNat 32 (a ^^^ b)
  apply BitVec.eq_of_getLsbD_eq
  intro i hi
  simp [hi]
theorem tb_set (n j i : Nat) : (n ||| 2 ^ j).testBit i = (n.testBit i || decide (i = j)) := by
  rw [Nat.testBit_or]
  by_cases h : j = i
  · subst h; simp
  · have h2 : ¬ i = j := fun e => h e.symm
    simp [Nat.testBit_two_pow_of_ne h, h2]
theorem tb_shr : ∀ x, x < 256 → ∀ p, p < 8 → (((nI x >>> (nI p &&& 31)) &&& (1 : Int32)) = if x.testBit p then 1 else 0) := by decide +kernel
theorem tb_sh1 : ∀ n, n < 9 → (1 : Int32) <<< (nI n &&& 31) = nI (2 ^ n) := by decide +kernel
theorem tb_lt {x p n : Nat} (h : x < 2 ^ n) (hp : x.testBit p = true) : p < n := by
  have h1 := Nat.ge_two_pow_of_testBit hp
  exact (Nat.pow_lt_pow_iff_right (by omega)).mp (Nat.lt_of_le_of_lt h1 h)
/-- the bits of one that the other has not -/
def wo (S D : Nat) : Nat := S &&& (D ^^^ (2 ^ 32 - 1))
theorem wo_I (S D : Nat) : nI S &&& (nI D ^^^ (-1 : Int32)) = nI (wo S D) := by
  rw [show (-1 : Int32) = nI (2 ^ 32 - 1) from by decide, zI_xor, zI_and]; rfl
theorem wo_tb (S D : Nat) {p : Nat} (hp : p < 32) : (wo S D).testBit p = (S.testBit p && !D.testBit p) := by
  unfold wo
  rw [Nat.testBit_and, Nat.testBit_xor, Nat.testBit_two_pow_sub_one, decide_eq_true hp, Bool.xor_true]
theorem wo_lt {S D : Nat} (h : S < 256) : wo S D < 256 := Nat.lt_of_le_of_lt Nat.and_le_left h
abbrev brL (l : List (Nat × Nat)) (p : Nat) : Nat := (l.getD p (0, 0)).1
abbrev wrL (l : List (Nat × Nat)) (p : Nat) : Nat := (l.getD p (0, 0)).2
def OrL (l : List (Nat × Nat)) (o : Nat → Nat) : Prop := (∀ i, i < l.length → o i < l.length) ∧ (∀ i j, i < j → j < l.length → sooner l (o i) (o j)) ∧ ∀ p, p < l.length → ∃ i, i < l.length ∧ o i = p
theorem sooner_a {l : List (Nat × Nat)} {p q : Nat} (h : sooner l p q) (h' : sooner l q p) : False := by
  unfold sooner at h h'; omega
theorem OrL.inj {l : List (Nat × Nat)} {o : Nat → Nat} (h : OrL l o) {i j : Nat} (hi : i < l.length) (hj : j < l.length) (e : o i = o j) : i = j := by
  by_cases q : i < j
  · have := h.2.1 i j q hj
    rw [e] at this; exact (sooner_a this this).elim
  · by_cases q2 : j < i
    · have := h.2.1 j i q2 hi
      rw [e] at this; exact (sooner_a this this).elim
    · omega
theorem OrL.u {l : List (Nat × Nat)} {o o' : Nat → Nat} (h : OrL l o) (h' : OrL l o') : ∀ i, i < l.length → o i = o' i := by
  intro i
  induction i using Nat.strongRecOn with
  | ind i ih =>
    intro hi
    obtain ⟨k, hk, ek⟩ := h'.2.2 (o i) (h.1 i hi)
    obtain ⟨m, hm, em⟩ := h.2.2 (o' i) (h'.1 i hi)
    by_cases q : k < i
    · have := ih k q hk
      have := h.inj hk hi (this.trans ek)
      omega
    · by_cases q2 : k = i
      · rw [← ek, q2]
      · by_cases q3 : m < i
        · have e1 := ih m q3 hm
          have := h'.inj hm hi (e1.symm.trans em)
          omega
        · by_cases q4 : m = i
          · rw [← em, q4]
          · have s1 := h.2.1 i m (by omega) hm
            have s2 := h'.2.1 i k (by omega) hk
            rw [em, ← ek] at s1
            exact (sooner_a s1 s2).elim
theorem ORr.or {l : List (Nat × Nat)} {f : Nat → Int32} (h : ORr l f) : ∃ o, OrL l o ∧ ∀ i, i < l.length → f i = nI (o i) := by
  obtain ⟨o, h1, h2, h3⟩ := h
  exact ⟨o, ⟨fun i hi => (h1 i hi).2, h2, h3⟩, fun i hi => (h1 i hi).1⟩
theorem orL_ex : ∀ (n : Nat) (l : List (Nat × Nat)), l.length = n → ∃ f, ORr l f := by
  intro n
  induction n with
  | zero =>
    intro l hl
    exact ⟨fun _ => 0, fun i => i, fun i hi => by omega, fun i j _ hj => by omega, fun p hp => by omega⟩
  | succ n ih =>
    intro l hl
    have hne : l ≠ [] := fun e => by rw [e] at hl; cases hl
    obtain ⟨l', x, rfl⟩ : ∃ l' x, l = l' ++ [x] := ⟨l.dropLast, l.getLast hne, (List.dropLast_concat_getLast hne).symm⟩
    rw [List.length_append] at hl
    have hl' : l'.length = n := by simp at hl; exact hl
    obtain ⟨f, hf⟩ := ih l' hl'
    obtain ⟨o, ho, -⟩ := hf.or
    obtain ⟨i, hi, hmin⟩ := pk_least (fun i => i ≤ l'.length ∧ ∀ j, i ≤ j → j < l'.length → x.1 < (l'.getD (o j) (0, 0)).1) ⟨l'.length, Nat.le_refl _, fun j h1 h2 => by omega⟩
    refine ⟨fun j => nI (if j < i then o j else if j = i then l'.length else o (j - 1)), ORr_ins ho.1 ho.2.1 ho.2.2 hi.1 (fun h0 => ?_) hi.2 (fun j _ => rfl)⟩
    by_cases q : (l'.getD (o (i - 1)) (0, 0)).1 ≤ x.1
    · exact q
    · exfalso
      refine hmin (i - 1) (by omega) ⟨by have := hi.1; omega, fun j h1 h2 => ?_⟩
      by_cases e : j = i - 1
      · rw [e]; omega
      · exact hi.2 j (by omega) h2
noncomputable def oL (l : List (Nat × Nat)) : Nat → Nat := Classical.choose (Classical.choose_spec (orL_ex l.length l rfl)).or
theorem oL_s (l : List (Nat × Nat)) : OrL l (oL l) := (Classical.choose_spec (Classical.choose_spec (orL_ex l.length l rfl)).or).1
theorem oL_f {l : List (Nat × Nat)} {f : Nat → Int32} (h : ORr l f) {i : Nat} (hi : i < l.length) : f i = nI (oL l i) := by
  obtain ⟨o, ho, hf⟩ := h.or
  rw [hf i hi, ho.u (oL_s l) i hi]
/-- when one is free again, before the i-th in order -/
noncomputable def frL (l : List (Nat × Nat)) (S : Nat) : Nat → Nat
  | 0 => 0
  | i + 1 => if S.testBit (oL l i) then max (frL l S i) (brL l (oL l i) - 3) + 1 else frL l S i
noncomputable def tmL (l : List (Nat × Nat)) (S i : Nat) : Nat := max (frL l S i) (brL l (oL l i) - 3)
theorem frL_s (l : List (Nat × Nat)) (S i : Nat) : frL l S (i + 1) = if S.testBit (oL l i) then tmL l S i + 1 else frL l S i := rfl
def feas (l : List (Nat × Nat)) (S k : Nat) : Prop := ∀ i, i < k → S.testBit (oL l i) = true → tmL l S i < brL l (oL l i)
theorem fr_mono {l : List (Nat × Nat)} {S i j : Nat} (h : i ≤ j) : frL l S i ≤ frL l S j := by
  induction j with
  | zero => have : i = 0 := by omega
            rw [this]; exact Nat.le_refl _
  | succ j ih =>
    by_cases q : i = j + 1
    · rw [q]; exact Nat.le_refl _
    · have h1 := ih (by omega)
      rw [frL_s]
      split
      · unfold tmL; omega
      · exact h1
theorem tm_lt {l : List (Nat × Nat)} {S i j : Nat} (h : i < j) (hi : S.testBit (oL l i) = true) : tmL l S i < tmL l S j := by
  have h1 := fr_mono (l := l) (S := S) (i := i + 1) (j := j) h
  rw [frL_s, if_pos hi] at h1
  have h2 : frL l S j ≤ tmL l S j := by unfold tmL; omega
  omega
theorem fr_le {l : List (Nat × Nat)} {S t : Nat} : ∀ j, (∀ i, i < j → S.testBit (oL l i) = true → tmL l S i < t) → frL l S j ≤ t := by
  intro j
  induction j with
  | zero => intro _; exact Nat.zero_le _
  | succ j ih =>
    intro h
    rw [frL_s]
    split
    · rename_i q
      exact h j (by omega) q
    · exact ih (fun i hi => h i (by omega))
noncomputable def suL (l : List (Nat × Nat)) (S : Nat) : Nat := sm (fun p => if S.testBit p then wrL l p else 0) l.length
theorem sm_s (f : Nat → Nat) (n : Nat) : sm f (n + 1) = sm f n + f n := rfl
theorem sm_cg {f g : Nat → Nat} : ∀ n, (∀ i, i < n → f i = g i) → sm f n = sm g n := by
  intro n
  induction n with
  | zero => intro _; rfl
  | succ n ih => intro h; rw [sm_s, sm_s, ih (fun i hi => h i (by omega)), h n (by omega)]
theorem sm_0 : ∀ n, sm (fun _ => 0) n = 0 := by
  intro n
  induction n with
  | zero => rfl
  | succ n ih => rw [sm_s, ih]
theorem sm_add (f g : Nat → Nat) : ∀ n, sm (fun i => f i + g i) n = sm f n + sm g n := by
  intro n
  induction n with
  | zero => rfl
  | succ n ih => rw [sm_s, sm_s, sm_s, ih]; omega
theorem sm_swap (F : Nat → Nat → Nat) (n : Nat) : ∀ m, sm (fun i => sm (fun p => F i p) n) m = sm (fun p => sm (fun i => F i p) m) n := by
  intro m
  induction m with
  | zero => exact (sm_0 n).symm
  | succ m ih =>
    rw [sm_s, ih, ← sm_add]
    exact sm_cg n (fun i _ => rfl)
theorem sm_one {P : Nat → Prop} [DecidablePred P] {c k : Nat} : ∀ n, k < n → P k → (∀ j, j < n → P j → j = k) → sm (fun j => if P j then c else 0) n = c := by
  intro n
  induction n with
  | zero => intro h; omega
  | succ n ih =>
    intro hk hp hu
    rw [sm_s]
    by_cases q : k = n
    · subst q
      rw [if_pos hp, sm_cg (g := fun _ => 0) k (fun i hi => if_neg (fun z => absurd (hu i (by omega) z) (by omega))), sm_0]; omega
    · rw [ih (by omega) hp (fun j hj => hu j (by omega)), if_neg (fun z => q (hu n (by omega) z).symm), Nat.add_zero]
/-- a sum in another order -/
theorem sm_or {l : List (Nat × Nat)} (g : Nat → Nat) : sm (fun i => g (oL l i)) l.length = sm g l.length := by
  have ho := oL_s l
  have h1 : sm (fun i => g (oL l i)) l.length = sm (fun i => sm (fun p => if oL l i = p then g p else 0) l.length) l.length := by
    refine sm_cg _ (fun i hi => ?_)
    have := sm_one (P := fun p => oL l i = p) (c := g (oL l i)) (k := oL l i) l.length (ho.1 i hi) rfl (fun j _ z => z.symm)
    rw [← this]
    refine sm_cg _ (fun p _ => ?_)
    by_cases q : oL l i = p
    · rw [if_pos q, if_pos q, q]
    · rw [if_neg q, if_neg q]
  rw [h1, sm_swap]
  refine sm_cg _ (fun p hp => ?_)
  obtain ⟨i, hi, e⟩ := ho.2.2 p hp
  exact sm_one (P := fun i => oL l i = p) (k := i) _ hi e (fun j hj z => ho.inj hj hi (z.trans e.symm))
