/-! the component's plan -/
noncomputable def spL (l : List (Nat × Nat)) (S i : Nat) : Nat := sm (fun j => if S.testBit (oL l j) then wrL l (oL l j) else 0) i
def LoC (l : List (Nat × Nat)) (S k : Nat) (f : Nat → Int32) : Prop := ∀ i, i < l.length → f (oL l i) = if i < k ∧ S.testBit (oL l i) = true then nI (tmL l S i) else -1
theorem spL_s (l : List (Nat × Nat)) (S i : Nat) : spL l S (i + 1) = spL l S i + (if S.testBit (oL l i) then wrL l (oL l i) else 0) := rfl
theorem pl_b {A : AbS} (hA : OKA A) {p : Nat} (hp : p < (aP A).length) : 1 ≤ brL (aP A) p ∧ brL (aP A) p ≤ 98 ∧ 1 ≤ wrL (aP A) p ∧ wrL (aP A) p ≤ 99 := hA.2.2.2.2.2.1.2 _ (gD_in hp)
theorem max3 {f b : Nat} (hf : f < 2 ^ 30) (hb : b < 2 ^ 30) : (if nI f < nI b - (3 : Int32) then nI b - (3 : Int32) else nI f) = nI (max f (b - 3)) := by
  rcases sub_cases (m := b) (l := 3) hb (by omega) with ⟨q, e⟩ | ⟨q, e⟩
  · rw [show nI b - (3 : Int32) = nI (b - 3) from e]
    by_cases z : f < b - 3
    · rw [if_pos (nI_lt z (by omega)), show max f (b - 3) = b - 3 by omega]
    · rw [if_neg (fun y => z ((nI_ltI (by omega) (by omega)).mp y)), show max f (b - 3) = f by omega]
  · have e' : nI b - (3 : Int32) < 0 := e
    rw [if_neg (fun y => absurd (Int32.lt_trans y e') (nI_pos (by omega))), show max f (b - 3) = f by omega]
theorem sp_le {A : AbS} (hA : OKA A) {S : Nat} : ∀ i, i ≤ (aP A).length → spL (aP A) S i ≤ 99 * i := by
  intro i
  induction i with
  | zero => intro _; exact Nat.le_refl _
  | succ i ih =>
    intro hi
    have h1 := ih (by omega)
    have h2 := pl_b hA ((oL_s (aP A)).1 i (by omega))
    rw [spL_s]
    split <;> omega
theorem c_plan {A : AbS} {σ : St} {S : Nat} (hA : OKA A) (h : IC A σ) (hS : S < 256) : ∃ σ', Fr [31] σ σ' ∧ ((feas (aP A) S (aP A).length ∧ fX5_plan (nI S) σ = some (nI (suL (aP A) S), σ') ∧ LoC (aP A) S (aP A).length (σ'.1 31)) ∨ (¬ feas (aP A) S (aP A).length ∧ fX5_plan (nI S) σ = some (-1, σ'))) := by
  have hn := hA.2.2.2.2.2.1.1
  have ho := oL_s (aP A)
  obtain ⟨pl, orr⟩ := h.2.2.2.2.2.2.2.1
  obtain ⟨σ1, e1, a1, l1, l2⟩ := p_fillI (r := 31) (n := 8) (v := -1) (σ := σ) rfl (by omega)
  have fr1 : Fr [31] σ σ1 := ⟨fun c hc => l1 c (by simpa using hc), fun c _ => by rw [l2]⟩
  have key : ∃ r, lpc (fun s => fX5_plan_b15 (nI S) s.1 s.2.1 s.2.2.1 s.2.2.2) ((0 : Int32), (0 : Int32), (0 : Int32), σ1) = some r ∧ Sum.elim (fun z => Fr [31] σ z ∧ ¬ feas (aP A) S (aP A).length) (fun z => Fr [31] σ z.2 ∧ feas (aP A) S (aP A).length ∧ z.1 = nI (spL (aP A) S (aP A).length) ∧ LoC (aP A) S (aP A).length (z.2.1 31)) r := by
    refine lpc_cntx (a := 0) (b := (aP A).length) (fun k s => s.2.2.1 = nI k ∧ s.1 = nI (frL (aP A) S k) ∧ s.2.1 = nI (spL (aP A) S k) ∧ Fr [31] σ s.2.2.2 ∧ feas (aP A) S k ∧ LoC (aP A) S k (s.2.2.2.1 31)) _ (Nat.zero_le _) ?_ ?_ ⟨rfl, rfl, rfl, fr1, fun i hi => absurd hi (Nat.not_lt_zero _), fun i hi => ?_⟩
    · rintro k ⟨x1, x2, x3, τ⟩ _ hk ⟨f1, f2, f3, f4, f5, f6⟩
      dsimp only at f1 f2 f3 f4 f5 f6
      subst f1
      subst f2
      subst f3
      have hok := ho.1 k hk
      obtain ⟨b1, b2, b3, b4⟩ := pl_b hA hok
      have hfr : frL (aP A) S k ≤ 98 := fr_le k (fun i hi hb => by
        have h1 := f5 i hi hb
        have h2 := (pl_b hA (ho.1 i (by omega))).2.1
        omega)
      have hsp := sp_le hA (S := S) k (by omega)
      show (∃ s', fX5_plan_b15 (nI S) (nI (frL (aP A) S k)) (nI (spL (aP A) S k)) (nI k) τ = some (.inl s') ∧ _) ∨ (∃ r, fX5_plan_b15 (nI S) (nI (frL (aP A) S k)) (nI (spL (aP A) S k)) (nI k) τ = some (.inr r) ∧ _)
      unfold fX5_plan_b15 fX5_plan_j116
      have e27 : τ.1 27 4 = nI (aP A).length := by rw [f4.1 27 (by decide)]; exact pl.1
      have e30 : τ.1 30 k = nI (oL (aP A) k) := by rw [f4.1 30 (by decide)]; exact oL_f orr hk
      have e28 : τ.1 28 (oL (aP A) k) = nI (brL (aP A) (oL (aP A) k)) := by rw [f4.1 28 (by decide)]; exact (pl.get hok).1
      have e29 : τ.1 29 (oL (aP A) k) = nI (wrL (aP A) (oL (aP A) k)) := by rw [f4.1 29 (by decide)]; exact (pl.get hok).2
      rw [e27, if_neg (nI_ge hk (by omega)), if_neg (show ¬ (8 : Int32) ≤ nI k from nI_ge (b := 8) (by omega) (by omega)), inb_nI (show k < 8 by omega) (by omega), if_pos rfl, nI_clamp (show k < 2 ^ 31 by omega), e30]
      simp only [ltb]
      rw [p_within, ob_s, if_pos (show (0 : Int32) ≤ nI (oL (aP A) k) ∧ nI (oL (aP A) k) ≤ 7 from ⟨nI_pos' (by omega), nI_le (b := 7) (by omega) (by omega)⟩), if_neg one_ne, tb_shr S hS _ (by omega)]
      by_cases q : S.testBit (oL (aP A) k) = true
      · rw [if_pos q, if_neg one_ne, inb_nI (show oL (aP A) k < 8 by omega) (by omega), if_pos rfl, nI_clamp (show oL (aP A) k < 2 ^ 31 by omega), p_max, ob_s, e28, max3 (by omega) (by omega), e29]
        by_cases z : tmL (aP A) S k < brL (aP A) (oL (aP A) k)
        · left
          have ht : tmL (aP A) S k < 2 ^ 31 := by omega
          rw [if_pos (show nI (max (frL (aP A) S k) (brL (aP A) (oL (aP A) k) - 3)) < nI (brL (aP A) (oL (aP A) k)) from nI_lt z (by omega)), nI_1, nI_add, nI_1]
          refine ⟨_, rfl, rfl, ?_, ?_, f4.trans (Fr_sI (by decide)), fun i hi hb => ?_, fun i hi => ?_⟩
          · rw [frL_s, if_pos q]; rfl
          · rw [spL_s, if_pos q]
          · by_cases e : i = k
            · rw [e]; exact z
            · exact f5 i (by omega) hb
          · show (sI τ 31 (oL (aP A) k) _).1 31 (oL (aP A) i) = _
            rw [g_sI, if_pos rfl]
            by_cases e : i = k
            · rw [e, if_pos rfl, if_pos ⟨by omega, q⟩]; rfl
            · rw [if_neg (fun y => e (ho.inj hi hk y)), f6 i hi]
              by_cases e2 : i < k ∧ S.testBit (oL (aP A) i) = true
              · rw [if_pos e2, if_pos ⟨by omega, e2.2⟩]
              · rw [if_neg e2, if_neg (fun y => e2 ⟨by omega, y.2⟩)]
        · right
          have hm : max (frL (aP A) S k) (brL (aP A) (oL (aP A) k) - 3) < 2 ^ 31 := by omega
          rw [if_neg (show ¬ nI (max (frL (aP A) S k) (brL (aP A) (oL (aP A) k) - 3)) < nI (brL (aP A) (oL (aP A) k)) from fun y => z ((nI_ltI hm (by omega)).mp y))]
          exact ⟨_, rfl, f4, fun y => z (y k hk q)⟩
      · left
        rw [if_neg q, if_pos rfl]
        refine ⟨_, rfl, nI_1 k, ?_, ?_, f4, fun i hi hb => ?_, fun i hi => ?_⟩
        · rw [frL_s, if_neg q]
        · rw [spL_s, if_neg q, Nat.add_zero]
        · by_cases e : i = k
          · rw [e] at hb; exact absurd hb q
          · exact f5 i (by omega) hb
        · show τ.1 31 (oL (aP A) i) = _
          rw [f6 i hi]
          by_cases e2 : i < k ∧ S.testBit (oL (aP A) i) = true
          · rw [if_pos e2, if_pos ⟨by omega, e2.2⟩]
          · rw [if_neg e2, if_neg (fun y => e2 ⟨by
              by_cases e : i = k
              · rw [e] at y; exact absurd y.2 q
              · omega, y.2⟩)]
    · rintro ⟨x1, x2, x3, τ⟩ ⟨f1, f2, f3, f4, f5, f6⟩
      dsimp only at f1 f2 f3 f4 f5 f6
      subst f1
      have e27 : τ.1 27 4 = nI (aP A).length := by rw [f4.1 27 (by decide)]; exact pl.1
      refine ⟨.inr (x2, τ), ?_, f4, f5, f3, f6⟩
      show fX5_plan_b15 (nI S) x1 x2 (nI (aP A).length) τ = _
      unfold fX5_plan_b15
      rw [e27, if_pos (Int32.le_refl _)]
    · rw [if_neg (fun y => absurd y.1 (Nat.not_lt_zero _))]
      exact a1 _ (by have := ho.1 i hi; omega)
  obtain ⟨r, e, hr⟩ := key
  unfold fX5_plan
  rw [e1, ob_s, e, ob_s]
  cases r with
  | inl z =>
    have hr : Fr [31] σ z ∧ ¬ feas (aP A) S (aP A).length := hr
    exact ⟨z, hr.1, Or.inr ⟨hr.2, rfl⟩⟩
  | inr z =>
    have hr : Fr [31] σ z.2 ∧ feas (aP A) S (aP A).length ∧ z.1 = nI (spL (aP A) S (aP A).length) ∧ LoC (aP A) S (aP A).length (z.2.1 31) := hr
    obtain ⟨h1, h2, h3, h4⟩ := hr
    refine ⟨z.2, h1, Or.inl ⟨h2, ?_, h4⟩⟩
    show some (z.1, z.2) = _
    rw [h3]
    have : spL (aP A) S (aP A).length = suL (aP A) S := sm_or (l := aP A) (fun p => if S.testBit p then wrL (aP A) p else 0)
    rw [this]
/-- what a set of players is worth: 0 if not all can be looked at -/
noncomputable def fwL (l : List (Nat × Nat)) (S : Nat) : Nat := @ite _ (feas l S l.length) (Classical.propDecidable _) (suL l S) 0
theorem fw_t {l : List (Nat × Nat)} {S : Nat} (h : feas l S l.length) : fwL l S = suL l S := @if_pos _ (Classical.propDecidable _) h _ _ _
theorem fw_f {l : List (Nat × Nat)} {S : Nat} (h : ¬ feas l S l.length) : fwL l S = 0 := @if_neg _ (Classical.propDecidable _) h _ _ _
theorem fe0 (l : List (Nat × Nat)) : feas l 0 l.length := fun i _ hb => by rw [Nat.zero_testBit] at hb; cases hb
theorem su0 (l : List (Nat × Nat)) : suL l 0 = 0 := by
  unfold suL
  rw [sm_cg (g := fun _ => 0) l.length (fun i _ => by rw [Nat.zero_testBit]; rfl), sm_0]
theorem fw0 (l : List (Nat × Nat)) : fwL l 0 = 0 := by rw [fw_t (fe0 l), su0]
theorem su_le {A : AbS} (hA : OKA A) (S : Nat) : suL (aP A) S ≤ 99 * (aP A).length := by
  rw [← show spL (aP A) S (aP A).length = suL (aP A) S from sm_or (l := aP A) (fun p => if S.testBit p then wrL (aP A) p else 0)]
  exact sp_le hA _ (Nat.le_refl _)
theorem Mx_fe {l : List (Nat × Nat)} {n B : Nat} (h : Mx n yes (fwL l) B) : feas l B l.length := by
  by_cases q : feas l B l.length
  · exact q
  · have h0 := h.2.2 0 (by have := h.1; omega) trivial
    rw [fw_f q, fw0] at h0
    have : B = 0 := by omega
    rw [this]; exact fe0 l
theorem two8 {n : Nat} (h : n ≤ 8) : 2 ^ n ≤ 256 ∧ 1 ≤ 2 ^ n := by
  have : (2 : Nat) ^ n ≤ 2 ^ 8 := Nat.pow_le_pow_right (by omega) (by omega)
  exact ⟨this, Nat.one_le_two_pow⟩
theorem c_best {A : AbS} {σ : St} (hA : OKA A) (h : IC A σ) : ∃ σ' B, fX5_bestBits σ = some (nI B, σ') ∧ Fr [31] σ σ' ∧ Mx (2 ^ (aP A).length) yes (fwL (aP A)) B := by
  have hn := hA.2.2.2.2.2.1.1
  obtain ⟨h8, h81⟩ := two8 hn
  unfold fX5_bestBits
  have key : ∃ r, lpc (fun s => fX5_bestBits_b6 s.1 s.2.1 s.2.2.1 s.2.2.2) ((0 : Int32), (0 : Int32), (1 : Int32), σ) = some r ∧ (Fr [31] σ r.2 ∧ ∃ B, r.1 = nI B ∧ Mx (2 ^ (aP A).length) yes (fwL (aP A)) B) := by
    refine lpc_cnt (a := 1) (b := 2 ^ (aP A).length) (fun j s => s.2.2.1 = nI j ∧ Fr [31] σ s.2.2.2 ∧ ∃ B, s.1 = nI B ∧ s.2.1 = nI (fwL (aP A) B) ∧ Mx j yes (fwL (aP A)) B) _ h81 ?_ ?_ ⟨rfl, Fr.rf, 0, rfl, by rw [fw0]; rfl, by omega, trivial, fun W hW _ => by rw [show W = 0 by omega]; omega⟩
    · rintro j ⟨x1, x2, x3, τ⟩ _ hj ⟨f1, f2, B, f3, f4, f5⟩
      dsimp only at f1 f2 f3 f4
      subst f1
      subst f3
      subst f4
      have hi : IC A τ := h.cs (f2.mono (by decide))
      show ∃ s', fX5_bestBits_b6 (nI B) (nI (fwL (aP A) B)) (nI j) τ = some (.inl s') ∧ _
      unfold fX5_bestBits_b6 fX5_bestBits_j34
      rw [hi.2.2.2.2.2.2.2.1.1.1, tb_sh1 _ (by omega), if_neg (nI_ge hj (by omega))]
      have hfe := Mx_fe f5
      have hB := su_le hA B
      obtain ⟨τ', l, ⟨c1, c2, -⟩ | ⟨c1, c2⟩⟩ := c_plan hA hi (show j < 256 by omega)
      · have hjs := su_le hA j
        rw [c2, ob_s]
        dsimp only
        rw [← fw_t c1] at hjs ⊢
        rw [← fw_t hfe] at hB
        by_cases q : fwL (aP A) j ≤ fwL (aP A) B
        · rw [if_pos (nI_le q (by omega))]
          exact ⟨_, rfl, nI_1 j, f2.trans l, B, rfl, rfl, Mx_keep f5 (Or.inr q)⟩
        · rw [if_neg (fun z => q ((nI_leI (by omega) (by omega)).mp z))]
          refine ⟨_, rfl, nI_1 j, f2.trans l, j, rfl, rfl, Mx_new trivial (fun W hW _ => ?_)⟩
          have := f5.2.2 W hW trivial
          omega
      · rw [c2, ob_s]
        dsimp only
        rw [← fw_t hfe] at hB
        rw [if_pos (show (-1 : Int32) ≤ nI (fwL (aP A) B) from Int32.le_trans (by decide : (-1 : Int32) ≤ 0) (nI_pos' (by omega)))]
        exact ⟨_, rfl, nI_1 j, f2.trans l, B, rfl, rfl, Mx_keep f5 (Or.inr (by rw [fw_f c1]; omega))⟩
    · rintro ⟨x1, x2, x3, τ⟩ ⟨f1, f2, B, f3, f4, f5⟩
      dsimp only at f1 f2 f3 f4
      subst f1
      have hi : IC A τ := h.cs (f2.mono (by decide))
      refine ⟨(x1, τ), ?_, f2, B, f3, f5⟩
      show fX5_bestBits_b6 x1 x2 (nI (2 ^ (aP A).length)) τ = _
      unfold fX5_bestBits_b6
      rw [hi.2.2.2.2.2.2.2.1.1.1, tb_sh1 _ (by omega), if_pos (Int32.le_refl _)]
  obtain ⟨r, e, l, B, r1, mx⟩ := key
  rw [e, ob_s, r1]
  exact ⟨r.2, B, rfl, l, mx⟩
abbrev WoP (A : AbS) (w r : Int32) : Prop := ∃ B, r = (if w = 0 then nI (fwL (aP A) B) else nI B) ∧ Mx (2 ^ (aP A).length) yes (fwL (aP A)) B
theorem WoP_u {A : AbS} {w : Int32} (a b : Int32) (h : WoP A w a) (h' : WoP A w b) : a = b := by
  obtain ⟨B, e, p⟩ := h
  obtain ⟨B', e', p'⟩ := h'
  rw [e, e', Mx_u p p']
noncomputable def wWorth (w : Int32) (A : AbS) : Int32 := the (WoP A w)
noncomputable def vWorth (w : Int32) (A : AbS) : Int32 := if 0 ≤ w ∧ w ≤ 1 then wWorth w A else -2
theorem c_worth (w : Int32) (A : AbS) (σ : St) (hA : OKA A) (h : IC A σ) : ∃ σ', fX10_worth w σ = some (vWorth w A, σ') ∧ IC A σ' ∧ CM σ σ' := by
  have hn := hA.2.2.2.2.2.1.1
  obtain ⟨h8, h81⟩ := two8 hn
  unfold fX10_worth vWorth
  rw [p_within, ob_s]
  by_cases g : 0 ≤ w ∧ w ≤ 1
  · rw [if_pos g, if_pos g, if_neg one_ne]
    obtain ⟨σ1, B, e1, l1, mx⟩ := c_best hA h
    have k1 : CS σ σ1 := l1.mono (by decide)
    have hwo : WoP A w (if w = 0 then nI (fwL (aP A) B) else nI B) := ⟨B, rfl, mx⟩
    unfold wWorth
    rw [the_eq hwo WoP_u, e1, ob_s]
    dsimp only
    by_cases w0 : w = 0
    · rw [if_pos w0, if_pos w0]
      have hfe := Mx_fe mx
      obtain ⟨σ2, l2, ⟨c1, c2, -⟩ | ⟨c1, c2⟩⟩ := c_plan hA (h.cs k1) (show B < 256 by have := mx.1; omega)
      · have k2 : CS σ σ2 := k1.trans (l2.mono (by decide))
        rw [c2, ob_s, ← fw_t c1]
        exact ⟨σ2, rfl, h.cs k2, k2.CM⟩
      · exact absurd hfe c1
    · rw [if_neg w0, if_neg w0]
      exact ⟨σ1, rfl, h.cs k1, k1.CM⟩
  · rw [if_neg g, if_neg g, if_pos rfl]; exact ⟨σ, rfl, h, CM.rf⟩
def LkP (l : List (Nat × Nat)) (B t : Nat) (r : Int32) : Prop := (r = -1 ∧ ∀ i, i < l.length → B.testBit (oL l i) = true → tmL l B i ≠ t) ∨ ∃ i, i < l.length ∧ B.testBit (oL l i) = true ∧ tmL l B i = t ∧ r = nI (oL l i)
theorem LkP_u {l : List (Nat × Nat)} {B t : Nat} (a b : Int32) (h : LkP l B t a) (h' : LkP l B t b) : a = b := by
  rcases h with ⟨e, h⟩ | ⟨i, h1, h2, h3, e⟩ <;> rcases h' with ⟨e', h'⟩ | ⟨i', h1', h2', h3', e'⟩
  · rw [e, e']
  · exact absurd h3' (h i' h1' h2')
  · exact absurd h3 (h' i h1 h2)
  · have : i = i' := by
      by_cases q : i < i'
      · have := tm_lt (l := l) q h2; omega
      · by_cases q2 : i' < i
        · have := tm_lt (l := l) q2 h2'; omega
        · omega
    rw [e, e', this]
abbrev LoP (A : AbS) (t : Nat) (r : Int32) : Prop := ∃ B, Mx (2 ^ (aP A).length) yes (fwL (aP A)) B ∧ LkP (aP A) B t r
theorem LoP_u {A : AbS} {t : Nat} (a b : Int32) (h : LoP A t a) (h' : LoP A t b) : a = b := by
  obtain ⟨B, m, p⟩ := h
  obtain ⟨B', m', p'⟩ := h'
  have e := Mx_u m m'
  subst e
  exact LkP_u a b p p'
noncomputable def wLook (t : Nat) (A : AbS) : Int32 := the (LoP A t)
noncomputable def vLook (x : Int32) (A : AbS) : Int32 := if 0 ≤ x ∧ x ≤ 98 then wLook x.toNatClampNeg A else -2
theorem c_look (x : Int32) (A : AbS) (σ : St) (hA : OKA A) (h : IC A σ) : ∃ σ', fX10_look x σ = some (vLook x A, σ') ∧ IC A σ' ∧ CM σ σ' := by
  have hn := hA.2.2.2.2.2.1.1
  obtain ⟨h8, h81⟩ := two8 hn
  have ho := oL_s (aP A)
  unfold fX10_look vLook
  rw [p_within, ob_s]
  by_cases g : 0 ≤ x ∧ x ≤ 98
  · rw [if_pos g, if_pos g, if_neg one_ne]
    obtain ⟨t, ht, rfl⟩ := i32_nat (m := 98) (by omega) g.1 g.2
    rw [nI_clamp (by omega)]
    obtain ⟨σ1, B, e1, l1, mx⟩ := c_best hA h
    have k1 : CS σ σ1 := l1.mono (by decide)
    have hfe := Mx_fe mx
    rw [e1, ob_s]
    dsimp only
    obtain ⟨σ2, l2, ⟨c1, c2, c3⟩ | ⟨c1, c2⟩⟩ := c_plan hA (h.cs k1) (show B < 256 by have := mx.1; omega)
    · have k2 : CS σ σ2 := k1.trans (l2.mono (by decide))
      have hi := h.cs k2
      rw [c2, ob_s]
      dsimp only
      have htm : ∀ i, i < (aP A).length → B.testBit (oL (aP A) i) = true → tmL (aP A) B i < 98 := fun i hi hb => by
        have h1 := hfe i hi hb
        have h2 := (pl_b hA (ho.1 i hi)).2.1
        omega
      -- where one is looked at in that bar
      have val : ∀ p, p < (aP A).length → ∃ i, i < (aP A).length ∧ oL (aP A) i = p ∧ (σ2.1 31 p = nI t ↔ (B.testBit (oL (aP A) i) = true ∧ tmL (aP A) B i = t)) := by
        intro p hp
        obtain ⟨i, hi', e⟩ := ho.2.2 p hp
        refine ⟨i, hi', e, ?_⟩
        rw [← e, c3 i hi']
        by_cases q : B.testBit (oL (aP A) i) = true
        · have := htm i hi' q
          rw [if_pos ⟨hi', q⟩]
          exact ⟨fun z => ⟨q, nI_inj (by omega) (by omega) z⟩, fun z => by rw [z.2]⟩
        · rw [if_neg (fun z => q z.2)]
          exact ⟨fun z => absurd z (ne_m1 (by omega)), fun z => absurd z.1 q⟩
      have key : ∃ r, lpc (fun s => fX5_lookedAtIn_b2 (nI t) s σ2) (0 : Int32) = some r ∧ Sum.elim (fun z => LkP (aP A) B t z) (fun _ => LkP (aP A) B t (-1)) r := by
        refine lpc_cntx (a := 0) (b := (aP A).length) (fun k s => s = nI k ∧ ∀ p, p < k → ¬ σ2.1 31 p = nI t) _ (Nat.zero_le _) ?_ ?_ ⟨rfl, fun p hp => absurd hp (Nat.not_lt_zero _)⟩
        · rintro k s _ hk ⟨f1, f2⟩
          subst f1
          show (∃ s', fX5_lookedAtIn_b2 (nI t) (nI k) σ2 = some (.inl s') ∧ _) ∨ (∃ r, fX5_lookedAtIn_b2 (nI t) (nI k) σ2 = some (.inr r) ∧ _)
          unfold fX5_lookedAtIn_b2
          rw [hi.2.2.2.2.2.2.2.1.1.1, if_neg (nI_ge hk (by omega)), if_neg (show ¬ (8 : Int32) ≤ nI k from nI_ge (b := 8) (by omega) (by omega)), inb_nI (show k < 8 by omega) (by omega), if_pos rfl, nI_clamp (show k < 2 ^ 31 by omega)]
          by_cases q : σ2.1 31 k = nI t
          · right
            rw [if_pos q]
            obtain ⟨i, v1, v2, v3⟩ := val k hk
            have v4 := v3.mp q
            exact ⟨_, rfl, Or.inr ⟨i, v1, v4.1, v4.2, by rw [v2]⟩⟩
          · left
            rw [if_neg q]
            refine ⟨_, rfl, nI_1 k, fun p hp => ?_⟩
            by_cases e : p = k
            · rw [e]; exact q
            · exact f2 p (by omega)
        · rintro s ⟨f1, f2⟩
          subst f1
          refine ⟨.inr (), ?_, Or.inl ⟨rfl, fun i hi' hb z => ?_⟩⟩
          · show fX5_lookedAtIn_b2 (nI t) (nI (aP A).length) σ2 = _
            unfold fX5_lookedAtIn_b2
            rw [hi.2.2.2.2.2.2.2.1.1.1, if_pos (Int32.le_refl _)]
          · obtain ⟨j, v1, v2, v3⟩ := val (oL (aP A) i) (ho.1 i hi')
            have : j = i := ho.inj v1 hi' v2
            subst this
            exact f2 _ (ho.1 j hi') (v3.mpr ⟨hb, z⟩)
      obtain ⟨r, e, hr⟩ := key
      unfold fX5_lookedAtIn
      rw [e, ob_s]
      unfold wLook
      cases r with
      | inl z =>
        have hr : LkP (aP A) B t z := hr
        rw [the_eq (P := LoP A t) ⟨B, mx, hr⟩ LoP_u]
        exact ⟨σ2, rfl, hi, k2.CM⟩
      | inr z =>
        have hr : LkP (aP A) B t (-1) := hr
        rw [the_eq (P := LoP A t) ⟨B, mx, hr⟩ LoP_u]
        exact ⟨σ2, rfl, hi, k2.CM⟩
    · exact absurd hfe c1
  · rw [if_neg g, if_neg g, if_pos rfl]; exact ⟨σ, rfl, h, CM.rf⟩
