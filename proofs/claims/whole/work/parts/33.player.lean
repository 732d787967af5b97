/-! player -/
theorem gD_l {l : List (Nat × Nat)} {x : Nat × Nat} {p : Nat} (h : p < l.length) : (l ++ [x]).getD p (0, 0) = l.getD p (0, 0) := by
  rw [List.getD_eq_getElem?_getD, List.getD_eq_getElem?_getD, List.getElem?_append_left h]
theorem gD_r {l : List (Nat × Nat)} {x : Nat × Nat} : (l ++ [x]).getD l.length (0, 0) = x := by
  rw [List.getD_eq_getElem?_getD, List.getElem?_append_right (Nat.le_refl _), Nat.sub_self]; rfl
theorem PLr_snoc {l : List (Nat × Nat)} {z z' : Int32} {f g f' g' : Nat → Int32} {x : Nat × Nat} (H : PLr l z f g) (hz : z' = nI l.length + 1) (hf : ∀ j, f' j = if j = l.length then nI x.1 else f j) (hg : ∀ j, g' j = if j = l.length then nI x.2 else g j) : PLr (l ++ [x]) z' f' g' := by
  refine ⟨by rw [hz, nI_1]; simp, fun i y hy => ?_⟩
  rw [hf, hg]
  by_cases e : i = l.length
  · subst e
    rw [List.getElem?_append_right (Nat.le_refl _), Nat.sub_self] at hy
    cases hy
    rw [if_pos rfl, if_pos rfl]
    exact ⟨rfl, rfl⟩
  · have hlt : i < l.length := by
      have := (List.getElem?_eq_some_iff.mp hy).1
      rw [List.length_append] at this
      simp at this; omega
    rw [List.getElem?_append_left hlt] at hy
    rw [if_neg e, if_neg e]
    exact H.2 i y hy
theorem PLr.get {l : List (Nat × Nat)} {z : Int32} {f g : Nat → Int32} (h : PLr l z f g) {k : Nat} (hk : k < l.length) : f k = nI (l.getD k (0, 0)).1 ∧ g k = nI (l.getD k (0, 0)).2 := by
  have := h.2 k _ (List.getElem?_eq_getElem hk)
  rw [List.getD_eq_getElem?_getD, List.getElem?_eq_getElem hk]
  exact this
theorem sooner_le {l : List (Nat × Nat)} {p q : Nat} (h : sooner l p q) : (l.getD p (0, 0)).1 ≤ (l.getD q (0, 0)).1 := by
  rcases h with h | h
  · omega
  · omega
theorem ORr_ins {l : List (Nat × Nat)} {x : Nat × Nat} {o : Nat → Nat} {i : Nat} (h1 : ∀ j, j < l.length → o j < l.length) (h2 : ∀ a c, a < c → c < l.length → sooner l (o a) (o c)) (h3 : ∀ p, p < l.length → ∃ j, j < l.length ∧ o j = p) (hi : i ≤ l.length) (hlo : 0 < i → (l.getD (o (i - 1)) (0, 0)).1 ≤ x.1) (hhi : ∀ j, i ≤ j → j < l.length → x.1 < (l.getD (o j) (0, 0)).1) {f' : Nat → Int32} (hf : ∀ j, j ≤ l.length → f' j = nI (if j < i then o j else if j = i then l.length else o (j - 1))) : ORr (l ++ [x]) f' := by
  have hlen : (l ++ [x]).length = l.length + 1 := by simp
  have sl : ∀ p q, p < l.length → q < l.length → sooner l p q → sooner (l ++ [x]) p q := by
    intro p q hp hq h
    unfold sooner at *
    rw [gD_l hp, gD_l hq]; exact h
  refine ⟨fun j => if j < i then o j else if j = i then l.length else o (j - 1), fun j hj => ⟨hf j (by omega), ?_⟩, fun a c hac hc => ?_, fun p hp => ?_⟩
  · rw [hlen] at hj ⊢
    dsimp only
    by_cases q : j < i
    · rw [if_pos q]; have := h1 j (by omega); omega
    · rw [if_neg q]
      by_cases q2 : j = i
      · rw [if_pos q2]; omega
      · rw [if_neg q2]; have := h1 (j - 1) (by omega); omega
  · rw [hlen] at hc
    dsimp only
    by_cases qa : a < i
    · rw [if_pos qa]
      by_cases qc : c < i
      · rw [if_pos qc]
        exact sl _ _ (h1 a (by omega)) (h1 c (by omega)) (h2 a c hac (by omega))
      · rw [if_neg qc]
        by_cases qc2 : c = i
        · rw [if_pos qc2]
          have b1 : (l.getD (o a) (0, 0)).1 ≤ (l.getD (o (i - 1)) (0, 0)).1 := by
            by_cases e : a = i - 1
            · rw [e]; exact Nat.le_refl _
            · exact sooner_le (h2 a (i - 1) (by omega) (by omega))
          have b2 := hlo (by omega)
          have b3 := h1 a (by omega)
          unfold sooner
          rw [gD_l b3, gD_r]
          omega
        · rw [if_neg qc2]
          exact sl _ _ (h1 a (by omega)) (h1 (c - 1) (by omega)) (h2 a (c - 1) (by omega) (by omega))
    · rw [if_neg qa, if_neg (show ¬ c < i by omega), if_neg (show ¬ c = i by omega)]
      by_cases qa2 : a = i
      · rw [if_pos qa2]
        have b3 := h1 (c - 1) (by omega)
        have b4 := hhi (c - 1) (by omega) (by omega)
        unfold sooner
        rw [gD_l b3, gD_r]
        omega
      · rw [if_neg qa2]
        exact sl _ _ (h1 (a - 1) (by omega)) (h1 (c - 1) (by omega)) (h2 (a - 1) (c - 1) (by omega) (by omega))
  · rw [hlen] at hp
    by_cases e : p = l.length
    · exact ⟨i, by rw [hlen]; omega, by dsimp only; rw [if_neg (Nat.lt_irrefl _), if_pos rfl, e]⟩
    · obtain ⟨j, hj, ej⟩ := h3 p (by omega)
      by_cases q : j < i
      · exact ⟨j, by rw [hlen]; omega, by dsimp only; rw [if_pos q, ej]⟩
      · exact ⟨j + 1, by rw [hlen]; omega, by dsimp only; rw [if_neg (by omega), if_neg (by omega), Nat.add_sub_cancel, ej]⟩
theorem p_item28 {σ : St} {b : Nat} (h : b < 8) : fX10_itemAt 28 (nI b) σ = some (σ.1 28 b) := by
  rw [p_itemAt (n := 8) rfl (by omega) b (by omega), if_pos h, rv_w (by decide) (by decide)]
def uPl (x : Nat × Nat) (A : AbS) : AbS := if (aP A).length = 8 then A else (A.1, aR A, aF A, aP A ++ [x], aH A, aG A)
theorem ok_pl {x : Nat × Nat} (hx : 1 ≤ x.1 ∧ x.1 ≤ 98 ∧ 1 ≤ x.2 ∧ x.2 ≤ 99) (A : AbS) (h : OKA A) : OKA (uPl x A) := by
  unfold uPl
  split
  · exact h
  · obtain ⟨h1, h2, h3, h4, h5, ⟨h6, h6'⟩, h7⟩ := h
    refine ⟨h1, h2, h3, h4, h5, ⟨?_, fun y hy => ?_⟩, h7⟩
    · show (aP A ++ [x]).length ≤ 8
      rw [List.length_append]; simp; omega
    · rcases List.mem_append.mp hy with q | q
      · exact h6' y q
      · rw [List.mem_singleton.mp q]; exact hx
theorem gD_in {l : List (Nat × Nat)} {p : Nat} (h : p < l.length) : l.getD p (0, 0) ∈ l := by
  rw [List.getD_eq_getElem?_getD, List.getElem?_eq_getElem h]
  exact List.getElem_mem h
theorem IC.pl {A : AbS} {σ σ' : St} {l' : List (Nat × Nat)} (h : IC A σ) (hf : Fr [27, 28, 29, 30] σ σ') (hp : PLr l' (σ'.1 27 4) (σ'.1 28) (σ'.1 29)) (ho : ORr l' (σ'.1 30)) : IC (A.1, aR A, aF A, l', aH A, aG A) σ' := by
  obtain ⟨k1, k2⟩ := hf
  have hs := h.2.2.2.2.2.2.2.2.1.fr (σ' := σ') fun c h1 h2 => k1 c (fun q => by simp at q; omega)
  obtain ⟨a1, a2, a3, a4, a5, a6, a7, -, -, a9, a10⟩ := h
  unfold TX at a1
  unfold PC PS at a2
  unfold WY WOK at a10
  unfold IC TX PC PS WY WOK
  rw [k1 0 (by decide), k1 1 (by decide), k1 2 (by decide), k1 3 (by decide), k1 4 (by decide), k1 5 (by decide), k1 6 (by decide), k1 8 (by decide), k1 10 (by decide), k1 11 (by decide), k1 15 (by decide), k1 16 (by decide), k1 17 (by decide), k1 18 (by decide), k1 32 (by decide), k1 33 (by decide), k2 20 (by decide), k2 21 (by decide)]
  exact ⟨a1, a2, a3, a4, a5, a6, a7, ⟨hp, ho⟩, hs, a9, a10⟩
theorem c_pl {A : AbS} {σ : St} {b w : Nat} (hb : b ≤ 98) (hA : OKA A) (h : IC A σ) : ∃ σ', fX5_append (nI b) (nI w) σ = some (if (aP A).length = 8 then 0 else 1, σ') ∧ IC (uPl (b, w) A) σ' ∧ CM σ σ' := by
  have hl := hA.2.2.2.2.2.1.1
  unfold fX5_append uPl
  rw [h.2.2.2.2.2.2.2.1.1.1, if_neg (nI_pos (by omega))]
  by_cases e : (aP A).length = 8
  · rw [if_pos e, if_pos e, if_neg (show ¬ nI (aP A).length < (8 : Int32) from by rw [e]; decide)]
    exact ⟨σ, rfl, h, CM.rf⟩
  · rw [if_neg e, if_neg e, if_pos (show nI (aP A).length < (8 : Int32) from nI_lt (b := 8) (by omega) (by omega)), inb_nI (show (aP A).length < 8 by omega) (by omega), if_pos rfl, nI_clamp (by omega)]
    simp only [ltb]
    obtain ⟨a1, a2, a3, a4, a5, a6, a7, ⟨p1, o, o1, o2, o3⟩, a9, a10, a11⟩ := h
    generalize hn : (aP A).length = n at *
    have key : ∃ r, lpc (fun s => fX5_append_b49 (nI b) s.1 s.2.1 s.2.2) (nI n, nI n, sI (sI σ 28 n (nI b)) 29 n (nI w)) = some r ∧ ∃ i, i ≤ n ∧ r.1 = nI i ∧ (0 < i → ((aP A).getD (o (i - 1)) (0, 0)).1 ≤ b) ∧ (∀ j, i ≤ j → j < n → b < ((aP A).getD (o j) (0, 0)).1) ∧ Fr [30] (sI (sI σ 28 n (nI b)) 29 n (nI w)) r.2 ∧ (∀ j, j < i → r.2.1 30 j = nI (o j)) ∧ ∀ j, i < j → j ≤ n → r.2.1 30 j = nI (o (j - 1)) := by
      refine lpc_inv (fun s => ∃ i, i ≤ n ∧ s.1 = nI i ∧ s.2.1 = nI i ∧ (∀ j, i ≤ j → j < n → b < ((aP A).getD (o j) (0, 0)).1) ∧ Fr [30] (sI (sI σ 28 n (nI b)) 29 n (nI w)) s.2.2 ∧ (∀ j, j < i → s.2.2.1 30 j = nI (o j)) ∧ ∀ j, i < j → j ≤ n → s.2.2.1 30 j = nI (o (j - 1))) (fun s => s.2.1.toNatClampNeg) _ ?_ _ ⟨n, Nat.le_refl _, rfl, rfl, fun j h1 h2 => by omega, Fr.rf, fun j hj => (o1 j hj).1, fun j h1 h2 => by omega⟩
      rintro ⟨s1, s2, u⟩ ⟨i, hi, e1, e2, hb2, f, g1, g2⟩
      dsimp only at e1 e2 f g1 g2
      subst e1
      subst e2
      show (∃ z', fX5_append_b49 (nI b) (nI i) (nI i) u = some (.inl z') ∧ _ ∧ _) ∨ ∃ r, fX5_append_b49 (nI b) (nI i) (nI i) u = some (.inr r) ∧ _
      unfold fX5_append_b49
      by_cases h0 : i = 0
      · right
        subst h0
        exact ⟨(nI 0, u), by rw [if_pos (show nI 0 ≤ (0 : Int32) from Int32.le_refl _)], 0, hi, rfl, fun q => absurd q (Nat.lt_irrefl _), hb2, f, g1, g2⟩
      · obtain ⟨m, rfl⟩ : ∃ m, i = m + 1 := ⟨i - 1, by omega⟩
        have hom := (o1 m (by omega)).2
        have hbm : u.1 28 (o m) = nI ((aP A).getD (o m) (0, 0)).1 := by
          rw [f.1 28 (by decide)]
          show (sI (sI σ 28 n (nI b)) 29 n (nI w)).1 28 (o m) = _
          rw [g_sI, if_neg (by decide), g_sI, if_pos rfl, if_neg (by omega)]
          exact (p1.get (by omega)).1
        have hbd := (hA.2.2.2.2.2.1.2 _ (gD_in (l := aP A) (p := o m) (by omega))).2.1
        rw [if_neg (nI_nle (by omega) (by omega)), nI_pred, inb_nI (show m < 8 by omega) (by omega), if_pos rfl, nI_clamp (show m < 2 ^ 31 by omega), g1 m (by omega), p_item28 (by omega), ob_s, hbm]
        by_cases q : ((aP A).getD (o m) (0, 0)).1 ≤ b
        · right
          rw [if_pos (nI_le q (by omega))]
          exact ⟨_, rfl, m + 1, hi, rfl, fun _ => q, hb2, f, g1, g2⟩
        · left
          rw [if_neg (fun z => q ((nI_leI (by omega) (by omega)).mp z)), inb_nI (show m + 1 < 8 by omega) (by omega), if_pos rfl, nI_clamp (show m + 1 < 2 ^ 31 by omega)]
          simp only [ltb]
          rw [pk_m1]
          refine ⟨_, rfl, ⟨m, by omega, rfl, rfl, fun j h1 h2 => ?_, f.trans (Fr_sI (by decide)), fun j hj => ?_, fun j h1 h2 => ?_⟩, by rw [nI_clamp (by omega)]; omega⟩
          · by_cases ej : j = m
            · rw [ej]; omega
            · exact hb2 j (by omega) h2
          · show (sI u 30 (m + 1) _).1 30 j = _
            rw [g_sI, if_pos rfl, if_neg (by omega)]; exact g1 j (by omega)
          · show (sI u 30 (m + 1) _).1 30 j = _
            rw [g_sI, if_pos rfl]
            by_cases ej : j = m + 1
            · rw [if_pos ej, ej]; rfl
            · rw [if_neg ej]; exact g2 j (by omega) h2
    obtain ⟨r, e', i, hi, r1, hlo, hhi, f, g1, g2⟩ := key
    rw [e', ob_s, r1, inb_nI (show i < 8 by omega) (by omega), if_pos rfl, nI_clamp (show i < 2 ^ 31 by omega), f.1 27 (by decide)]
    have hz : (sI (sI σ 28 n (nI b)) 29 n (nI w)).1 27 4 = nI n := p1.1.trans (by rw [hn])
    rw [hz]
    have hfr : Fr [27, 28, 29, 30] σ (sI (sI r.2 30 i (nI n)) 27 4 (nI n + 1)) := ((((Fr_sI (by decide)).trans (Fr_sI (by decide))).trans (f.mono (by decide))).trans (Fr_sI (by decide))).trans (Fr_sI (by decide))
    refine ⟨_, rfl, IC.pl ⟨a1, a2, a3, a4, a5, a6, a7, ⟨p1, o, by rw [hn]; exact o1, by rw [hn]; exact o2, by rw [hn]; exact o3⟩, a9, a10, a11⟩ hfr ?_ ?_, hfr.CM (by decide)⟩
    · refine PLr_snoc p1 ?_ (fun j => ?_) (fun j => ?_)
      · rw [g_sI, if_pos rfl, if_pos rfl, hn]
      · rw [sI_o (by decide), sI_o (by decide), f.1 28 (by decide), sI_o (by decide), g_sI, if_pos rfl, hn]
      · rw [sI_o (by decide), sI_o (by decide), f.1 29 (by decide), g_sI, if_pos rfl, sI_o (by decide), hn]
    · refine ORr_ins (o := o) (i := i) (by rw [hn]; exact fun j hj => (o1 j hj).2) (by rw [hn]; exact o2) (by rw [hn]; exact o3) (by rw [hn]; exact hi) hlo (by rw [hn]; exact hhi) (fun j hj => ?_)
      rw [hn] at hj ⊢
      rw [sI_o (by decide), g_sI, if_pos rfl]
      by_cases e1 : j = i
      · rw [if_pos e1, if_neg (by omega), if_pos e1]
      · rw [if_neg e1]
        by_cases e2 : j < i
        · rw [if_pos e2, g1 j e2]
        · rw [if_neg e2, if_neg e1, g2 j (by omega) hj]
abbrev gPl (b w : Int32) : Prop := (1 ≤ b ∧ b ≤ 98) ∧ (1 ≤ w ∧ w ≤ 99)
theorem i32_nat1 {x : Int32} {m : Nat} (hm : m < 2 ^ 31) (h1 : 1 ≤ x) (h2 : x ≤ nI m) : ∃ k, 1 ≤ k ∧ k ≤ m ∧ x = nI k := by
  obtain ⟨k, hk, e⟩ := i32_nat hm (Int32.le_trans (by decide) h1) h2
  refine ⟨k, ?_, hk, e⟩
  rcases k with _ | k
  · rw [e] at h1; exact absurd h1 (by decide)
  · omega
theorem l_player : ls_player Inv := fun σ b w h => ls_mk (fun A => if gPl b w then (if (aP A).length = 8 then -4 else nI ((aP A).length + 1)) else -2) (fun A => if gPl b w then uPl (b.toNatClampNeg, w.toNatClampNeg) A else A) (fun A hA => by
    split
    · rename_i g
      obtain ⟨k, h1, h2, rfl⟩ := i32_nat1 (m := 98) (by omega) g.1.1 g.1.2
      obtain ⟨v, h3, h4, rfl⟩ := i32_nat1 (m := 99) (by omega) g.2.1 g.2.2
      rw [nI_clamp (by omega), nI_clamp (by omega)]
      exact ok_pl ⟨h1, h2, h3, h4⟩ A hA
    · exact hA) (fun A σ hA h => by
    unfold fX10_player fX10_player_j20
    rw [p_within, ob_s, p_within, ob_s]
    by_cases g : gPl b w
    · rw [if_pos g, if_pos g, if_pos g.1, if_neg one_ne, if_pos g.2, if_neg one_ne]
      obtain ⟨k, h1, h2, rfl⟩ := i32_nat1 (m := 98) (by omega) g.1.1 g.1.2
      obtain ⟨v, h3, h4, rfl⟩ := i32_nat1 (m := 99) (by omega) g.2.1 g.2.2
      rw [nI_clamp (by omega), nI_clamp (by omega)]
      obtain ⟨σ', e, i, c⟩ := c_pl (b := k) (w := v) (by omega) hA h
      rw [e, ob_s]
      by_cases e8 : (aP A).length = 8
      · rw [if_pos e8, if_pos rfl, if_pos e8]
        exact ⟨σ', rfl, i, c⟩
      · rw [if_neg e8, if_neg one_ne, if_neg e8]
        refine ⟨σ', ?_, i, c⟩
        have := i.2.2.2.2.2.2.2.1.1.1
        unfold uPl at this
        rw [if_neg e8] at this
        have h2 : σ'.1 27 4 = nI ((aP A).length + 1) := this.trans (congrArg nI (by show (aP A ++ [(k, v)]).length = _; simp))
        show some (σ'.1 27 4, σ') = _
        rw [h2]
    · rw [if_neg g, if_neg g]
      refine ⟨σ, ?_, h, CM.rf⟩
      by_cases g1 : 1 ≤ b ∧ b ≤ 98
      · rw [if_pos g1, if_neg one_ne, if_neg (fun q => g ⟨g1, q⟩), if_pos rfl]
      · rw [if_neg g1, if_pos rfl]) (fun A σ hA h => by
    unfold fX11_player fX11_player_j20
    rw [p_in, ob_s, p_in, ob_s]
    by_cases g : gPl b w
    · rw [if_pos g, if_pos g, if_pos g.1, if_neg one_ne, if_pos g.2, if_neg one_ne]
      obtain ⟨k, h1, h2, rfl⟩ := i32_nat1 (m := 98) (by omega) g.1.1 g.1.2
      obtain ⟨v, h3, h4, rfl⟩ := i32_nat1 (m := 99) (by omega) g.2.1 g.2.2
      have hl := hA.2.2.2.2.2.1.1
      rw [nI_clamp (by omega), nI_clamp (by omega), h.2.2.2.2.2.2.1.1]
      unfold uPl
      by_cases e8 : (aP A).length = 8
      · rw [if_pos e8, if_pos e8, e8, if_pos (by rfl)]
        exact ⟨σ, rfl, h, MC.rf⟩
      · rw [if_neg e8, if_neg e8, if_neg (show ¬ nI (aP A).length = (8 : Int32) from fun q => e8 (nI_inj (b := 8) (by omega) (by omega) q)), inb_nI (show (aP A).length < 8 by omega) (by omega), if_pos rfl, nI_clamp (by omega), nI_1]
        obtain ⟨a1, a2, a3, a4, a5, a6, a7, a8, a9⟩ := h
        refine ⟨_, rfl, ⟨a1, a2, a3, a4, a5, a6, PLr_snoc a7 ?_ (fun j => ?_) (fun j => ?_), a8, a9⟩, ((MC_sI (by decide)).trans (MC_sI (by decide))).trans (MC_sI (by decide))⟩
        · rw [g_sI, if_pos rfl, if_pos rfl, nI_1]
        · rw [sI_o (by decide), sI_o (by decide), g_sI, if_pos rfl]
        · rw [sI_o (by decide), g_sI, if_pos rfl, sI_o (by decide)]
    · rw [if_neg g, if_neg g]
      refine ⟨σ, ?_, h, MC.rf⟩
      by_cases g1 : 1 ≤ b ∧ b ≤ 98
      · rw [if_pos g1, if_neg one_ne, if_neg (fun q => g ⟨g1, q⟩), if_pos rfl]
      · rw [if_neg g1, if_pos rfl]) σ h
