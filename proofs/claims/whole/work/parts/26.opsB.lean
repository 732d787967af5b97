/-! odds -/
abbrev gOdds (k a b : Int32) : Prop := (0 ≤ k ∧ k ≤ 2) ∧ (0 ≤ a ∧ a ≤ 16) ∧ (0 ≤ b ∧ b ≤ 16 - a)
def vOdds (k a b : Int32) (A : AbS) : Int32 := if gOdds k a b then nI (16 * aM A k.toNatClampNeg + aD A k.toNatClampNeg) else -2
def putN (f : Nat → Nat) (k v : Nat) : Nat → Nat := fun i => if i = k then v else f i
def uOdds (k a b : Int32) (A : AbS) : AbS := if gOdds k a b then ((aT A, putN (aM A) k.toNatClampNeg a.toNatClampNeg, putN (aD A) k.toNatClampNeg b.toNatClampNeg, aS A, aN A), A.2) else A
theorem gOdds_n {k a b : Int32} (h : gOdds k a b) : ∃ i x y : Nat, i < 3 ∧ x + y ≤ 16 ∧ k = nI i ∧ a = nI x ∧ b = nI y := by
  obtain ⟨h1, h2, h3⟩ := h
  obtain ⟨i, hi, rfl⟩ := i32_nat (m := 2) (by omega) h1.1 h1.2
  obtain ⟨x, hx, rfl⟩ := i32_nat (m := 16) (by omega) h2.1 h2.2
  have h4 := h3.2
  rw [show (16 : Int32) = nI 16 from rfl, pk_sub hx] at h4
  obtain ⟨y, hy, rfl⟩ := i32_nat (m := 16 - x) (by omega) h3.1 h4
  exact ⟨i, x, y, by omega, by omega, rfl, rfl, rfl⟩
theorem ODr_put {m d : Nat → Nat} {f g f' g' : Nat → Int32} {k a b : Nat} (h : ODr m d f g) (hf : ∀ j, f' j = if j = k then nI a else f j) (hg : ∀ j, g' j = if j = k then nI b else g j) : ODr (putN m k a) (putN d k b) f' g' := by
  intro j hj
  rw [hf, hg]
  unfold putN
  by_cases e : j = k
  · rw [if_pos e, if_pos e, if_pos e, if_pos e]; exact ⟨rfl, rfl⟩
  · rw [if_neg e, if_neg e, if_neg e, if_neg e]; exact h j hj
theorem p_mis9 {σ : St} {k : Nat} (hk : k < 3) : fX3_missedOf 9 (nI k) σ = some (σ.1 10 k) := by
  unfold fX3_missedOf
  rw [if_pos (show isO 9 = true from rfl), p_itemAt (r := 9 + 1) (n := 3) rfl (by omega) k (by omega), if_pos hk, rv_w (by decide) (by decide), ob_s]
theorem p_dou9 {σ : St} {k : Nat} (hk : k < 3) : fX3_doubledOf 9 (nI k) σ = some (σ.1 11 k) := by
  unfold fX3_doubledOf
  rw [if_pos (show isO 9 = true from rfl), p_itemAt (r := 9 + 2) (n := 3) rfl (by omega) k (by omega), if_pos hk, rv_w (by decide) (by decide), ob_s]
theorem p_become9 {σ : St} {k : Nat} {a b : Int32} (hk : k < 3) : fX3_become 9 (nI k) a b σ = some (sI (sI σ 10 k a) 11 k b) := by
  unfold fX3_become
  rw [if_pos (show isO 9 = true from rfl), if_neg (nI_pos (by omega)), if_neg (show ¬ (3 : Int32) ≤ nI k from nI_ge (b := 3) hk (by omega)), if_neg (show ¬ (3 : Int32) ≤ nI k from nI_ge (b := 3) hk (by omega)), inb_nI hk (by omega), if_pos rfl, nI_clamp (by omega)]
theorem ok_odds (k a b : Int32) (A : AbS) (h : OKA A) : OKA (uOdds k a b A) := by
  unfold uOdds
  split
  · rename_i g
    obtain ⟨i, x, y, hi, hxy, rfl, rfl, rfl⟩ := gOdds_n g
    rw [nI_clamp (by omega), nI_clamp (by omega), nI_clamp (by omega)]
    refine ⟨h.1, fun j hj => ?_, h.2.2⟩
    show putN (aM A) i x j + putN (aD A) i y j ≤ 16
    unfold putN
    by_cases e : j = i
    · rw [if_pos e, if_pos e]; exact hxy
    · rw [if_neg e, if_neg e]; exact h.2.1 j hj
  · exact h
theorem l_odds : ls_odds Inv := fun σ k a b h => ls_mk (vOdds k a b) (uOdds k a b) (ok_odds k a b) (fun A σ hA h => by
    unfold fX10_odds fX10_odds_j31 vOdds uOdds
    rw [p_within, ob_s, p_within, ob_s, p_within, ob_s]
    by_cases g : gOdds k a b
    · rw [if_pos g, if_pos g, if_pos g.1, if_neg one_ne, if_pos g.2.1, if_neg one_ne, if_pos g.2.2, if_neg one_ne]
      obtain ⟨i, x, y, hi, hxy, rfl, rfl, rfl⟩ := gOdds_n g
      rw [p_mis9 hi, ob_s, p_dou9 hi, ob_s, p_become9 hi, (h.2.2.1 i hi).1, (h.2.2.1 i hi).2, nI_clamp (by omega), nI_clamp (by omega), nI_clamp (by omega), show (16 : Int32) = nI 16 from rfl, pk_mul, nI_add]
      obtain ⟨a1, a2, a3, a4, a5, a6, a7, a8, a9, a10, -⟩ := h
      refine ⟨_, rfl, ⟨a1, a2, ODr_put a3 (fun j => by simp [g_sI]) (fun j => by simp [g_sI]), a4, a5, a6, a7, a8, a9.fr (fun c _ _ => ?_), a10, Or.inl (by simp [g_sI])⟩, ((CM_sI (by decide)).trans (CM_sI (by decide))).trans (CM_sI (by decide))⟩
      rw [sI_o (by omega), sI_o (by omega), sI_o (by omega)]
    · rw [if_neg g, if_neg g]
      refine ⟨σ, ?_, h, CM.rf⟩
      by_cases g1 : 0 ≤ k ∧ k ≤ 2
      · rw [if_pos g1, if_neg one_ne]
        by_cases g2 : 0 ≤ a ∧ a ≤ 16
        · rw [if_pos g2, if_neg one_ne, if_neg (fun q => g ⟨g1, g2, q⟩), if_pos rfl]
        · rw [if_neg g2, if_pos rfl]
      · rw [if_neg g1, if_pos rfl]) (fun A σ hA h => by
    unfold fX11_odds fX11_odds_j37 vOdds uOdds
    rw [p_in, ob_s, p_in, ob_s, p_in, ob_s]
    by_cases g : gOdds k a b
    · rw [if_pos g, if_pos g, if_pos g.1, if_neg one_ne, if_pos g.2.1, if_neg one_ne]
      obtain ⟨i, x, y, hi, hxy, rfl, rfl, rfl⟩ := gOdds_n g
      rw [if_pos (show 0 ≤ nI y ∧ nI y ≤ (16 : Int32) from ⟨nI_pos' (by omega), nI_le (b := 16) (by omega) (by omega)⟩), if_neg one_ne, nI_add, if_pos (show nI (x + y) ≤ (16 : Int32) from nI_le (b := 16) (by omega) (by omega)), inb_nI hi (by omega), if_pos rfl, nI_clamp (by omega), nI_clamp (by omega), nI_clamp (by omega), (h.2.1 i hi).1, (h.2.1 i hi).2, show (16 : Int32) = nI 16 from rfl, pk_mul, nI_add]
      obtain ⟨a1, a2, a3, a4, a5, a6, a7, a8, a9⟩ := h
      exact ⟨_, rfl, ⟨a1, ODr_put a2 (fun j => by simp [g_sI]) (fun j => by simp [g_sI]), a3, a4, a5, a6, a7, a8, a9⟩, (MC_sI (by decide)).trans (MC_sI (by decide))⟩
    · rw [if_neg g, if_neg g]
      refine ⟨σ, ?_, h, MC.rf⟩
      by_cases g1 : 0 ≤ k ∧ k ≤ 2
      · rw [if_pos g1, if_neg one_ne]
        by_cases g2 : 0 ≤ a ∧ a ≤ 16
        · rw [if_pos g2, if_neg one_ne]
          by_cases g3 : 0 ≤ b ∧ b ≤ 16
          · rw [if_pos g3, if_neg one_ne, if_neg]
            intro q
            apply g
            refine ⟨g1, g2, g3.1, ?_⟩
            obtain ⟨x, hx, rfl⟩ := i32_nat (m := 16) (by omega) g2.1 g2.2
            obtain ⟨y, hy, rfl⟩ := i32_nat (m := 16) (by omega) g3.1 g3.2
            rw [nI_add] at q
            have := (nI_leI (b := 16) (by omega) (by omega)).mp q
            rw [show (16 : Int32) = nI 16 from rfl, pk_sub hx]
            exact nI_le (by omega) (by omega)
          · rw [if_neg g3, if_pos rfl]
        · rw [if_neg g2, if_pos rfl]
      · rw [if_neg g1, if_pos rfl]) σ h
/-! set -/
abbrev gSet (k v : Int32) : Prop := (0 ≤ k ∧ k ≤ 8) ∧ (0 ≤ v ∧ v ≤ nI (mostS k.toNatClampNeg))
def vSet (k v : Int32) (A : AbS) : Int32 := if gSet k v then nI (aS A k.toNatClampNeg) else -2
def uSet (k v : Int32) (A : AbS) : AbS := if gSet k v then ((aT A, aM A, aD A, putN (aS A) k.toNatClampNeg v.toNatClampNeg, aN A), A.2) else A
theorem mostS_le (k : Nat) : mostS k ≤ 99 := by
  unfold mostS
  repeat' split
  all_goals omega
theorem gSet_n {k v : Int32} (h : gSet k v) : ∃ i x : Nat, i < 9 ∧ x ≤ mostS i ∧ k = nI i ∧ v = nI x := by
  obtain ⟨h1, h2⟩ := h
  obtain ⟨i, hi, rfl⟩ := i32_nat (m := 8) (by omega) h1.1 h1.2
  rw [nI_clamp (by omega)] at h2
  obtain ⟨x, hx, rfl⟩ := i32_nat (by have := mostS_le i; omega) h2.1 h2.2
  exact ⟨i, x, by omega, hx, rfl, rfl⟩
theorem ok_set (k v : Int32) (A : AbS) (h : OKA A) : OKA (uSet k v A) := by
  unfold uSet
  split
  · rename_i g
    obtain ⟨i, x, hi, hx, rfl, rfl⟩ := gSet_n g
    have := mostS_le i
    rw [nI_clamp (by omega), nI_clamp (by omega)]
    refine ⟨h.1, h.2.1, fun j hj => ?_, h.2.2.2⟩
    show putN (aS A) i x j ≤ mostS j
    unfold putN
    by_cases e : j = i
    · rw [if_pos e, e]; exact hx
    · rw [if_neg e]; exact h.2.2.1 j hj
  · exact h
theorem SEr_put {s : Nat → Nat} {f f' : Nat → Int32} {k a : Nat} (h : SEr s f) (hf : ∀ j, f' j = if j = k then nI a else f j) : SEr (putN s k a) f' := by
  intro j hj
  rw [hf]
  unfold putN
  by_cases e : j = k
  · rw [if_pos e, if_pos e]
  · rw [if_neg e, if_neg e]; exact h j hj
theorem p_most {σ : St} {i : Nat} (hi : i < 9) : fX6_most (nI i) σ = some (nI (mostS i)) := by
  unfold fX6_most
  rw [p_itemAt (n := 9) rfl (by omega) i (by omega), if_pos hi, ob_s]
  rcases i with _ | _ | _ | _ | _ | _ | _ | _ | _ | i
  all_goals first | rfl | omega
theorem p_valueOf {σ : St} {i : Nat} (hi : i < 9) : fX6_valueOf (nI i) σ = some (σ.1 8 i) := by
  unfold fX6_valueOf
  rw [if_neg (nI_pos (by omega)), if_neg (show ¬ (9 : Int32) ≤ nI i from nI_ge (b := 9) hi (by omega)), inb_nI hi (by omega), if_pos rfl, nI_clamp (by omega)]
theorem p_setM {σ : St} {k v : Int32} (h : 0 ≤ k ∧ k ≤ 8) : fX11_set k v σ = fX11_set_j27 k v (nI (mostS k.toNatClampNeg)) σ := by
  obtain ⟨i, hi, rfl⟩ := i32_nat (m := 8) (by omega) h.1 h.2
  rw [nI_clamp (by omega)]
  unfold fX11_set fX11_set_j10
  rcases i with _ | _ | _ | _ | _ | _ | _ | _ | _ | i
  all_goals first | rfl | omega
theorem p_setM0 {σ : St} {k v : Int32} (h : ¬ (0 ≤ k ∧ k ≤ 8)) : fX11_set k v σ = some (-2, σ) := by
  have j : ∀ z, fX11_set_j27 k v z σ = some (-2, σ) := by
    intro z
    unfold fX11_set_j27 fX11_set_j47
    rw [p_in, ob_s, if_neg h, if_pos rfl]
  unfold fX11_set fX11_set_j10
  rw [j, j, j]
  repeat' split
  all_goals rfl
theorem l_set : ls_set Inv := fun σ k v h => ls_mk (vSet k v) (uSet k v) (ok_set k v) (fun A σ hA h => by
    unfold fX10_set fX10_set_j22 vSet uSet
    rw [p_within, ob_s]
    by_cases g1 : 0 ≤ k ∧ k ≤ 8
    · rw [if_pos g1, if_neg one_ne]
      obtain ⟨i, hi, rfl⟩ := i32_nat (m := 8) (by omega) g1.1 g1.2
      rw [p_most (by omega), ob_s, p_within, ob_s]
      by_cases g : gSet (nI i) v
      · have g2 := g.2
        rw [nI_clamp (by omega)] at g2
        rw [if_pos g, if_pos g, if_pos g2, if_neg one_ne]
        obtain ⟨x, hx, rfl⟩ := i32_nat (by have := mostS_le i; omega) g2.1 g2.2
        have := mostS_le i
        rw [p_valueOf (by omega), ob_s]
        unfold fX6_become
        rw [if_neg (nI_pos (by omega)), if_neg (show ¬ (9 : Int32) ≤ nI i from nI_ge (b := 9) (by omega) (by omega)), inb_nI (show i < 9 by omega) (by omega), if_pos rfl, nI_clamp (by omega), nI_clamp (by omega), h.2.2.2.1 i (by omega)]
        obtain ⟨a1, a2, a3, a4, a5, a6, a7, a8, a9, a10, -⟩ := h
        refine ⟨_, rfl, ⟨a1, a2, a3, SEr_put a4 (fun j => by simp [g_sI]), a5, a6, a7, a8, a9.fr (fun c _ _ => ?_), a10, Or.inl (by simp [g_sI])⟩, (CM_sI (by decide)).trans (CM_sI (by decide))⟩
        rw [sI_o (by omega), sI_o (by omega)]
      · have g2 : ¬ (0 ≤ v ∧ v ≤ nI (mostS i)) := fun q => g ⟨g1, by rw [nI_clamp (by omega)]; exact q⟩
        rw [if_neg g, if_neg g, if_neg g2, if_pos rfl]
        exact ⟨σ, rfl, h, CM.rf⟩
    · rw [if_neg g1, if_pos rfl, if_neg (fun q => g1 q.1), if_neg (fun q => g1 q.1)]
      exact ⟨σ, rfl, h, CM.rf⟩) (fun A σ hA h => by
    unfold vSet uSet
    by_cases g1 : 0 ≤ k ∧ k ≤ 8
    · rw [p_setM g1]
      unfold fX11_set_j27 fX11_set_j47
      rw [p_in, ob_s, if_pos g1, if_neg one_ne, p_in, ob_s]
      by_cases g : gSet k v
      · rw [if_pos g, if_pos g, if_pos g.2, if_neg one_ne]
        obtain ⟨i, x, hi, hx, rfl, rfl⟩ := gSet_n g
        have := mostS_le i
        rw [inb_nI hi (by omega), if_pos rfl, nI_clamp (by omega), nI_clamp (by omega), h.2.2.1 i hi]
        obtain ⟨a1, a2, a3, a4, a5, a6, a7, a8, a9⟩ := h
        exact ⟨_, rfl, ⟨a1, a2, SEr_put a3 (fun j => by simp [g_sI]), a4, a5, a6, a7, a8, a9⟩, MC_sI (by decide)⟩
      · rw [if_neg g, if_neg g, if_neg (fun q => g ⟨g1, q⟩), if_pos rfl]
        exact ⟨σ, rfl, h, MC.rf⟩
    · rw [p_setM0 g1, if_neg (fun q => g1 q.1), if_neg (fun q => g1 q.1)]
      exact ⟨σ, rfl, h, MC.rf⟩) σ h
/-! hear, shown, forget -/
def uNote (x : Nat × Int32 × Int32) (A : AbS) : AbS := if (aN A).length = 4 then A else ((aT A, aM A, aD A, aS A, aN A ++ [x]), A.2)
def vNote (A : AbS) : Int32 := if (aN A).length = 4 then -4 else nI (aN A).length + 1
theorem ok_note (x : Nat × Int32 × Int32) (hx : x.1 ≤ 110) (A : AbS) (h : OKA A) : OKA (uNote x A) := by
  unfold uNote
  split
  · exact h
  · obtain ⟨h1, h2, h3, ⟨h4, h5⟩, h6⟩ := h
    refine ⟨h1, h2, h3, ⟨?_, fun y hy => ?_⟩, h6⟩
    · show (aN A ++ [x]).length ≤ 4
      rw [List.length_append]; simp; omega
    · rcases List.mem_append.mp hy with q | q
      · exact h5 y q
      · rw [List.mem_singleton.mp q]; exact hx
theorem NTr_snoc {l : List (Nat × Int32 × Int32)} {z z' : Int32} {f g h f' g' h' : Nat → Int32} {x : Nat × Int32 × Int32} (H : NTr l z f g h) (hz : z' = nI l.length + 1) (hf : ∀ j, f' j = if j = l.length then nI x.1 else f j) (hg : ∀ j, g' j = if j = l.length then x.2.1 else g j) (hh : ∀ j, h' j = if j = l.length then x.2.2 else h j) : NTr (l ++ [x]) z' f' g' h' := by
  refine ⟨by rw [hz, nI_1]; simp, fun i y hy => ?_⟩
  rw [hf, hg, hh]
  by_cases e : i = l.length
  · subst e
    rw [List.getElem?_append_right (Nat.le_refl _), Nat.sub_self] at hy
    cases hy
    rw [if_pos rfl, if_pos rfl, if_pos rfl]
    exact ⟨rfl, rfl, rfl⟩
  · have hlt : i < l.length := by
      have := (List.getElem?_eq_some_iff.mp hy).1
      rw [List.length_append] at this
      simp at this; omega
    rw [List.getElem?_append_left hlt] at hy
    rw [if_neg e, if_neg e, if_neg e]
    exact H.2 i y hy
theorem c_addNote {A : AbS} {σ : St} {n : Nat} {t b : Int32} (hA : OKA A) (h : IC A σ) : ∃ σ', fX10_addNote (nI n) t b σ = some (vNote A, σ') ∧ IC (uNote (n, t, b) A) σ' ∧ CM σ σ' := by
  have hl := hA.2.2.2.1.1
  unfold fX10_addNote fX2_append vNote uNote
  rw [h.2.2.2.2.1.1, if_neg (nI_pos (by omega))]
  by_cases e : (aN A).length = 4
  · rw [if_pos e, if_pos e, if_neg (show ¬ nI (aN A).length < (4 : Int32) from by rw [e]; decide), ob_s]
    exact ⟨σ, rfl, h, CM.rf⟩
  · rw [if_neg e, if_neg e, if_pos (show nI (aN A).length < (4 : Int32) from nI_lt (b := 4) (by omega) (by omega)), inb_nI (show (aN A).length < 4 by omega) (by omega), if_pos rfl, ob_s, nI_clamp (by omega)]
    obtain ⟨a1, a2, a3, a4, a5, a6, a7, a8, a9, a10, -⟩ := h
    refine ⟨_, rfl, ⟨a1, a2, a3, a4, NTr_snoc a5 (by simp [g_sI]) (fun j => by simp [g_sI]) (fun j => by simp [g_sI]) (fun j => by simp [g_sI]), a6, a7, a8, a9.fr (fun c _ _ => ?_), a10, Or.inl (by simp [g_sI])⟩, ((((CM_sI (by decide)).trans (CM_sI (by decide))).trans (CM_sI (by decide))).trans (CM_sI (by decide))).trans (CM_sI (by decide))⟩
    rw [sI_o (by omega), sI_o (by omega), sI_o (by omega), sI_o (by omega), sI_o (by omega)]
theorem m_addNote {A : AbS} {σ : St} {n : Nat} {t b : Int32} (hA : OKA A) (h : IM A σ) : ∃ σ', fX11_notesMore (nI n) t b σ = some (vNote A, σ') ∧ IM (uNote (n, t, b) A) σ' ∧ MC σ σ' := by
  have hl := hA.2.2.2.1.1
  unfold fX11_notesMore vNote uNote
  rw [h.2.2.2.1.1]
  by_cases e : (aN A).length = 4
  · rw [if_pos e, if_pos e, if_pos (show nI (aN A).length = (4 : Int32) from by rw [e]; rfl)]
    exact ⟨σ, rfl, h, MC.rf⟩
  · rw [if_neg e, if_neg e, if_neg (show ¬ nI (aN A).length = (4 : Int32) from fun q => e (nI_inj (b := 4) (by omega) (by omega) q)), inb_nI (show (aN A).length < 4 by omega) (by omega), if_pos rfl, nI_clamp (by omega)]
    obtain ⟨a1, a2, a3, a4, a5, a6, a7, a8, a9⟩ := h
    exact ⟨_, rfl, ⟨a1, a2, a3, NTr_snoc a4 (by simp [g_sI]) (fun j => by simp [g_sI]) (fun j => by simp [g_sI]) (fun j => by simp [g_sI]), a5, a6, a7, a8, a9⟩, (((MC_sI (by decide)).trans (MC_sI (by decide))).trans (MC_sI (by decide))).trans (MC_sI (by decide))⟩
theorem num_n {v : Int32} (h : 1 ≤ v ∧ v ≤ 110) : ∃ n : Nat, 1 ≤ n ∧ n ≤ 110 ∧ v = nI n := by
  obtain ⟨n, hn, rfl⟩ := i32_nat (x := v) (m := 110) (by omega) (Int32.le_trans (by decide) h.1) h.2
  exact ⟨n, (nI_leI (a := 1) (by omega) (by omega)).mp h.1, hn, rfl⟩
abbrev gN2 (n v : Int32) (m : Int32) : Prop := (1 ≤ n ∧ n ≤ 110) ∧ (0 ≤ v ∧ v ≤ m)
theorem l_hear : ls_hear Inv := fun σ n t h => ls_mk (fun A => if gN2 n t 3 then vNote A else -2) (fun A => if gN2 n t 3 then uNote (n.toNatClampNeg, t, -1) A else A) (fun A hA => by
    split
    · rename_i g
      obtain ⟨k, h1, h2, rfl⟩ := num_n g.1
      rw [nI_clamp (by omega)]
      exact ok_note _ h2 A hA
    · exact hA) (fun A σ hA h => by
    unfold fX10_hear fX10_hear_j16
    rw [p_isNumber, ob_s, p_within, ob_s]
    by_cases g : gN2 n t 3
    · rw [if_pos g, if_pos g, if_pos g.1, if_neg one_ne, if_pos g.2, if_neg one_ne]
      obtain ⟨k, h1, h2, rfl⟩ := num_n g.1
      obtain ⟨σ', e, i, k'⟩ := c_addNote (n := k) (t := t) (b := -1) hA h
      rw [e, ob_s, nI_clamp (by omega)]
      exact ⟨σ', rfl, i, k'⟩
    · rw [if_neg g, if_neg g]
      refine ⟨σ, ?_, h, CM.rf⟩
      by_cases g1 : 1 ≤ n ∧ n ≤ 110
      · rw [if_pos g1, if_neg one_ne, if_neg (fun q => g ⟨g1, q⟩), if_pos rfl]
      · rw [if_neg g1, if_pos rfl]) (fun A σ hA h => by
    unfold fX11_hear fX11_hear_j26
    rw [p_isNumberM, ob_s, p_in, ob_s]
    by_cases g : gN2 n t 3
    · rw [if_pos g, if_pos g, if_pos g.1, if_neg one_ne, if_pos g.2, if_neg one_ne]
      obtain ⟨k, h1, h2, rfl⟩ := num_n g.1
      obtain ⟨σ', e, i, k'⟩ := m_addNote (n := k) (t := t) (b := -1) hA h
      rw [e, ob_s, nI_clamp (by omega)]
      exact ⟨σ', rfl, i, k'⟩
    · rw [if_neg g, if_neg g]
      refine ⟨σ, ?_, h, MC.rf⟩
      by_cases g1 : 1 ≤ n ∧ n ≤ 110
      · rw [if_pos g1, if_neg one_ne, if_neg (fun q => g ⟨g1, q⟩), if_pos rfl]
      · rw [if_neg g1, if_pos rfl]) σ h
theorem l_shown : ls_shown Inv := fun σ n t h => ls_mk (fun A => if gN2 n t 98 then vNote A else -2) (fun A => if gN2 n t 98 then uNote (n.toNatClampNeg, -1, t) A else A) (fun A hA => by
    split
    · rename_i g
      obtain ⟨k, h1, h2, rfl⟩ := num_n g.1
      rw [nI_clamp (by omega)]
      exact ok_note _ h2 A hA
    · exact hA) (fun A σ hA h => by
    unfold fX10_shown fX10_shown_j17
    rw [p_isNumber, ob_s, p_within, ob_s]
    by_cases g : gN2 n t 98
    · rw [if_pos g, if_pos g, if_pos g.1, if_neg one_ne, if_pos g.2, if_neg one_ne]
      obtain ⟨k, h1, h2, rfl⟩ := num_n g.1
      obtain ⟨σ', e, i, k'⟩ := c_addNote (n := k) (t := -1) (b := t) hA h
      rw [e, ob_s, nI_clamp (by omega)]
      exact ⟨σ', rfl, i, k'⟩
    · rw [if_neg g, if_neg g]
      refine ⟨σ, ?_, h, CM.rf⟩
      by_cases g1 : 1 ≤ n ∧ n ≤ 110
      · rw [if_pos g1, if_neg one_ne, if_neg (fun q => g ⟨g1, q⟩), if_pos rfl]
      · rw [if_neg g1, if_pos rfl]) (fun A σ hA h => by
    unfold fX11_shown fX11_shown_j27
    rw [p_isNumberM, ob_s, p_in, ob_s]
    by_cases g : gN2 n t 98
    · rw [if_pos g, if_pos g, if_pos g.1, if_neg one_ne, if_pos g.2, if_neg one_ne]
      obtain ⟨k, h1, h2, rfl⟩ := num_n g.1
      obtain ⟨σ', e, i, k'⟩ := m_addNote (n := k) (t := -1) (b := t) hA h
      rw [e, ob_s, nI_clamp (by omega)]
      exact ⟨σ', rfl, i, k'⟩
    · rw [if_neg g, if_neg g]
      refine ⟨σ, ?_, h, MC.rf⟩
      by_cases g1 : 1 ≤ n ∧ n ≤ 110
      · rw [if_pos g1, if_neg one_ne, if_neg (fun q => g ⟨g1, q⟩), if_pos rfl]
      · rw [if_neg g1, if_pos rfl]) σ h
theorem l_forget : ls_forget Inv := fun σ h => ls_mk (fun A => nI (aN A).length) (fun A => ((aT A, aM A, aD A, aS A, []), A.2)) (fun A h => ⟨h.1, h.2.1, h.2.2.1, ⟨Nat.zero_le _, fun x hx => by cases hx⟩, h.2.2.2.2⟩) (fun A σ hA h => by
    unfold fX10_forget
    rw [h.2.2.2.2.1.1]
    obtain ⟨a1, a2, a3, a4, a5, a6, a7, a8, a9, a10, -⟩ := h
    refine ⟨_, rfl, ⟨a1, a2, a3, a4, ⟨by simp [g_sI]; rfl, fun i x hx => by have hx' : ([] : List (Nat × Int32 × Int32))[i]? = some x := hx; simp at hx'⟩, a6, a7, a8, a9.fr (fun c _ _ => ?_), a10, Or.inl (by simp [g_sI])⟩, (CM_sI (by decide)).trans (CM_sI (by decide))⟩
    rw [sI_o (by omega), sI_o (by omega)]) (fun A σ hA h => by
    unfold fX11_forget
    rw [h.2.2.2.1.1]
    obtain ⟨a1, a2, a3, a4, a5, a6, a7, a8, a9⟩ := h
    exact ⟨_, rfl, ⟨a1, a2, a3, ⟨by simp [g_sI]; rfl, fun i x hx => by have hx' : ([] : List (Nat × Int32 × Int32))[i]? = some x := hx; simp at hx'⟩, a5, a6, a7, a8, a9⟩, MC_sI (by decide)⟩) σ h
