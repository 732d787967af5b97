/-! what notes weigh, on both sides -/
theorem ntL_snoc (C : CoS) (N b : Nat) (x : Nat × Int32 × Int32) : ∀ l, ntL C N b (l ++ [x]) = ntL C N b l * nt1 C N b x := by
  intro l
  induction l with
  | nil => show nt1 C N b x * 1 = 1 * nt1 C N b x; omega
  | cons y l ih => show nt1 C N b y * ntL C N b (l ++ [x]) = nt1 C N b y * ntL C N b l * nt1 C N b x; rw [ih, Nat.mul_assoc]
theorem ntL_take {C : CoS} {N b k : Nat} {x : Nat × Int32 × Int32} {l : List (Nat × Int32 × Int32)} (h : l[k]? = some x) : ntL C N b (l.take (k + 1)) = ntL C N b (l.take k) * nt1 C N b x := by
  rw [List.take_succ, h]; exact ntL_snoc C N b x _
theorem tu_kd {T : List Int32} {b : Nat} (hb : b < (bsOf T).length) : tuB (bsOf T) b = -1 ↔ ¬ kdB (bsOf T) b = 4 := by
  have hm : (kdB (bsOf T) b, tuB (bsOf T) b) ∈ bsOf T := List.mem_of_getElem? (bs_at hb)
  rcases (BG_bsOf T).2 _ hm with h | h
  · refine ⟨fun z => ?_, fun z => absurd h.1 z⟩
    have h2 := h.2.1
    dsimp only at h2
    rw [z] at h2
    exact absurd h2 (by decide)
  · refine ⟨fun _ z => ?_, fun _ => h.1⟩
    have h2 := h.2
    dsimp only at h2
    rw [z] at h2
    revert h2; decide
theorem seLe {A : AbS} (hA : OKA A) {k : Nat} (hk : k < 4) : aS A k ≤ 16 := by
  have h := hA.2.2.1 k (by omega)
  have : mostS k = 16 := by
    rcases k with _ | _ | _ | _ | k
    all_goals first | rfl | omega
  omega
theorem c_weigh {A : AbS} {σ τ : St} {N b : Nat} (hA : OKA A) (h : IC A σ) (e : τ.1 = σ.1) (hb : b < (aB A).length) (hN : N < 2 ^ 31) : fX2_weigh (nI N) (nI b) (tuB (aB A) b) τ = some (lN (ntW A.1 N b)) := by
  have hl := hA.2.2.2.1.1
  have hlb := lenB A
  obtain ⟨n1, n2⟩ := h.2.2.2.2.1
  have key : ∃ r, lpc (fun s => fX2_weigh_b6 (nI N) (nI b) (tuB (aB A) b) s.1 s.2 τ) ((1 : Int64), (0 : Int32)) = some r ∧ r = lN (ntW A.1 N b) := by
    refine lpc_cnt (a := 0) (b := (aN A).length) (fun k s => s.2 = nI k ∧ s.1 = lN (ntL A.1 N b ((aN A).take k))) _ (Nat.zero_le _) ?_ ?_ ⟨rfl, rfl⟩
    · rintro k ⟨x1, x2⟩ _ hk ⟨f1, f2⟩
      dsimp only at f1 f2
      subst f1
      subst f2
      obtain ⟨x, hx⟩ : ∃ x, (aN A)[k]? = some x := ⟨_, List.getElem?_eq_getElem hk⟩
      obtain ⟨m1, m2, m3⟩ := n2 k x hx
      have hx110 : x.1 ≤ 110 := hA.2.2.2.1.2 x (List.mem_of_getElem? hx)
      rw [ntL_take hx]
      show ∃ s', fX2_weigh_b6 (nI N) (nI b) (tuB (aB A) b) (lN (ntL A.1 N b ((aN A).take k))) (nI k) τ = some (.inl s') ∧ _
      unfold fX2_weigh_b6 fX2_weigh_j79 fX2_weigh_j125 fX2_weigh_j132
      simp only [ltb]
      have v : ∀ i, i < 9 → fX6_valueOf (nI i) τ = some (nI (aS A i)) := fun i hi => by rw [p_valueOf hi, e]; exact congrArg some (h.2.2.2.1 i hi)
      rw [e, n1, if_neg (nI_ge hk (by omega)), if_neg (show ¬ (4 : Int32) ≤ nI k from nI_ge (b := 4) (by omega) (by omega)), inb_nI (show k < 4 by omega) (by omega), if_pos rfl, nI_clamp (show k < 2 ^ 31 by omega), m1, m2, m3, show fX6_valueOf (3 : Int32) τ = some (nI (aS A 3)) from v 3 (by omega), ob_s, show fX6_valueOf (2 : Int32) τ = some (nI (aS A 2)) from v 2 (by omega), ob_s, show fX6_valueOf (0 : Int32) τ = some (nI (aS A 0)) from v 0 (by omega), ob_s, show fX6_valueOf (1 : Int32) τ = some (nI (aS A 1)) from v 1 (by omega), ob_s, show (16 : Int32) - nI (aS A 3) = nI (16 - aS A 3) from pk_sub (a := 16) (seLe hA (by omega))]
      have s0 := seLe hA (k := 0) (by omega)
      have s1 := seLe hA (k := 1) (by omega)
      have s2 := seLe hA (k := 2) (by omega)
      have s3 := seLe hA (k := 3) (by omega)
      rw [lmul _ _ (by omega), lmul _ _ (by omega), lmul _ _ (by omega), lmul _ _ (by omega), lmul _ _ (by omega)]
      unfold nt1
      by_cases q1 : x.1 = N
      · rw [if_pos q1, if_pos (show nI x.1 = nI N by rw [q1])]
        by_cases q2 : x.2.1 = -1
        · rw [if_pos q2, if_pos q2]
          by_cases q3 : x.2.2 = nI b
          · rw [if_pos q3, if_pos q3]; exact ⟨_, rfl, nI_1 k, rfl⟩
          · rw [if_neg q3, if_neg q3]; exact ⟨_, rfl, nI_1 k, rfl⟩
        · rw [if_neg q2, if_neg q2]
          have tk := tu_kd (T := aT A) hb
          by_cases q4 : kdB (cB A.1) b = 4
          · rw [if_pos q4, if_neg (show ¬ tuB (aB A) b = -1 from fun z => tk.mp z q4)]
            by_cases q5 : tuB (cB A.1) b = x.2.1
            · rw [if_pos q5, if_pos (show tuB (aB A) b = x.2.1 from q5)]; exact ⟨_, rfl, nI_1 k, rfl⟩
            · rw [if_neg q5, if_neg (show ¬ tuB (aB A) b = x.2.1 from q5)]; exact ⟨_, rfl, nI_1 k, rfl⟩
          · rw [if_neg q4, if_pos (show tuB (aB A) b = -1 from tk.mpr q4)]; exact ⟨_, rfl, nI_1 k, rfl⟩
      · rw [if_neg q1, if_neg (fun z => q1 (nI_inj (by omega) hN z)), Nat.mul_one]; exact ⟨_, rfl, nI_1 k, rfl⟩
    · rintro ⟨x1, x2⟩ ⟨f1, f2⟩
      dsimp only at f1 f2
      subst f1
      rw [List.take_length] at f2
      refine ⟨x1, ?_, f2⟩
      show fX2_weigh_b6 (nI N) (nI b) (tuB (aB A) b) x1 (nI (aN A).length) τ = _
      unfold fX2_weigh_b6
      rw [e, n1, if_pos (Int32.le_refl _)]
  obtain ⟨r, e1, hr⟩ := key
  unfold fX2_weigh
  rw [e1, ob_s, hr]
theorem m_weigh {A : AbS} {σ τ : St} {N b : Nat} (hA : OKA A) (h : IM A σ) (p : PSm (aB A) σ) (e : τ.1 = σ.1) (hb : b < (aB A).length) (hN : N < 2 ^ 31) : fX11_notesWeigh (nI N) (nI b) τ = some (lN (ntW A.1 N b)) := by
  have hl := hA.2.2.2.1.1
  have hlb := lenB A
  obtain ⟨n1, n2⟩ := h.2.2.2.1
  obtain ⟨g1, g2, g3⟩ := p.2.2.2.at hb
  have key : ∃ r, lpc (fun s => fX11_notesWeigh_b5 (nI N) (nI b) s.1 s.2 τ) ((1 : Int64), (0 : Int32)) = some r ∧ r = lN (ntW A.1 N b) := by
    refine lpc_cnt (a := 0) (b := (aN A).length) (fun k s => s.2 = nI k ∧ s.1 = lN (ntL A.1 N b ((aN A).take k))) _ (Nat.zero_le _) ?_ ?_ ⟨rfl, rfl⟩
    · rintro k ⟨x1, x2⟩ _ hk ⟨f1, f2⟩
      dsimp only at f1 f2
      subst f1
      subst f2
      obtain ⟨x, hx⟩ : ∃ x, (aN A)[k]? = some x := ⟨_, List.getElem?_eq_getElem hk⟩
      obtain ⟨m1, m2, m3⟩ := n2 k x hx
      have hx110 : x.1 ≤ 110 := hA.2.2.2.1.2 x (List.mem_of_getElem? hx)
      rw [ntL_take hx]
      show ∃ s', fX11_notesWeigh_b5 (nI N) (nI b) (lN (ntL A.1 N b ((aN A).take k))) (nI k) τ = some (.inl s') ∧ _
      unfold fX11_notesWeigh_b5 fX11_notesWeigh_j68 fX11_notesWeigh_j73 fX11_notesWeigh_j138 fX11_notesWeigh_j140
      simp only [ltb]
      have s0 := seLe hA (k := 0) (by omega)
      have s1 := seLe hA (k := 1) (by omega)
      have s2 := seLe hA (k := 2) (by omega)
      have s3 := seLe hA (k := 3) (by omega)
      rw [e, n1, if_neg (nI_ge hk (by omega)), inb_nI (show k < 4 by omega) (by omega), if_pos rfl, nI_clamp (show k < 2 ^ 31 by omega), m1, m2, m3, inb_nI (show b < 100 by omega) (by omega), if_pos rfl, if_pos rfl, nI_clamp (show b < 2 ^ 31 by omega), g1, g2, h.2.2.1 0 (by omega), h.2.2.1 1 (by omega), h.2.2.1 2 (by omega), h.2.2.1 3 (by omega), show (16 : Int32) - nI (aS A 3) = nI (16 - aS A 3) from pk_sub (a := 16) s3, lmul _ _ (by omega), lmul _ _ (by omega), lmul _ _ (by omega), lmul _ _ (by omega), lmul _ _ (by omega)]
      unfold nt1
      by_cases q1 : x.1 = N
      · rw [if_pos q1, if_pos (show nI x.1 = nI N by rw [q1])]
        by_cases q2 : x.2.1 = -1
        · rw [if_pos q2, if_pos q2]
          by_cases q3 : x.2.2 = nI b
          · rw [if_pos q3, if_pos q3]; exact ⟨_, rfl, nI_1 k, rfl⟩
          · rw [if_neg q3, if_neg q3]; exact ⟨_, rfl, nI_1 k, rfl⟩
        · rw [if_neg q2, if_neg q2, if_pos (show nI x.1 = nI N by rw [q1])]
          by_cases q4 : kdB (cB A.1) b = 4
          · rw [if_pos q4, if_pos (show kdB (aB A) b = 4 from q4)]
            by_cases q5 : tuB (cB A.1) b = x.2.1
            · rw [if_pos q5, if_pos (show tuB (aB A) b = x.2.1 from q5)]; exact ⟨_, rfl, nI_1 k, rfl⟩
            · rw [if_neg q5, if_neg (show ¬ tuB (aB A) b = x.2.1 from q5)]; exact ⟨_, rfl, nI_1 k, rfl⟩
          · rw [if_neg q4, if_neg (show ¬ kdB (aB A) b = 4 from q4)]; exact ⟨_, rfl, nI_1 k, rfl⟩
      · have q1' : ¬ nI x.1 = nI N := fun z => q1 (nI_inj (by omega) hN z)
        rw [if_neg q1, if_neg q1', if_neg q1', Nat.mul_one]; exact ⟨_, rfl, nI_1 k, rfl⟩
    · rintro ⟨x1, x2⟩ ⟨f1, f2⟩
      dsimp only at f1 f2
      subst f1
      rw [List.take_length] at f2
      refine ⟨x1, ?_, f2⟩
      show fX11_notesWeigh_b5 (nI N) (nI b) x1 (nI (aN A).length) τ = _
      unfold fX11_notesWeigh_b5
      rw [e, n1, if_pos (Int32.le_refl _)]
  obtain ⟨r, e1, hr⟩ := key
  unfold fX11_notesWeigh
  rw [e1, ob_s, hr]
