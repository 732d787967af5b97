/-! links by their words -/
def fl_ok (own : String) (idx ci j : Nat) : Prop := ∃ (C : String) (T : u_T) (N : Nat), classes[ci]? = some (C, T, N) ∧ j < N ∧ (∀ w ∈ u_ws C T N, w ∈ lw_gd) ∧ ((Cond.fieldLink own idx (T j).1 (T j).2.1 (T j).2.2.1 ∈ lw_gd) ∨ (∃ host, Cond.fieldLinkNest own idx (T j).1 (T j).2.1 (T j).2.2.1 host ∈ lw_nw))
def fp_ok (own : String) (idx ci j : Nat) (ty : FieldType) : Prop := ∃ (C : String) (T : u_T) (N : Nat) (ty0 : Nat → FieldType), classes[ci]? = some (C, T, N) ∧ j < N ∧ (∀ w ∈ u_ws C T N, w ∈ lw_gd) ∧ ((Cond.fieldLink own idx (T j).1 (T j).2.1 (T j).2.2.1 ∈ lw_gd) ∨ (∃ host, Cond.fieldLinkNest own idx (T j).1 (T j).2.1 (T j).2.2.1 host ∈ lw_nw)) ∧ (∀ k, k < N → parseFieldDescriptor (T k).2.2.1 = some (ty0 k)) ∧ (∀ a, a < N → ∀ b, b < N → a ≠ b → (T a).2.1 ≠ (T b).2.1) ∧ (T j).2.2.2 = false ∧ parseFieldDescriptor (T j).2.2.1 = some ty
def ml_ok (own : String) (idx : Nat) (y : MethodName) : Prop := (Cond.methodLink own idx y ∈ lw_gd) ∨ ∃ host, Cond.methodLinkNest own idx y host ∈ lw_nw
def yl_ok (y : MethodName) (M : am_M) (n : Nat) : Prop := (y.cls ≠ "java/lang/invoke/MethodHandle" ∧ y.cls ≠ "java/lang/invoke/VarHandle" ∧ (parseMethodDescriptor y.desc).map (fun d => d.parameters.length) = some n) ∧ Cond.code y M.2.1 M.2.2.1 M.2.2.2 ∈ lw_gd ∧ Cond.initialized y.cls ∈ lw_gd
def yv_ok (y : MethodName) (ci : Nat) : Prop := Cond.instanceMethod y ∈ lw_gd ∧ ∃ (C : String) (T : u_T) (N : Nat), classes[ci]? = some (C, T, N) ∧ Cond.selects C y y ∈ lw_gd
section AXM
variable {G : ag_G} {M : am_M} {h k pc : Nat} {ls : List (Nat × Value)} {st : List Value} {σ : St} {Q : Option Value → St → Prop}
theorem AX.getf {idx ci j r : Nat} {fs : List (Option (Option Nat))} {f : Option (Option Nat)} (hd : decode M.2.1 pc = .ok (.getfield idx, 3)) (hf : fl_ok M.1 idx ci j) (ht : tw[r]? = some (.inl (ci, fs))) (hj : fs[j]? = some f) (kk : AX G M h k (pc + 3) ls (tw_fld G σ r j f :: st) σ Q) : AX G M h k pc ls (.ref (G.2.2.1 r) :: st) σ Q := by
  intro p l e R s m args below meth c H locs cells slots Z A lsA C hP hD hS hl hr
  obtain ⟨Cn, T, N, hc, hN, hin, hlk⟩ := hf
  have he := tw_at (G := G) (σ := σ) ht
  have hv : (fs.mapIdx (tw_fld G σ r))[j]? = some (tw_fld G σ r j f) := by rw [List.getElem?_mapIdx, hj]; rfl
  rcases hlk with hlk | ⟨host, hlk⟩
  · exact va_get C.1 C.2.1 C.2.2.2.2.1 hin C.2.2.2.1 C.2.2.2.2.2.2.1 hP r he hc j hN (C.2.2.2.2.1 _ hlk) (fun _ h9 => h9) hv hd (kk C hP hD hS hl hr)
  · exact va_getN C.1 C.2.1 C.2.2.2.2.1 hin C.2.2.2.1 C.2.2.2.2.2.2.1 hP r he hc j hN (va_Nw.use rfl (C.2.2.2.2.2.1 _ hlk)) (fun _ h9 => h9) hv hd (kk C hP hD hS hl hr)
theorem AX.getI {idx ci j r : Nat} {fs : List (Option (Option Nat))} (hd : decode M.2.1 pc = .ok (.getfield idx, 3)) (hf : fl_ok M.1 idx ci j) (ht : tw[r]? = some (.inl (ci, fs))) (hj : fs[j]? = some none) (kk : AX G M h k (pc + 3) ls (.int (σ.1 r j) :: st) σ Q) : AX G M h k pc ls (.ref (G.2.2.1 r) :: st) σ Q := AX.getf hd hf ht hj kk
theorem AX.getJ {idx ci j r : Nat} {fs : List (Option (Option Nat))} (hd : decode M.2.1 pc = .ok (.getfield idx, 3)) (hf : fl_ok M.1 idx ci j) (ht : tw[r]? = some (.inl (ci, fs))) (hj : fs[j]? = some (some none)) (kk : AX G M h k (pc + 3) ls (.long (σ.2 r j) :: st) σ Q) : AX G M h k pc ls (.ref (G.2.2.1 r) :: st) σ Q := AX.getf hd hf ht hj kk
theorem AX.getR {idx ci j r r' : Nat} {fs : List (Option (Option Nat))} (hd : decode M.2.1 pc = .ok (.getfield idx, 3)) (hf : fl_ok M.1 idx ci j) (ht : tw[r]? = some (.inl (ci, fs))) (hj : fs[j]? = some (some (some r'))) (kk : AX G M h k (pc + 3) ls (.ref (G.2.2.1 r') :: st) σ Q) : AX G M h k pc ls (.ref (G.2.2.1 r) :: st) σ Q := AX.getf hd hf ht hj kk
theorem AX.putf {idx ci j r : Nat} {fs : List (Option (Option Nat))} {ty : FieldType} {v : Value} {σ' : St} (hd : decode M.2.1 pc = .ok (.putfield idx, 3)) (hf : fp_ok M.1 idx ci j ty) (ht : tw[r]? = some (.inl (ci, fs))) (hj : j < fs.length) (hn : narrow ty v = v) (hfit : fits ty v = true)
    (he' : (fs.mapIdx (tw_fld G σ r)).set j v = fs.mapIdx (tw_fld G σ' r)) (ho : ∀ q d', q ≠ r → tw_cell G σ' q d' = tw_cell G σ q d') (kk : AX G M h k (pc + 3) ls st σ' Q) : AX G M h k pc ls (v :: .ref (G.2.2.1 r) :: st) σ Q := by
  intro p l e R s m args below meth c H locs cells slots Z A lsA C hP hD hS hl hr
  obtain ⟨Cn, T, N, ty0, hc, hN, hin, hlk, hty, hnm, hfin, hds⟩ := hf
  have he := tw_at (G := G) (σ := σ) ht
  have hlen : j < (fs.mapIdx (tw_fld G σ r)).length := by simpa using hj
  have hset : (tw_W G σ).set r (G.2.2.1 r, .inr (ci, (fs.mapIdx (tw_fld G σ r)).set j v)) = tw_W G σ' := tw_set ht (by rw [he']; rfl) ho
  rcases hlk with hlk | ⟨host, hlk⟩
  · refine va_put C.1 C.2.1 C.2.2.2.2.1 hin ty0 hty hnm C.2.2.2.1 C.2.2.2.2.2.2.1 hP hD hS r he hc j hN (C.2.2.2.2.1 _ hlk) (fun _ h9 => h9) hfin hds hn hfit hlen hd (fun H1 locs1 hP1 hD1 hS1 => ?_)
    rw [hset] at hP1 hD1
    exact kk C hP1 hD1 hS1 hl hr
  · refine va_putN C.1 C.2.1 C.2.2.2.2.1 hin ty0 hty hnm C.2.2.2.1 C.2.2.2.2.2.2.1 hP hD hS r he hc j hN (va_Nw.use rfl (C.2.2.2.2.2.1 _ hlk)) (fun _ h9 => h9) hfin hds hn hfit hlen hd (fun H1 locs1 hP1 hD1 hS1 => ?_)
    rw [hset] at hP1 hD1
    exact kk C hP1 hD1 hS1 hl hr
theorem AX.putI {idx ci j r : Nat} {fs : List (Option (Option Nat))} {ty : FieldType} {v : Int32} (hd : decode M.2.1 pc = .ok (.putfield idx, 3)) (hf : fp_ok M.1 idx ci j ty) (ht : tw[r]? = some (.inl (ci, fs))) (hj : fs[j]? = some none) (hn : narrow ty (.int v) = .int v) (hfit : fits ty (.int v) = true) (kk : AX G M h k (pc + 3) ls st (sI σ r j v) Q) : AX G M h k pc ls (.int v :: .ref (G.2.2.1 r) :: st) σ Q := by
  refine AX.putf hd hf ht (List.getElem?_eq_some_iff.mp hj).1 hn hfit ?_ (fun q d' hq => rI_cell q d' hq) kk
  apply List.ext_getElem?
  intro i
  by_cases hi : i = j
  · subst hi
    rw [List.getElem?_set_self (by simpa using (List.getElem?_eq_some_iff.mp hj).1), List.getElem?_mapIdx, hj]
    simp [tw_fld, sI, rI_own, upd]
  · rw [List.getElem?_set_ne (Ne.symm hi), List.getElem?_mapIdx, List.getElem?_mapIdx]
    cases fs[i]? with
    | none => rfl
    | some f => cases f with
      | none => simp [tw_fld, sI, rI_own, upd, hi]
      | some f => cases f <;> rfl
theorem AX.putJ {idx ci j r : Nat} {fs : List (Option (Option Nat))} {v : Int64} (hd : decode M.2.1 pc = .ok (.putfield idx, 3)) (hf : fp_ok M.1 idx ci j .long) (ht : tw[r]? = some (.inl (ci, fs))) (hj : fs[j]? = some (some none)) (kk : AX G M h k (pc + 3) ls st (sL σ r j v) Q) : AX G M h k pc ls (.long v :: .ref (G.2.2.1 r) :: st) σ Q := by
  refine AX.putf hd hf ht (List.getElem?_eq_some_iff.mp hj).1 rfl rfl ?_ (fun q d' hq => rL_cell q d' hq) kk
  apply List.ext_getElem?
  intro i
  by_cases hi : i = j
  · subst hi
    rw [List.getElem?_set_self (by simpa using (List.getElem?_eq_some_iff.mp hj).1), List.getElem?_mapIdx, hj]
    simp [tw_fld, sL, rL_own, vp_updL]
  · rw [List.getElem?_set_ne (Ne.symm hi), List.getElem?_mapIdx, List.getElem?_mapIdx]
    cases fs[i]? with
    | none => rfl
    | some f => cases f with
      | none => simp [tw_fld, sL, rL]
      | some f => cases f with
        | none => simp [tw_fld, sL, rL_own, vp_updL, hi]
        | some f => rfl
/-! arrays -/
def inb (i : Int32) (n : Nat) : Bool := decide (0 ≤ i) && decide (i.toNatClampNeg < n)
theorem inb_in {i : Int32} {n : Nat} (hi : inb i n = true) : vp_in i n := by
  unfold inb at hi
  simp only [Bool.and_eq_true, decide_eq_true_eq] at hi
  rintro (q | q)
  · exact absurd hi.1 (Int32.not_le.mpr q)
  · omega
def wi (r : Nat) : Option Nat := match tw[r]? with
  | some (.inr (0, n, _)) => some n
  | _ => none
def wj (r : Nat) : Option Nat := match tw[r]? with
  | some (.inr (1, n, _)) => some n
  | _ => none
theorem wi_tw {r n : Nat} (hr : wi r = some n) : ∃ rs, tw[r]? = some (.inr (0, n, rs)) := by
  unfold wi at hr
  split at hr
  · rename_i n' rs he
    cases hr
    exact ⟨rs, he⟩
  · cases hr
theorem wj_tw {r n : Nat} (hr : wj r = some n) : ∃ rs, tw[r]? = some (.inr (1, n, rs)) := by
  unfold wj at hr
  split at hr
  · rename_i n' rs he
    cases hr
    exact ⟨rs, he⟩
  · cases hr
def ri (r : Nat) : Option Nat := if r = 1000 then some 3 else if r = 1001 then some 9 else wi r
def rv (σ : St) (r i : Nat) : Int32 := if r = 1000 then xa_D.getD i 0 else if r = 1001 then xa_M.getD i 0 else σ.1 r i
theorem AX.iald {r n : Nat} {i : Int32} (hd : decode M.2.1 pc = .ok (.iaload, 1)) (hw : wi r = some n) (hi : inb i n = true) (kk : AX G M h k (pc + 1) ls (.int (σ.1 r i.toNatClampNeg) :: st) σ Q) : AX G M h k pc ls (.int i :: .ref (G.2.2.1 r) :: st) σ Q := by
  intro p l e R s m args below meth c H locs cells slots Z A lsA C hP hD hS hl hr
  obtain ⟨rs, ht⟩ := wi_tw hw
  exact va_iald C.1 C.2.1 C.2.2.2.2.2.2.1 hP r 0 (tw_at ht) rfl (inb_in hi) hd (kk C hP hD hS hl hr)
theorem AX.ialdR {r n : Nat} {i : Int32} (hd : decode M.2.1 pc = .ok (.iaload, 1)) (hw : ri r = some n) (hi : inb i n = true) (kk : AX G M h k (pc + 1) ls (.int (rv σ r i.toNatClampNeg) :: st) σ Q) : AX G M h k pc ls (.int i :: .ref (G.2.2.1 r) :: st) σ Q := by
  unfold ri at hw
  by_cases h0 : r = 1000
  · subst h0
    rw [if_pos rfl] at hw
    cases hw
    intro p l e R s m args below meth c H locs cells slots Z A lsA C hP hD hS hl hr
    exact va_ti C.1 C.2.1 C.2.2.2.2.2.2.2.1.2.1 hS (inb_in hi) rfl hd (kk C hP hD hS hl hr)
  · rw [if_neg h0] at hw
    by_cases h1 : r = 1001
    · subst h1
      rw [if_pos rfl] at hw
      cases hw
      intro p l e R s m args below meth c H locs cells slots Z A lsA C hP hD hS hl hr
      exact va_ti C.1 C.2.1 C.2.2.2.2.2.2.2.1.2.2.1 hS (inb_in hi) rfl hd (kk C hP hD hS hl hr)
    · rw [if_neg h1] at hw
      have e : rv σ r i.toNatClampNeg = σ.1 r i.toNatClampNeg := by unfold rv; rw [if_neg h0, if_neg h1]
      rw [e] at kk
      exact AX.iald hd hw hi kk
theorem AX.alenR {r n : Nat} (hd : decode M.2.1 pc = .ok (.arraylength, 1)) (hw : ri r = some n) (kk : AX G M h k (pc + 1) ls (.int (Int32.ofNat n) :: st) σ Q) : AX G M h k pc ls (.ref (G.2.2.1 r) :: st) σ Q := by
  unfold ri at hw
  by_cases h0 : r = 1000
  · subst h0
    rw [if_pos rfl] at hw
    cases hw
    intro p l e R s m args below meth c H locs cells slots Z A lsA C hP hD hS hl hr
    exact va_tlen C.1 C.2.1 C.2.2.2.2.2.2.2.1.2.1 hS rfl hd (kk C hP hD hS hl hr)
  · rw [if_neg h0] at hw
    by_cases h1 : r = 1001
    · subst h1
      rw [if_pos rfl] at hw
      cases hw
      intro p l e R s m args below meth c H locs cells slots Z A lsA C hP hD hS hl hr
      exact va_tlen C.1 C.2.1 C.2.2.2.2.2.2.2.1.2.2.1 hS rfl hd (kk C hP hD hS hl hr)
    · rw [if_neg h1] at hw
      intro p l e R s m args below meth c H locs cells slots Z A lsA C hP hD hS hl hr
      obtain ⟨rs, ht⟩ := wi_tw hw
      exact va_alen C.1 C.2.1 C.2.2.2.2.2.2.1 hP r 0 (tw_at ht) (ty := .int) rfl rfl hd (kk C hP hD hS hl hr)
theorem AX.alenJ {r n : Nat} (hd : decode M.2.1 pc = .ok (.arraylength, 1)) (hw : wj r = some n) (kk : AX G M h k (pc + 1) ls (.int (Int32.ofNat n) :: st) σ Q) : AX G M h k pc ls (.ref (G.2.2.1 r) :: st) σ Q := by
  intro p l e R s m args below meth c H locs cells slots Z A lsA C hP hD hS hl hr
  obtain ⟨rs, ht⟩ := wj_tw hw
  exact va_alen C.1 C.2.1 C.2.2.2.2.2.2.1 hP r 1 (tw_at ht) (ty := .long) rfl rfl hd (kk C hP hD hS hl hr)
theorem AX.alenS (hd : decode M.2.1 pc = .ok (.arraylength, 1)) (kk : AX G M h k (pc + 1) ls (.int 4 :: st) σ Q) : AX G M h k pc ls (.ref (G.2.2.1 35) :: st) σ Q := by
  intro p l e R s m args below meth c H locs cells slots Z A lsA C hP hD hS hl hr
  exact va_alen C.1 C.2.1 C.2.2.2.2.2.2.1 hP 35 3 (tw_at (k := 35) rfl) (ty := .object "OneTriangle$Sheet") rfl rfl hd (kk C hP hD hS hl hr)
theorem AX.alenX (hd : decode M.2.1 pc = .ok (.arraylength, 1)) (kk : AX G M h k (pc + 1) ls (.int (Int32.ofNat G.2.2.2.1) :: st) σ Q) : AX G M h k pc ls (.ref (G.2.2.1 1002) :: st) σ Q := by
  intro p l e R s m args below meth c H locs cells slots Z A lsA C hP hD hS hl hr
  exact va_tlen C.1 C.2.1 C.2.2.2.2.2.2.2.1.2.2.2 hS rfl hd (kk C hP hD hS hl hr)
theorem AX.ialdX {i : Int32} (hd : decode M.2.1 pc = .ok (.iaload, 1)) (hi : inb i G.2.2.2.1 = true) (kk : AX G M h k (pc + 1) ls (.int (G.2.2.2.2 i.toNatClampNeg) :: st) σ Q) : AX G M h k pc ls (.int i :: .ref (G.2.2.1 1002) :: st) σ Q := by
  intro p l e R s m args below meth c H locs cells slots Z A lsA C hP hD hS hl hr
  exact va_ti C.1 C.2.1 C.2.2.2.2.2.2.2.1.2.2.2 hS (inb_in hi) rfl hd (kk C hP hD hS hl hr)
theorem AX.lald {r n : Nat} {i : Int32} (hd : decode M.2.1 pc = .ok (.laload, 1)) (hw : wj r = some n) (hi : inb i n = true) (kk : AX G M h k (pc + 1) ls (.long (σ.2 r i.toNatClampNeg) :: st) σ Q) : AX G M h k pc ls (.int i :: .ref (G.2.2.1 r) :: st) σ Q := by
  intro p l e R s m args below meth c H locs cells slots Z A lsA C hP hD hS hl hr
  obtain ⟨rs, ht⟩ := wj_tw hw
  exact va_lald C.1 C.2.1 C.2.2.2.2.2.2.1 hP r 1 (tw_at ht) rfl (inb_in hi) hd (kk C hP hD hS hl hr)
theorem AX.iast {r n : Nat} {i x : Int32} (hd : decode M.2.1 pc = .ok (.iastore, 1)) (hw : wi r = some n) (hi : inb i n = true) (kk : AX G M h k (pc + 1) ls st (sI σ r i.toNatClampNeg x) Q) : AX G M h k pc ls (.int x :: .int i :: .ref (G.2.2.1 r) :: st) σ Q := by
  intro p l e R s m args below meth c H locs cells slots Z A lsA C hP hD hS hl hr
  obtain ⟨rs, ht⟩ := wi_tw hw
  have hset : (tw_W G σ).set r (G.2.2.1 r, .inl (G.2.1 0, n, .inl (upd (σ.1 r) i.toNatClampNeg x))) = tw_W G (sI σ r i.toNatClampNeg x) := tw_set ht (by show Sum.inl (_, _, Sum.inl ((rI σ r _).1 r)) = _; rw [rI_own]) (fun q d' hq => rI_cell q d' hq)
  refine va_iast C.1 C.2.1 C.2.2.2.2.2.2.1 hP hD hS r 0 (tw_at ht) rfl (inb_in hi) hd (fun H1 locs1 hP1 hD1 hS1 => ?_)
  rw [hset] at hP1 hD1
  exact kk C hP1 hD1 hS1 hl hr
theorem AX.last {r n : Nat} {i : Int32} {x : Int64} (hd : decode M.2.1 pc = .ok (.lastore, 1)) (hw : wj r = some n) (hi : inb i n = true) (kk : AX G M h k (pc + 1) ls st (sL σ r i.toNatClampNeg x) Q) : AX G M h k pc ls (.long x :: .int i :: .ref (G.2.2.1 r) :: st) σ Q := by
  intro p l e R s m args below meth c H locs cells slots Z A lsA C hP hD hS hl hr
  obtain ⟨rs, ht⟩ := wj_tw hw
  have hset : (tw_W G σ).set r (G.2.2.1 r, .inl (G.2.1 1, n, .inr (.inl (vp_updL (σ.2 r) i.toNatClampNeg x)))) = tw_W G (sL σ r i.toNatClampNeg x) := tw_set ht (by show Sum.inl (_, _, Sum.inr (Sum.inl ((rL σ r _).2 r))) = _; rw [rL_own]) (fun q d' hq => rL_cell q d' hq)
  refine va_last C.1 C.2.1 C.2.2.2.2.2.2.1 hP hD hS r 1 (tw_at ht) rfl (inb_in hi) hd (fun H1 locs1 hP1 hD1 hS1 => ?_)
  rw [hset] at hP1 hD1
  exact kk C hP1 hD1 hS1 hl hr
theorem AX.zald {r n : Nat} {rs : List Nat} {i : Int32} (hd : decode M.2.1 pc = .ok (.baload, 1)) (ht : tw[r]? = some (.inr (2, n, rs))) (hi : inb i n = true) (kk : AX G M h k (pc + 1) ls (.int (σ.1 r i.toNatClampNeg) :: st) σ Q) : AX G M h k pc ls (.int i :: .ref (G.2.2.1 r) :: st) σ Q := by
  intro p l e R s m args below meth c H locs cells slots Z A lsA C hP hD hS hl hr
  exact va_zald C.1 C.2.1 C.2.2.2.2.2.2.1 hP r 2 (tw_at ht) rfl (inb_in hi) hd (kk C hP hD hS hl hr)
theorem AX.zast {r n : Nat} {rs : List Nat} {i x : Int32} (hd : decode M.2.1 pc = .ok (.bastore, 1)) (ht : tw[r]? = some (.inr (2, n, rs))) (hi : inb i n = true) (hx : vp_nar .boolean x = x) (kk : AX G M h k (pc + 1) ls st (sI σ r i.toNatClampNeg x) Q) : AX G M h k pc ls (.int x :: .int i :: .ref (G.2.2.1 r) :: st) σ Q := by
  intro p l e R s m args below meth c H locs cells slots Z A lsA C hP hD hS hl hr
  have hset : (tw_W G σ).set r (G.2.2.1 r, .inl (G.2.1 2, n, .inl (upd (σ.1 r) i.toNatClampNeg (vp_nar .boolean x)))) = tw_W G (sI σ r i.toNatClampNeg x) := tw_set ht (by show Sum.inl (_, _, Sum.inl ((rI σ r _).1 r)) = _; rw [rI_own, hx]) (fun q d' hq => rI_cell q d' hq)
  refine va_zast C.1 C.2.1 C.2.2.2.2.2.2.1 hP hD hS r 2 (tw_at ht) rfl (inb_in hi) hd (fun H1 locs1 hP1 hD1 hS1 => ?_)
  rw [hset] at hP1 hD1
  exact kk C hP1 hD1 hS1 hl hr
theorem AX.sheetld {i : Int32} (hd : decode M.2.1 pc = .ok (.aaload, 1)) (hi : inb i 4 = true) (kk : AX G M h k (pc + 1) ls (.ref (G.2.2.1 (36 + 2 * i.toNatClampNeg)) :: st) σ Q) : AX G M h k pc ls (.int i :: .ref (G.2.2.1 35) :: st) σ Q := by
  intro p l e R s m args below meth c H locs cells slots Z A lsA C hP hD hS hl hr
  refine va_aldq C.1 C.2.1 C.2.2.2.2.2.2.1 hP 35 3 (tw_at (k := 35) rfl) rfl (inb_in hi) hd ?_
  have hlt : i.toNatClampNeg < 4 := by
    unfold inb at hi
    simp only [Bool.and_eq_true, decide_eq_true_eq] at hi
    exact hi.2
  generalize i.toNatClampNeg = q at kk hlt ⊢
  match q, hlt, kk with
  | 0, _, kk => exact kk C hP hD hS hl hr
  | 1, _, kk => exact kk C hP hD hS hl hr
  | 2, _, kk => exact kk C hP hD hS hl hr
  | 3, _, kk => exact kk C hP hD hS hl hr
theorem AX.getsD {idx : Nat} (hd : decode M.2.1 pc = .ok (.getstatic idx, 3)) (hlk : Cond.fieldLink M.1 idx "OneTriangle" "DIGEST_NUMBERS" "[I" ∈ lw_gd) (kk : AX G M h k (pc + 3) ls (.ref (G.2.2.1 1000) :: st) σ Q) : AX G M h k pc ls st σ Q := by
  intro p l e R s m args below meth c H locs cells slots Z A lsA C hP hD hS hl hr
  exact va_gets C.1 C.2.1 C.2.2.2.2.2.2.2.1.1.1 hS C.2.2.2.1 (C.2.2.2.2.1 _ hlk) (fun _ h9 => h9) hd (kk C hP hD hS hl hr)
theorem AX.getsM {idx : Nat} (hd : decode M.2.1 pc = .ok (.getstatic idx, 3)) (hlk : Cond.fieldLink M.1 idx "OneTriangle$Settings" "MOST" "[I" ∈ lw_gd) (kk : AX G M h k (pc + 3) ls (.ref (G.2.2.1 1001) :: st) σ Q) : AX G M h k pc ls st σ Q := by
  intro p l e R s m args below meth c H locs cells slots Z A lsA C hP hD hS hl hr
  exact va_gets C.1 C.2.1 C.2.2.2.2.2.2.2.1.1.2 hS C.2.2.2.1 (C.2.2.2.2.1 _ hlk) (fun _ h9 => h9) hd (kk C hP hD hS hl hr)
def cpk (sp dp n : Int32) (n0 n1 : Nat) : Bool := decide (0 ≤ sp) && (decide (0 ≤ dp) && (decide (0 ≤ n) && (decide (sp.toNatClampNeg + n.toNatClampNeg ≤ n0) && decide (dp.toNatClampNeg + n.toNatClampNeg ≤ n1))))
def ac_ok (own : String) (idx : Nat) : Prop := Cond.methodLink own idx arraycopyName ∈ lw_gd ∧ Cond.native arraycopyName ∈ lw_gd ∧ Cond.static arraycopyName ∈ lw_gd ∧ Cond.initialized "java/lang/System" ∈ lw_gd
theorem AX.copyI {idx r0 r1 n0 n1 : Nat} {sp dp n : Int32} (hd : decode M.2.1 pc = .ok (.invokestatic idx, 3)) (hac : ac_ok M.1 idx) (hw0 : wi r0 = some n0) (hw1 : wi r1 = some n1) (hc : cpk sp dp n n0 n1 = true) (hcat : (st.map fun v => v.category).sum ≤ 8) (hh : 1 ≤ h ∧ 8 + (nativeFrameWords "java/lang/System" "arraycopy" 5 + 11) ≤ k)
    (kk : AX G M h k (pc + 3) ls st (rI σ r1 (va_cpy (σ.1 r0) (σ.1 r1) sp.toNatClampNeg dp.toNatClampNeg n.toNatClampNeg)) Q) : AX G M h k pc ls (.int n :: .int dp :: .ref (G.2.2.1 r1) :: .int sp :: .ref (G.2.2.1 r0) :: st) σ Q := by
  intro p l e R s m args below meth c H locs cells slots Z A lsA C hP hD hS hl hr
  obtain ⟨rs0, ht0⟩ := wi_tw hw0
  obtain ⟨rs1, ht1⟩ := wi_tw hw1
  unfold cpk at hc
  simp only [Bool.and_eq_true, decide_eq_true_eq] at hc
  have hset : (tw_W G σ).set r1 (G.2.2.1 r1, .inl (G.2.1 0, n1, .inl (va_cpy (σ.1 r0) (σ.1 r1) sp.toNatClampNeg dp.toNatClampNeg n.toNatClampNeg))) = tw_W G (rI σ r1 (va_cpy (σ.1 r0) (σ.1 r1) sp.toNatClampNeg dp.toNatClampNeg n.toNatClampNeg)) := tw_set ht1 (by show Sum.inl (_, _, Sum.inl ((rI σ r1 _).1 r1)) = _; rw [rI_own]) (fun q d' hq => rI_cell q d' hq)
  have hR := C.2.2.2.2.2.2.2.2.2.1
  refine va_copyi C.1 C.2.1 (C.2.2.1.trans hl.1.symm) C.2.2.2.1 (C.2.2.2.2.1 _ hac.1) (C.2.2.2.2.1 _ hac.2.1) (C.2.2.2.2.1 _ hac.2.2.1) (C.2.2.2.2.1 _ hac.2.2.2) C.2.2.2.2.2.2.1 hP hD hS r0 r1 0 0 (tw_at ht0) (tw_at ht1) rfl rfl rfl (Int32.not_lt.mpr hc.1) (Int32.not_lt.mpr hc.2.1) (Int32.not_lt.mpr hc.2.2.1) hc.2.2.2.1 hc.2.2.2.2 (fun _ _ => rfl) (Nat.le_trans hh.1 hR.1) (Nat.le_trans (Nat.le_trans (Nat.add_le_add_right hcat _) hh.2) hR.2) hd (fun H1 locs1 hP1 hD1 hS1 => ?_)
  rw [hset] at hP1 hD1
  exact kk C hP1 hD1 hS1 hl hr
theorem AX.copyL {idx r0 r1 n0 n1 : Nat} {sp dp n : Int32} (hd : decode M.2.1 pc = .ok (.invokestatic idx, 3)) (hac : ac_ok M.1 idx) (hw0 : wj r0 = some n0) (hw1 : wj r1 = some n1) (hc : cpk sp dp n n0 n1 = true) (hcat : (st.map fun v => v.category).sum ≤ 8) (hh : 1 ≤ h ∧ 8 + (nativeFrameWords "java/lang/System" "arraycopy" 5 + 11) ≤ k)
    (kk : AX G M h k (pc + 3) ls st (rL σ r1 (va_cpy (σ.2 r0) (σ.2 r1) sp.toNatClampNeg dp.toNatClampNeg n.toNatClampNeg)) Q) : AX G M h k pc ls (.int n :: .int dp :: .ref (G.2.2.1 r1) :: .int sp :: .ref (G.2.2.1 r0) :: st) σ Q := by
  intro p l e R s m args below meth c H locs cells slots Z A lsA C hP hD hS hl hr
  obtain ⟨rs0, ht0⟩ := wj_tw hw0
  obtain ⟨rs1, ht1⟩ := wj_tw hw1
  unfold cpk at hc
  simp only [Bool.and_eq_true, decide_eq_true_eq] at hc
  have hset : (tw_W G σ).set r1 (G.2.2.1 r1, .inl (G.2.1 1, n1, .inr (.inl (va_cpy (σ.2 r0) (σ.2 r1) sp.toNatClampNeg dp.toNatClampNeg n.toNatClampNeg)))) = tw_W G (rL σ r1 (va_cpy (σ.2 r0) (σ.2 r1) sp.toNatClampNeg dp.toNatClampNeg n.toNatClampNeg)) := tw_set ht1 (by show Sum.inl (_, _, Sum.inr (Sum.inl ((rL σ r1 _).2 r1))) = _; rw [rL_own]) (fun q d' hq => rL_cell q d' hq)
  have hR := C.2.2.2.2.2.2.2.2.2.1
  refine va_copyl C.1 C.2.1 (C.2.2.1.trans hl.1.symm) C.2.2.2.1 (C.2.2.2.2.1 _ hac.1) (C.2.2.2.2.1 _ hac.2.1) (C.2.2.2.2.1 _ hac.2.2.1) (C.2.2.2.2.1 _ hac.2.2.2) C.2.2.2.2.2.2.1 hP hD hS r0 r1 1 1 (tw_at ht0) (tw_at ht1) rfl rfl rfl (Int32.not_lt.mpr hc.1) (Int32.not_lt.mpr hc.2.1) (Int32.not_lt.mpr hc.2.2.1) hc.2.2.2.1 hc.2.2.2.2 (fun _ _ => rfl) (Nat.le_trans hh.1 hR.1) (Nat.le_trans (Nat.le_trans (Nat.add_le_add_right hcat _) hh.2) hR.2) hd (fun H1 locs1 hP1 hD1 hS1 => ?_)
  rw [hset] at hP1 hD1
  exact kk C hP1 hD1 hS1 hl hr
end AXM
theorem lw_nw_same {w : Cond} (h : w ∈ lw_nw) {u U : State} (hv : u.vm = U.vm) (hZ : va_Nw w u) : va_Nw w U := by
  have hn := (List.mem_filter.mp h).2
  cases w <;> first | exact va_Nw.same rfl hv hZ | (exfalso; revert hn; simp [lw_isN])
theorem ax_blind {G : ag_G} {σ : St} {sz : Nat} {As : List Value} : FrameBlind (va_Pc As (ax_B G σ sz)) := by
  intro a U g mk q
  obtain ⟨q0, q1, qP, qK, qD, qN, qS⟩ := q
  exact ⟨q0, q1, qP, va_K.moved (u := U) (U := U.calling g mk a) (Vm.Alike.refl U.vm) qK, qD, fun w hw => lw_nw_same hw (u := U) (U := U.calling g mk a) rfl (qN w hw), ax_St.moved (u := U) (U := U.calling g mk a) (Vm.Alike.refl U.vm) qS⟩
theorem ax_pre {G : ag_G} {M : am_M} {h k : Nat} {p : Program} {R : Room} {s : State} {m : MethodId} {args : Array Value} {c : Code} {A : Nat → Prop} {cells slots : Nat} {σ : St} {H : Heap} {locs : List Loc} (C : ax_C G M h k p R s m args c A cells slots) (hP : va_P G.1 classes (tw_W G σ) H) (hD : va_D A (tw_W G σ)) (hS : va_S A s.heap H locs) {As : List Value} : ∀ U : State, U.heap = H → s.WarmedH U.vm → va_Pc As (ax_B G σ H.size) As.toArray U := by
  intro U hU hW
  have hF : ∀ q, va_A (tw_W G σ) H.size q → A q := by
    intro q hq
    rcases hq with ⟨j, e, hj⟩ | hq
    · exact hD.2 j (q, e) hj
    · exact C.2.2.2.2.2.2.2.2.1 q (Nat.le_trans hS.1 hq)
  exact ⟨rfl, by rw [hU], by rw [hU]; exact hP, va_K.moved hW.alike C.2.2.2.2.2.2.1, hD.weaken (fun _ _ _ _ => trivial), fun w hw => lw_nw_warm hw hW (C.2.2.2.2.2.1 w hw), by rw [hU]; exact ((C.2.2.2.2.2.2.2.1.kept hS.2.1).narrow hF).moved hW.alike⟩
theorem ax_post {G : ag_G} {M : am_M} {h k : Nat} {p : Program} {l : Launch} {e : Env} {R : Room} {s : State} {m : MethodId} {args : Array Value} {below : List Frame} {meth : Method} {c : Code} {A : Nat → Prop} {cells slots : Nat} {σ : St} {H : Heap} {locs : List Loc} {pc : Nat} {lsA : Array Slot} {ls : List (Nat × Value)} {st rest : List Value} {Q Q' : Option Value → St → Prop} {Z : State → Prop} {a : Array Value}
    (C : ax_C G M h k p R s m args c A cells slots) (hD : va_D A (tw_W G σ)) (hS : va_S A s.heap H locs) (hl : lv_has lsA M.2.2.1 ls)
    (hr : ∀ (v : Option Value) (σ' : St) (H' : Heap) (locs' : List Loc) (pc' : Nat) (lsB : Array Slot), ax_R M pc' v → Q v σ' → va_P G.1 classes (tw_W G σ') H' → va_D A (tw_W G σ') → va_S A s.heap H' locs' → W p l e R s m args below meth c H' locs' cells slots Z (F0 m pc' lsB v.toList))
    (run : va_Run p l e R s m args below meth c H locs cells slots 0 0 (F0 m pc lsA st) rest (ax_Q G σ H.size Q' a) (va_A (tw_W G σ) H.size)) (kk : ∀ v σ', Q' v σ' → AX G M h k (pc + 3) ls (v.toList ++ rest) σ' Q) : W p l e R s m args below meth c H locs cells slots Z (F0 m pc lsA st) := by
  have hF : ∀ q, va_A (tw_W G σ) H.size q → A q := by
    intro q hq
    rcases hq with ⟨j, e, hj⟩ | hq
    · exact hD.2 j (q, e) hj
    · exact C.2.2.2.2.2.2.2.2.1 q (Nat.le_trans hS.1 hq)
  intro T hT X
  obtain ⟨v, st₀, t, T', L, h0, X', hL, e1, e2, ⟨⟨v1, σ', hv, hq, hP', hD'⟩, hz, hk⟩, stp⟩ := run T hT X
  cases hv
  rw [h0] at hz hk
  have hST : va_S A s.heap T'.heap (locs ++ L) := ⟨Nat.le_trans hS.1 (by rw [e1]; exact hz), fun q h1 h2 => by rw [e1, hk q (Nat.lt_of_lt_of_le h1 hS.1) (fun z => h2 (hF q z))]; exact hS.2.1 q h1 h2, fun q hq => by
    rcases List.mem_append.mp hq with h | h
    · exact hS.2.2 q h
    · exact hF _ (hL q h)⟩
  obtain ⟨t2, a1, b1⟩ := kk v σ' hq C (by rw [e1]; exact hP') (hD'.weaken (fun _ q _ hx => hF q.1 hx)) hST hl hr T' rfl X'
  exact ⟨t2, stp t2 a1, b1⟩
section AXK
variable {G : ag_G} {M : am_M} {h k pc : Nat} {ls : List (Nat × Value)} {st : List Value} {σ : St} {Q : Option Value → St → Prop}
theorem yl_gi {y : MethodName} {M' : am_M} {n : Nat} (hy : yl_ok y M' n) : GoodIn lw_gd (Cond.code y M'.2.1 M'.2.2.1 M'.2.2.2 :: lw_gd) := by
  intro w hw
  rcases List.mem_cons.mp hw with rfl | hw
  · exact ⟨hy.2.1, lw_gd_good hy.2.1⟩
  · exact lw_gd_gi w hw
theorem AX.callV {idx n ci r : Nat} {y : MethodName} {M' : am_M} {h' k' : Nat} {As rest : List Value} {fs : List (Option (Option Nat))} {Q' : Option Value → St → Prop} (hd : decode M.2.1 pc = .ok (.invokevirtual idx, 3)) (hlk : ml_ok M.1 idx y) (hy : yl_ok y M' n) (hv : yv_ok y ci) (ht : tw[r]? = some (.inl (ci, fs))) (hst : st = As.reverse ++ .ref (G.2.2.1 r) :: rest) (hn : As.length = n) (hcat : (rest.map fun v => v.category).sum ≤ 8) (hh : h' + 1 ≤ h ∧ 8 + (M'.2.2.1 + 11) + k' ≤ k)
    (hc : AC G y M' h' k' (.ref (G.2.2.1 r) :: As) σ Q') (kk : ∀ v σ', Q' v σ' → AX G M h k (pc + 3) ls (v.toList ++ rest) σ' Q) : AX G M h k pc ls st σ Q := by
  intro p l e R s m args below meth c H locs cells slots Z A lsA C hP hD hS hl hr
  obtain ⟨hin, Cn, T, N, hcl, hsel⟩ := hv
  have hR := C.2.2.2.2.2.2.2.2.2.1
  have hR' : h' + 1 ≤ R.frames ∧ 8 + (M'.2.2.1 + 11) + k' ≤ R.locals := ⟨Nat.le_trans hh.1 hR.1, Nat.le_trans hh.2 hR.2⟩
  have hf : cells + 0 ≤ R.cells ∧ slots + 0 ≤ R.slots := C.2.2.2.2.2.2.2.2.2.2
  have hrec := va_recv C.2.2.2.2.2.2.1 hP hcl (tw_at (G := G) (σ := σ) ht)
  have pre : PreV s H Cn (G.2.2.1 r) (va_Pc (.ref (G.2.2.1 r) :: As) (ax_B G σ H.size)) As := ⟨ax_blind, hrec, ax_pre C hP hD hS⟩
  rcases hlk with hlk | ⟨host, hlk⟩
  · refine ax_post C hD hS hl hr (va_runV (As := As) (rest := rest) (Ts := lw_gd) ⟨C.1, C.2.1, C.2.2.1, C.2.2.2.1, C.2.2.2.2.1⟩ (hc l H.size) ⟨callB_of n C.2.2.2.2.1 (yl_gi hy) rfl rfl rfl (C.2.2.2.2.1 _ hy.2.2) (C.2.2.2.2.1 _ hlk) hy.1 hR', C.2.2.2.2.1 _ hin, C.2.2.2.2.1 _ hsel⟩ pre rfl hn hl.1 hst (lv_room hcat) hd hf) kk
  · refine ax_post C hD hS hl hr (va_runVN (As := As) (rest := rest) (Ts := lw_gd) ⟨C.1, C.2.1, C.2.2.1, C.2.2.2.1, C.2.2.2.2.1⟩ (hc l H.size) ⟨va_cnB n C.2.2.2.2.1 (yl_gi hy) rfl rfl rfl (C.2.2.2.2.2.1 _ hlk) (C.2.2.2.2.1 _ hy.2.2) hy.1 hR', C.2.2.2.2.1 _ hin, C.2.2.2.2.1 _ hsel⟩ pre rfl hn hl.1 hst (lv_room hcat) hd hf) kk
theorem AX.callS {idx n : Nat} {y : MethodName} {M' : am_M} {h' k' : Nat} {As rest : List Value} {Q' : Option Value → St → Prop} (hd : decode M.2.1 pc = .ok (.invokestatic idx, 3)) (hlk : ml_ok M.1 idx y) (hy : yl_ok y M' n) (hs : Cond.static y ∈ lw_gd) (hst : st = As.reverse ++ rest) (hn : As.length = n) (hcat : (rest.map fun v => v.category).sum ≤ 8) (hh : h' + 1 ≤ h ∧ 8 + (M'.2.2.1 + 11) + k' ≤ k)
    (hc : AC G y M' h' k' As σ Q') (kk : ∀ v σ', Q' v σ' → AX G M h k (pc + 3) ls (v.toList ++ rest) σ' Q) : AX G M h k pc ls st σ Q := by
  intro p l e R s m args below meth c H locs cells slots Z A lsA C hP hD hS hl hr
  have hR := C.2.2.2.2.2.2.2.2.2.1
  have hR' : h' + 1 ≤ R.frames ∧ 8 + (M'.2.2.1 + 11) + k' ≤ R.locals := ⟨Nat.le_trans hh.1 hR.1, Nat.le_trans hh.2 hR.2⟩
  have hf : cells + 0 ≤ R.cells ∧ slots + 0 ≤ R.slots := C.2.2.2.2.2.2.2.2.2.2
  have pre : PreS s H (va_Pc As (ax_B G σ H.size)) As := ⟨ax_blind, ax_pre C hP hD hS⟩
  rcases hlk with hlk | ⟨host, hlk⟩
  · refine ax_post C hD hS hl hr (va_runS (As := As) (rest := rest) (Ts := lw_gd) ⟨C.1, C.2.1, C.2.2.1, C.2.2.2.1, C.2.2.2.2.1⟩ (hc l H.size) ⟨callB_of n C.2.2.2.2.1 (yl_gi hy) rfl rfl rfl (C.2.2.2.2.1 _ hy.2.2) (C.2.2.2.2.1 _ hlk) hy.1 hR', C.2.2.2.2.1 _ hs⟩ pre rfl hn hl.1 hst (lv_room hcat) hd hf) kk
  · refine ax_post C hD hS hl hr (va_runSN (As := As) (rest := rest) (Ts := lw_gd) ⟨C.1, C.2.1, C.2.2.1, C.2.2.2.1, C.2.2.2.2.1⟩ (hc l H.size) ⟨va_cnB n C.2.2.2.2.1 (yl_gi hy) rfl rfl rfl (C.2.2.2.2.2.1 _ hlk) (C.2.2.2.2.1 _ hy.2.2) hy.1 hR', C.2.2.2.2.1 _ hs, trivial⟩ pre rfl hn hl.1 hst (lv_room hcat) hd hf) kk
end AXK
