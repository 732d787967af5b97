/-! the walk's judgement AX: a fixed world of cells (table tw), its contents a state St -/
abbrev am_M : Type := String × ByteArray × Nat × Option FieldType
abbrev ag_G : Type := va_G × (Nat → ClassId) × (Nat → Nat) × Nat × (Nat → Int32)
abbrev St : Type := (Nat → Nat → Int32) × (Nat → Nat → Int64)
abbrev ag_tys (G : ag_G) : List (ClassId × FieldType) := [(G.2.1 0, .int), (G.2.1 1, .long), (G.2.1 2, .boolean), (G.2.1 3, .object "OneTriangle$Sheet")]
/-- a cell of the table: an object (number of its class; its fields: none an int, some none a long, some some a reference), or an array (0 ints, 1 longs, 2 booleans, 3 references; length; the references) -/
abbrev tw_D : Type := (Nat × List (Option (Option Nat))) ⊕ (Nat × Nat × List Nat)
def tw : List tw_D := [.inl (10, [some (some 1), some (some 7), some (some 9), some (some 12), some (some 15), some (some 19), some (some 24), some (some 27), some (some 32), some (some 34), some (some 35), none, none]),
  .inl (4, [some (some 2), some (some 3), some (some 4), some (some 5), some (some 6), none, none, none, none, none]),
  .inr (0, 60, []),
  .inr (0, 99, []),
  .inr (0, 99, []),
  .inr (0, 99, []),
  .inr (0, 6, []),
  .inl (6, [some (some 8)]),
  .inr (0, 9, []),
  .inl (3, [some (some 10), some (some 11)]),
  .inr (0, 3, []),
  .inr (0, 3, []),
  .inl (3, [some (some 13), some (some 14)]),
  .inr (0, 3, []),
  .inr (0, 3, []),
  .inl (2, [some (some 16), some (some 17), some (some 18), none]),
  .inr (0, 4, []),
  .inr (0, 4, []),
  .inr (0, 4, []),
  .inl (9, [some (some 1), some (some 9), some (some 15), some (some 7), some (some 20), some (some 21), some (some 22), some (some 23)]),
  .inr (1, 2079, []),
  .inr (1, 111, []),
  .inr (1, 21, []),
  .inr (1, 21, []),
  .inl (8, [some (some 1), some (some 25), some (some 26)]),
  .inr (1, 21, []),
  .inr (1, 21, []),
  .inl (5, [some (some 28), some (some 29), some (some 30), some (some 31), none]),
  .inr (0, 8, []),
  .inr (0, 8, []),
  .inr (0, 8, []),
  .inr (0, 8, []),
  .inl (0, [some (some 33), none, none]),
  .inr (0, 20, []),
  .inl (1, [none]),
  .inr (3, 4, [36, 38, 40, 42]),
  .inl (7, [some (some 37), none, none, none]),
  .inr (0, 48, []),
  .inl (7, [some (some 39), none, none, none]),
  .inr (0, 48, []),
  .inl (7, [some (some 41), none, none, none]),
  .inr (0, 48, []),
  .inl (7, [some (some 43), none, none, none]),
  .inr (0, 48, []),
  .inl (11, [some (some 45), none, none, some (some 46), some (some 47), some (some 48), none, none, some (some 49), some (some 50), some (some 51), some (some 52), none, some (some 53), none, none, some (some 54), some (some 55), some (some 56), some (some 57), some (some 58), some (some 59), some none, some (some 60), some (some 61), some none, none, some (some 62), some (some 63), some (some 64), some (some 65), some (some 66), some (some 67), some (some 68), some (some 69), none]),
  .inr (0, 60, []),
  .inr (0, 100, []),
  .inr (0, 100, []),
  .inr (0, 100, []),
  .inr (0, 7, []),
  .inr (0, 3, []),
  .inr (0, 3, []),
  .inr (0, 9, []),
  .inr (0, 20, []),
  .inr (0, 4, []),
  .inr (0, 4, []),
  .inr (0, 4, []),
  .inr (1, 112, []),
  .inr (1, 112, []),
  .inr (1, 100, []),
  .inr (1, 21, []),
  .inr (1, 21, []),
  .inr (0, 8, []),
  .inr (0, 8, []),
  .inr (0, 99, []),
  .inr (2, 4, []),
  .inr (0, 4, []),
  .inr (0, 4, []),
  .inr (0, 192, []),
  .inr (0, 48, [])]
def tw_fld (G : ag_G) (σ : St) (k j : Nat) (f : Option (Option Nat)) : Value := match f with
  | none => .int (σ.1 k j)
  | some none => .long (σ.2 k j)
  | some (some r) => .ref (G.2.2.1 r)
def tw_cell (G : ag_G) (σ : St) (k : Nat) (d : tw_D) : va_E := match d with
  | .inl o => .inr (o.1, o.2.mapIdx (tw_fld G σ k))
  | .inr (0, n, _) => .inl (G.2.1 0, n, .inl (σ.1 k))
  | .inr (1, n, _) => .inl (G.2.1 1, n, .inr (.inl (σ.2 k)))
  | .inr (2, n, _) => .inl (G.2.1 2, n, .inl (σ.1 k))
  | .inr (_, n, rs) => .inl (G.2.1 3, n, .inr (.inr (.inr (.inr fun i => (rs[i]?).map G.2.2.1))))
def tw_W (G : ag_G) (σ : St) : va_W := tw.mapIdx fun k d => (G.2.2.1 k, tw_cell G σ k d)
theorem tw_at {G : ag_G} {σ : St} {k : Nat} {d : tw_D} (h : tw[k]? = some d) : (tw_W G σ)[k]? = some (G.2.2.1 k, tw_cell G σ k d) := by
  unfold tw_W
  rw [List.getElem?_mapIdx, h]
  rfl
theorem tw_set {G : ag_G} {σ σ' : St} {k : Nat} {d : tw_D} {e : va_E} (h : tw[k]? = some d) (he : tw_cell G σ' k d = e) (ho : ∀ j d', j ≠ k → tw_cell G σ' j d' = tw_cell G σ j d') : (tw_W G σ).set k (G.2.2.1 k, e) = tw_W G σ' := by
  subst he
  apply List.ext_getElem?
  intro j
  by_cases hj : j = k
  · subst hj
    rw [tw_at h, List.getElem?_set_self]
    have := List.getElem?_eq_some_iff.mp (tw_at (G := G) (σ := σ) h)
    exact this.1
  · rw [List.getElem?_set_ne (Ne.symm hj)]
    unfold tw_W
    rw [List.getElem?_mapIdx, List.getElem?_mapIdx]
    cases tw[j]? with
    | none => rfl
    | some d' => simp only [Option.map_some]; rw [ho j d' hj]
def rI (σ : St) (r : Nat) (f : Nat → Int32) : St := (fun r' => if r' = r then f else σ.1 r', σ.2)
def rL (σ : St) (r : Nat) (f : Nat → Int64) : St := (σ.1, fun r' => if r' = r then f else σ.2 r')
def sI (σ : St) (r j : Nat) (v : Int32) : St := rI σ r (upd (σ.1 r) j v)
def sL (σ : St) (r j : Nat) (v : Int64) : St := rL σ r (vp_updL (σ.2 r) j v)
theorem rI_cell {G : ag_G} {σ : St} {r : Nat} {f : Nat → Int32} (j : Nat) (d : tw_D) (h : j ≠ r) : tw_cell G (rI σ r f) j d = tw_cell G σ j d := by
  have e1 : (rI σ r f).1 j = σ.1 j := if_neg h
  have e2 : (rI σ r f).2 = σ.2 := rfl
  have e3 : tw_fld G (rI σ r f) j = tw_fld G σ j := by
    funext i x
    unfold tw_fld
    rw [e1, e2]
  unfold tw_cell
  split <;> simp only [e1, e2, e3]
theorem rL_cell {G : ag_G} {σ : St} {r : Nat} {f : Nat → Int64} (j : Nat) (d : tw_D) (h : j ≠ r) : tw_cell G (rL σ r f) j d = tw_cell G σ j d := by
  have e1 : (rL σ r f).2 j = σ.2 j := if_neg h
  have e2 : (rL σ r f).1 = σ.1 := rfl
  have e3 : tw_fld G (rL σ r f) j = tw_fld G σ j := by
    funext i x
    unfold tw_fld
    rw [e1, e2]
  unfold tw_cell
  split <;> simp only [e1, e2, e3]
theorem rI_own {σ : St} {r : Nat} {f : Nat → Int32} : (rI σ r f).1 r = f := if_pos rfl
theorem rL_own {σ : St} {r : Nat} {f : Nat → Int64} : (rL σ r f).2 r = f := if_pos rfl
/-- the arrays beside the world, that nobody writes: DIGEST_NUMBERS (1000), MOST (1001), the script (1002) -/
def xa_D : List Int32 := [1, 10, 30]
def xa_M : List Int32 := [16, 16, 16, 16, 99, 99, 16, 4, 4]
def ax_St (G : ag_G) (A : Nat → Prop) (U : State) (H : Heap) : Prop :=
  (va_Z "OneTriangle" "DIGEST_NUMBERS" "[I" (.ref (G.2.2.1 1000)) A U H ∧ va_Z "OneTriangle$Settings" "MOST" "[I" (.ref (G.2.2.1 1001)) A U H) ∧
  va_T .int (G.2.2.1 1000) 3 (fun j => .int (xa_D.getD j 0)) A U H ∧ va_T .int (G.2.2.1 1001) 9 (fun j => .int (xa_M.getD j 0)) A U H ∧ va_T .int (G.2.2.1 1002) G.2.2.2.1 (fun j => .int (G.2.2.2.2 j)) A U H
theorem ax_St.moved {G : ag_G} {A : Nat → Prop} {u U : State} {H : Heap} (hvm : u.vm.Alike U.vm) (h : ax_St G A u H) : ax_St G A U H := ⟨⟨h.1.1.moved hvm, h.1.2.moved hvm⟩, h.2.1.moved hvm, h.2.2.1.moved hvm, h.2.2.2.moved hvm⟩
theorem ax_St.kept {G : ag_G} {A : Nat → Prop} {U : State} {H H1 : Heap} (h : ax_St G A U H) (hq : ∀ a : Nat, a < H.size → ¬ A a → H1[a]? = H[a]?) : ax_St G A U H1 := ⟨⟨h.1.1.kept hq, h.1.2.kept hq⟩, h.2.1.kept hq, h.2.2.1.kept hq, h.2.2.2.kept hq⟩
theorem ax_St.narrow {G : ag_G} {A B : Nat → Prop} {U : State} {H : Heap} (h : ax_St G A U H) (hAB : ∀ q, B q → A q) : ax_St G B U H := ⟨⟨h.1.1.narrow hAB, h.1.2.narrow hAB⟩, h.2.1.narrow hAB, h.2.2.1.narrow hAB, h.2.2.2.narrow hAB⟩
theorem lw_nw_warm {w : Cond} (h : w ∈ lw_nw) {s U : State} (hW : s.WarmedH U.vm) (hZ : va_Nw w s) : va_Nw w U := by
  have hn := (List.mem_filter.mp h).2
  cases w <;> first | exact va_Nw.warmF hW hZ | exact va_Nw.warmM hW hZ | (exfalso; revert hn; simp [lw_isN])
/-- what stays while a method runs -/
def ax_C (G : ag_G) (M : am_M) (h k : Nat) (p : Program) (R : Room) (s : State) (m : MethodId) (args : Array Value) (c : Code) (A : Nat → Prop) (cells slots : Nat) : Prop :=
  p.tables.exec = Jvm.exec ∧ c.code = M.2.1 ∧ c.maxLocals = M.2.2.1 ∧ s.vm.findClass M.1 = some m.cls ∧ (∀ w ∈ lw_gd, w.before args s = true) ∧ (∀ w ∈ lw_nw, va_Nw w s) ∧ va_K G.1 classes (ag_tys G) s ∧ ax_St G A s s.heap ∧ (∀ q, s.heap.size ≤ q → A q) ∧ (h ≤ R.frames ∧ k ≤ R.locals) ∧ cells ≤ R.cells ∧ slots ≤ R.slots
/-- at a return instruction with that value -/
def ax_R (M : am_M) (pc : Nat) (v : Option Value) : Prop := match v with
  | none => M.2.2.2 = none ∧ decode M.2.1 pc = .ok (.return_, 1)
  | some (.int x) => ∃ ty, M.2.2.2 = some ty ∧ narrow ty (.int x) = .int x ∧ decode M.2.1 pc = .ok (.ireturn, 1)
  | some (.long _) => M.2.2.2 = some .long ∧ decode M.2.1 pc = .ok (.lreturn, 1)
  | some (.ref _) => (∃ n, M.2.2.2 = some (.object n)) ∧ decode M.2.1 pc = .ok (.areturn, 1)
  | some .null => (∃ n, M.2.2.2 = some (.object n)) ∧ decode M.2.1 pc = .ok (.areturn, 1)
  | _ => False
def AX (G : ag_G) (M : am_M) (h k pc : Nat) (ls : List (Nat × Value)) (st : List Value) (σ : St) (Q : Option Value → St → Prop) : Prop :=
  ∀ ⦃p : Program⦄ ⦃l : Launch⦄ ⦃e : Env⦄ ⦃R : Room⦄ ⦃s : State⦄ ⦃m : MethodId⦄ ⦃args : Array Value⦄ ⦃below : List Frame⦄ ⦃meth : Method⦄ ⦃c : Code⦄ ⦃H : Heap⦄ ⦃locs : List Loc⦄ ⦃cells slots : Nat⦄ ⦃Z : State → Prop⦄ ⦃A : Nat → Prop⦄ ⦃lsA : Array Slot⦄,
    ax_C G M h k p R s m args c A cells slots → va_P G.1 classes (tw_W G σ) H → va_D A (tw_W G σ) → va_S A s.heap H locs → lv_has lsA M.2.2.1 ls →
    (∀ (v : Option Value) (σ' : St) (H' : Heap) (locs' : List Loc) (pc' : Nat) (lsB : Array Slot), ax_R M pc' v → Q v σ' → va_P G.1 classes (tw_W G σ') H' → va_D A (tw_W G σ') → va_S A s.heap H' locs' → W p l e R s m args below meth c H' locs' cells slots Z (F0 m pc' lsB v.toList)) →
    W p l e R s m args below meth c H locs cells slots Z (F0 m pc lsA st)
/-- a method's contract over the world -/
def ax_B (G : ag_G) (σ : St) (sz : Nat) (U : State) : Prop := U.heap.size = sz ∧ va_P G.1 classes (tw_W G σ) U.heap ∧ va_K G.1 classes (ag_tys G) U ∧ va_D (fun _ => True) (tw_W G σ) ∧ (∀ w ∈ lw_nw, va_Nw w U) ∧ ax_St G (va_A (tw_W G σ) sz) U U.heap
def ax_Q (G : ag_G) (σ : St) (sz : Nat) (Q : Option Value → St → Prop) : Array Value → State → Outcome → State → Prop := fun _ st oc t =>
  (∃ (v : Option Value) (σ' : St), oc = .returned v ∧ Q v σ' ∧ va_P G.1 classes (tw_W G σ') t.heap ∧ va_D (va_A (tw_W G σ) sz) (tw_W G σ')) ∧ va_F (va_A (tw_W G σ) sz) st t
def AC (G : ag_G) (y : MethodName) (M : am_M) (h k : Nat) (As : List Value) (σ : St) (Q : Option Value → St → Prop) : Prop :=
  ∀ (l : Launch) (sz : Nat), Met l y (.code y M.2.1 M.2.2.1 M.2.2.2 :: lw_gd) { frames := h, cells := 0, slots := 0, locals := k } (va_Pc As (ax_B G σ sz)) (ax_Q G σ sz Q) 0 0 (va_A (tw_W G σ) sz)
theorem Met.ofWF {l : Launch} {y : MethodName} {ws ws' : List Cond} {rm : Room} {Pc : Array Value → State → Prop} {Qc : Array Value → State → Outcome → State → Prop} {mc ms : Nat} {free : Addr → Prop} {cc : ByteArray} {maxL : Nat} {ret : Option FieldType}
    (hy : plainFor y = true) (hw : ws = Cond.code y cc maxL ret :: ws')
    (body : ∀ p e s m args below meth c s₁, BodyLoose p l y (headSpec ws rm) cc maxL ret e s m args below meth c s₁ → c.maxLocals = maxL → Pc args s →
      W p l e (headSpec ws rm).room s m args below meth c s.heap [] 0 0 (MQ below Qc args s mc ms free) (entryFrame m args maxL)) : Met l y ws rm Pc Qc mc ms free := by
  refine MetFree.of_bodySF (code := cc) (maxLocals := maxL) (ret := ret) hy ?_ ?_
  · intro args s m h hn
    obtain ⟨meth, c, h1, h2, h3, h4, h5, h6, -, -⟩ := Cond.code_spec hn (atoms_spec (ws := ws) h _ (by rw [hw]; exact List.mem_cons_self))
    exact ⟨meth, c, h1, h2, h3, h4, h5, h6⟩
  · intro p e s m args below meth c s₁ B hml hP _
    have hh0 : s₁.heap = s.heap := by rw [B.state]; rfl
    obtain ⟨t, a1, o, b1, b2, b3⟩ := body p e s m args below meth c s₁ B hml hP s₁ hh0 (Stand.of_body B)
    exact ⟨t, o, a1, b1, b2, ⟨b3.1, b3.2⟩⟩
theorem AC.of {G : ag_G} {y : MethodName} {M : am_M} {h k : Nat} {As : List Value} {σ : St} {Q : Option Value → St → Prop} (hy : plainFor y = true) (hyc : y.cls = M.1) (hlen : (lg_sl As).length ≤ M.2.2.1) (hx : AX G M h k 0 (lv_args 0 As) [] σ Q) : AC G y M h k As σ Q := by
  intro l sz
  refine Met.ofWF (cc := M.2.1) (maxL := M.2.2.1) (ret := M.2.2.2) hy rfl ?_
  intro p e s m args below meth c s₁ B hml hv
  obtain ⟨rfl, hsz, hP, hK, hD0, hN, hSt⟩ := hv
  have hts := atoms_spec (ws := Cond.code y M.2.1 M.2.2.1 M.2.2.2 :: lw_gd) B.pre
  have hown : s.vm.findClass M.1 = some m.cls := hyc ▸ findClass_of_methodNamed B.named
  have hlocks := B.notSynchronized
  have hr := B.returns
  have hb := B.bytes
  have hex := B.exec
  subst hsz
  have hD := hD0.self (sz := s.heap.size)
  have hl := lv_entry As (n := M.2.2.1) hlen
  rw [lg_entry_eq]
  refine hx (A := va_A (tw_W G σ) s.heap.size) (R := (headSpec (Cond.code y M.2.1 M.2.2.1 M.2.2.2 :: lw_gd) { frames := h, cells := 0, slots := 0, locals := k }).room) ⟨hex, hb, hml, hown, fun w hw => hts w (List.mem_cons_of_mem _ hw), hN, hK, hSt, fun q hq => Or.inr hq, ⟨Nat.le_refl _, Nat.le_refl _⟩, Nat.zero_le _, Nat.zero_le _⟩ hP hD va_S.rf hl ?_
  intro v σ' H' locs' pc' lsB hR hQ hP' hD' hS'
  have fin : ∀ v' : Option Value, v' = v → ∀ t : State, t.heap = H' → s.WarmedH t.vm → ax_Q G σ s.heap.size Q As.toArray s (.returned v') t := by
    intro v' hv' t ht hW
    subst hv'
    exact ⟨⟨v', σ', rfl, hQ, by rw [ht]; exact hP', hD'⟩, hS'.F ht⟩
  have hf : ∀ q ∈ locs', va_A (tw_W G σ) s.heap.size q.base := hS'.2.2
  cases v with
  | none =>
    obtain ⟨h1, h2⟩ := hR
    exact W.vret hex hb (hr.trans h1) (fin none rfl) hf h2
  | some w =>
    cases w with
    | int x =>
      obtain ⟨ty, h1, h2, h3⟩ := hR
      exact W.zret hex hb (hr.trans h1) h2 (fin _ rfl) hf h3
    | long x =>
      obtain ⟨h1, h2⟩ := hR
      exact W.lret hex hb (hr.trans h1) (fin _ rfl) hf h2
    | ref a =>
      obtain ⟨⟨n, h1⟩, h2⟩ := hR
      exact W.aret hex hb (hr.trans h1) (Or.inl ⟨n, rfl⟩) (Or.inr ⟨a, rfl⟩) (fin _ rfl) hf h2
    | null =>
      obtain ⟨⟨n, h1⟩, h2⟩ := hR
      exact W.aret hex hb (hr.trans h1) (Or.inl ⟨n, rfl⟩) (Or.inl rfl) (fin _ rfl) hf h2
    | _ => exact hR.elim
theorem AC.mono {G : ag_G} {y : MethodName} {M : am_M} {h k : Nat} {As : List Value} {σ : St} {Q Q' : Option Value → St → Prop} (hx : AX G M h k 0 (lv_args 0 As) [] σ Q) (hq : ∀ v σ', Q v σ' → Q' v σ') : AX G M h k 0 (lv_args 0 As) [] σ Q' := by
  intro p l e R s m args below meth c H locs cells slots Z A lsA C hP hD hS hl hr
  exact hx C hP hD hS hl (fun v σ' H' locs' pc' lsB a b => hr v σ' H' locs' pc' lsB a (hq v σ' b))
