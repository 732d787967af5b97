/-! the growing world: what the constructors do -/
abbrev gtys (cs : Nat → ClassId) : List (ClassId × FieldType) := [(cs 0, .int), (cs 1, .long), (cs 2, .boolean), (cs 3, .object "OneTriangle$Sheet")]
def ag_C (E : State → (Nat → Prop) → Prop) (D : va_G) (cs : Nat → ClassId) (M : am_M) (nm : String) (h k mc ms : Nat) (p : Program) (R : Room) (s : State) (m : MethodId) (args : Array Value) (meth : Method) (c : Code) (A : Nat → Prop) : Prop :=
  p.tables.exec = Jvm.exec ∧ c.code = M.2.1 ∧ c.maxLocals = M.2.2.1 ∧ s.vm.findClass M.1 = some m.cls ∧ (∀ w ∈ lw_gd, w.before args s = true) ∧ (∀ w ∈ lw_nw, va_Nw w s) ∧ va_K D classes (gtys cs) s ∧ va_AO "OneTriangle$Sheet" s ∧ (∀ q, s.heap.size ≤ q → A q) ∧ (h ≤ R.frames ∧ k ≤ R.locals) ∧ (mc ≤ R.cells ∧ ms ≤ R.slots) ∧ meth.name = nm ∧ E s A
def AG (E : State → (Nat → Prop) → Prop) (D : va_G) (cs : Nat → ClassId) (M : am_M) (nm : String) (h k mc ms : Nat) (pre ws : va_W) (nc ns pc : Nat) (ls : List (Nat × Value)) (st : List Value) (Q : Option Value → va_W → Prop) : Prop :=
  ∀ ⦃p : Program⦄ ⦃l : Launch⦄ ⦃e : Env⦄ ⦃R : Room⦄ ⦃s : State⦄ ⦃m : MethodId⦄ ⦃args : Array Value⦄ ⦃below : List Frame⦄ ⦃meth : Method⦄ ⦃c : Code⦄ ⦃H : Heap⦄ ⦃locs : List Loc⦄ ⦃Z : State → Prop⦄ ⦃A : Nat → Prop⦄ ⦃lsA : Array Slot⦄,
    ag_C E D cs M nm h k mc ms p R s m args meth c A → va_P D classes (pre ++ ws) H → va_D A (pre ++ ws) → va_S A s.heap H locs → lv_has lsA M.2.2.1 ls →
    (∀ (v : Option Value) (ws' : va_W) (H' : Heap) (locs' : List Loc) (pc' : Nat) (lsB : Array Slot), ax_R M pc' v → Q v ws' → va_P D classes (pre ++ ws') H' → va_D A (pre ++ ws') → va_S A s.heap H' locs' → W p l e R s m args below meth c H' locs' mc ms Z (F0 m pc' lsB v.toList)) →
    W p l e R s m args below meth c H locs nc ns Z (F0 m pc lsA st)
theorem pw_at {pre ws : va_W} {j : Nat} {x : Nat × va_E} (h : ws[j]? = some x) : (pre ++ ws)[pre.length + j]? = some x := by
  rw [List.getElem?_append_right (by omega), Nat.add_sub_cancel_left]; exact h
theorem pw_set {pre ws : va_W} {j : Nat} {x : Nat × va_E} : (pre ++ ws).set (pre.length + j) x = pre ++ ws.set j x := by
  rw [List.set_append_right _ _ (by omega), Nat.add_sub_cancel_left]
/-- a final field, written in its own constructor -/
def ff_ok (own : String) (idx ci j : Nat) (ty : FieldType) : Prop := ∃ (C : String) (T : u_T) (N : Nat) (ty0 : Nat → FieldType), classes[ci]? = some (C, T, N) ∧ j < N ∧ (∀ w ∈ u_ws C T N, w ∈ lw_gd) ∧ (Cond.fieldLink own idx (T j).1 (T j).2.1 (T j).2.2.1 ∈ lw_gd) ∧ (∀ k, k < N → parseFieldDescriptor (T k).2.2.1 = some (ty0 k)) ∧ (∀ a, a < N → ∀ b, b < N → a ≠ b → (T a).2.1 ≠ (T b).2.1) ∧ (T j).2.2.2 = true ∧ (T j).1 = own ∧ parseFieldDescriptor (T j).2.2.1 = some ty
/-- a class that can be made -/
def nw_ok (own : String) (idx ci : Nat) (fs : List Value) : Prop := ∃ (C : String) (T : u_T) (N : Nat) (ty0 : Nat → FieldType), classes[ci]? = some (C, T, N) ∧ fs.length = N ∧ (∀ w ∈ u_ws C T N, w ∈ lw_gd) ∧ (∀ k, k < N → parseFieldDescriptor (T k).2.2.1 = some (ty0 k)) ∧ (Cond.classLink own idx C ∈ lw_gd) ∧ (Cond.instantiable C N ∈ lw_gd) ∧ (Cond.initialized C ∈ lw_gd) ∧ ∀ j, j < N → defaultValue (ty0 j) = vp_V fs j
section AGR
variable {E : State → (Nat → Prop) → Prop} {D : va_G} {cs : Nat → ClassId} {M : am_M} {nm : String} {h k mc ms : Nat} {pre ws : va_W} {nc ns pc : Nat} {ls : List (Nat × Value)} {st : List Value} {Q : Option Value → va_W → Prop}
theorem AG.iconst {n : Int} {v : Int32} (hd : decode M.2.1 pc = .ok (.iconst n, 1)) (hv : Int32.ofInt n = v) (kk : AG E D cs M nm h k mc ms pre ws nc ns (pc + 1) ls (.int v :: st) Q) : AG E D cs M nm h k mc ms pre ws nc ns pc ls (st) Q := by
  intro p l e R s m args below meth c H locs Z A lsA C hP hD hS hl hr
  exact lv_iconst C.1 C.2.1 hd hv (kk C hP hD hS hl hr)
theorem AG.bipush {n : Int} {v : Int32} (hd : decode M.2.1 pc = .ok (.bipush n, 2)) (hv : (Int8.ofInt n).toInt32 = v) (kk : AG E D cs M nm h k mc ms pre ws nc ns (pc + 2) ls (.int v :: st) Q) : AG E D cs M nm h k mc ms pre ws nc ns pc ls (st) Q := by
  intro p l e R s m args below meth c H locs Z A lsA C hP hD hS hl hr
  exact lv_bipush C.1 C.2.1 hd hv (kk C hP hD hS hl hr)
theorem AG.sipush {n : Int} {v : Int32} (hd : decode M.2.1 pc = .ok (.sipush n, 3)) (hv : (Int16.ofInt n).toInt32 = v) (kk : AG E D cs M nm h k mc ms pre ws nc ns (pc + 3) ls (.int v :: st) Q) : AG E D cs M nm h k mc ms pre ws nc ns pc ls (st) Q := by
  intro p l e R s m args below meth c H locs Z A lsA C hP hD hS hl hr
  exact lv_sipush C.1 C.2.1 hd hv (kk C hP hD hS hl hr)
theorem AG.iload_n {n : Fin 4} {i : Nat} {x : Int32} (hd : decode M.2.1 pc = .ok (.iload_n n, 1)) (q : Nat) (hi : (n : Nat) = i) (hq : ls[q]? = some (i, .int x)) (kk : AG E D cs M nm h k mc ms pre ws nc ns (pc + 1) ls (.int x :: st) Q) : AG E D cs M nm h k mc ms pre ws nc ns pc ls (st) Q := by
  intro p l e R s m args below meth c H locs Z A lsA C hP hD hS hl hr
  exact lv_iload_n C.1 C.2.1 hd hi (lv_at hl q hq) (kk C hP hD hS hl hr)
theorem AG.aload_n {n : Fin 4} {i : Nat} {x : Nat} (hd : decode M.2.1 pc = .ok (.aload_n n, 1)) (q : Nat) (hi : (n : Nat) = i) (hq : ls[q]? = some (i, .ref x)) (kk : AG E D cs M nm h k mc ms pre ws nc ns (pc + 1) ls (.ref x :: st) Q) : AG E D cs M nm h k mc ms pre ws nc ns pc ls (st) Q := by
  intro p l e R s m args below meth c H locs Z A lsA C hP hD hS hl hr
  exact lv_aload_n C.1 C.2.1 hd hi (lv_at hl q hq) (kk C hP hD hS hl hr)
theorem AG.aload {i : Nat} {x : Nat} (hd : decode M.2.1 pc = .ok (.aload i, 2)) (q : Nat) (hq : ls[q]? = some (i, .ref x)) (kk : AG E D cs M nm h k mc ms pre ws nc ns (pc + 2) ls (.ref x :: st) Q) : AG E D cs M nm h k mc ms pre ws nc ns pc ls (st) Q := by
  intro p l e R s m args below meth c H locs Z A lsA C hP hD hS hl hr
  exact lv_aload C.1 C.2.1 hd (lv_at hl q hq) (kk C hP hD hS hl hr)
theorem AG.dup {v : Value} (hd : decode M.2.1 pc = .ok (.dup, 1)) (hv : v.category = 1) (kk : AG E D cs M nm h k mc ms pre ws nc ns (pc + 1) ls (v :: v :: st) Q) : AG E D cs M nm h k mc ms pre ws nc ns pc ls (v :: st) Q := by
  intro p l e R s m args below meth c H locs Z A lsA C hP hD hS hl hr
  exact lv_dup C.1 C.2.1 hd hv (kk C hP hD hS hl hr)
theorem AG.istore_n {n : Fin 4} {i : Nat} {x : Int32} {ls' : List (Nat × Value)} (hd : decode M.2.1 pc = .ok (.istore_n n, 1)) (hi : (n : Nat) = i) (hb : i < M.2.2.1) (hl' : ls1 i (.int x) ls = ls') (kk : AG E D cs M nm h k mc ms pre ws nc ns (pc + 1) ls' st Q) : AG E D cs M nm h k mc ms pre ws nc ns pc ls (.int x :: st) Q := by
  intro p l e R s m args below meth c H locs Z A lsA C hP hD hS hl hr
  exact lv_istore_n C.1 C.2.1 hd hi hl hb rfl (fun lsB hB => kk C hP hD hS (hl' ▸ lv_mono hB ls1_mem) hr)
theorem AG.astore_n {n : Fin 4} {i : Nat} {x : Nat} {ls' : List (Nat × Value)} (hd : decode M.2.1 pc = .ok (.astore_n n, 1)) (hi : (n : Nat) = i) (hb : i < M.2.2.1) (hl' : ls1 i (.ref x) ls = ls') (kk : AG E D cs M nm h k mc ms pre ws nc ns (pc + 1) ls' st Q) : AG E D cs M nm h k mc ms pre ws nc ns pc ls (.ref x :: st) Q := by
  intro p l e R s m args below meth c H locs Z A lsA C hP hD hS hl hr
  exact lv_astore_n C.1 C.2.1 hd hi hl hb rfl (fun lsB hB => kk C hP hD hS (hl' ▸ lv_mono hB ls1_mem) hr)
theorem AG.iinc {i : Nat} {n : Int} {x v : Int32} {ls' : List (Nat × Value)} (q : Nat) (hd : decode M.2.1 pc = .ok (.iinc i n, 3)) (hq : ls[q]? = some (i, .int x)) (hb : i < M.2.2.1) (hv : x + Int32.ofInt n = v) (hl' : ls1 i (.int v) ls = ls') (kk : AG E D cs M nm h k mc ms pre ws nc ns (pc + 3) ls' st Q) : AG E D cs M nm h k mc ms pre ws nc ns pc ls st Q := by
  intro p l e R s m args below meth c H locs Z A lsA C hP hD hS hl hr
  exact lv_iinc C.1 C.2.1 hd hl hq hv hb rfl (fun lsB hB => kk C hP hD hS (hl' ▸ lv_mono hB ls1_mem) hr)
theorem AG.goto {off : Int} {tgt : Nat} (hd : decode M.2.1 pc = .ok (.goto off, 3)) (ht : (pc : Int) + off = (tgt : Int)) (kk : AG E D cs M nm h k mc ms pre ws nc ns tgt ls st Q) : AG E D cs M nm h k mc ms pre ws nc ns pc ls st Q := by
  intro p l e R s m args below meth c H locs Z A lsA C hP hD hS hl hr
  exact lv_goto C.1 C.2.1 hd ht (kk C hP hD hS hl hr)
theorem AG.icmp_geT {x y : Int32} {off : Int} {tgt : Nat} (hd : decode M.2.1 pc = .ok (.if_icmp .ge off, 3)) (ht : (pc : Int) + off = (tgt : Int)) (hc : y ≤ x) (kk : AG E D cs M nm h k mc ms pre ws nc ns tgt ls st Q) : AG E D cs M nm h k mc ms pre ws nc ns pc ls (.int y :: .int x :: st) Q := by
  intro p l e R s m args below meth c H locs Z A lsA C hP hD hS hl hr
  exact lv_icmp_ge C.1 C.2.1 hd ht (fun _ => kk C hP hD hS hl hr) (fun q => absurd hc q)
theorem AG.icmp_geF {x y : Int32} {off : Int} {tgt : Nat} (hd : decode M.2.1 pc = .ok (.if_icmp .ge off, 3)) (ht : (pc : Int) + off = (tgt : Int)) (hc : ¬ y ≤ x) (kk : AG E D cs M nm h k mc ms pre ws nc ns (pc + 3) ls st Q) : AG E D cs M nm h k mc ms pre ws nc ns pc ls (.int y :: .int x :: st) Q := by
  intro p l e R s m args below meth c H locs Z A lsA C hP hD hS hl hr
  exact lv_icmp_ge C.1 C.2.1 hd ht (fun q => absurd q hc) (fun _ => kk C hP hD hS hl hr)
theorem AG.getf {idx ci j r a : Nat} {fs : List Value} {v : Value} (hd : decode M.2.1 pc = .ok (.getfield idx, 3)) (hf : fl_ok M.1 idx ci j) (he : ws[r]? = some (a, .inr (ci, fs))) (hj : fs[j]? = some v) (kk : AG E D cs M nm h k mc ms pre ws nc ns (pc + 3) ls (v :: st) Q) : AG E D cs M nm h k mc ms pre ws nc ns pc ls (.ref a :: st) Q := by
  intro p l e R s m args below meth c H locs Z A lsA C hP hD hS hl hr
  obtain ⟨Cn, T, N, hc, hN, hin, hlk⟩ := hf
  rcases hlk with hlk | ⟨host, hlk⟩
  · exact va_get C.1 C.2.1 C.2.2.2.2.1 hin C.2.2.2.1 C.2.2.2.2.2.2.1 hP _ (pw_at he) hc j hN (C.2.2.2.2.1 _ hlk) (fun _ h9 => h9) hj hd (kk C hP hD hS hl hr)
  · exact va_getN C.1 C.2.1 C.2.2.2.2.1 hin C.2.2.2.1 C.2.2.2.2.2.2.1 hP _ (pw_at he) hc j hN (va_Nw.use rfl (C.2.2.2.2.2.1 _ hlk)) (fun _ h9 => h9) hj hd (kk C hP hD hS hl hr)
theorem AG.putF {idx ci j r a : Nat} {fs : List Value} {ty : FieldType} {v : Value} {ws' : va_W} (hd : decode M.2.1 pc = .ok (.putfield idx, 3)) (hf : ff_ok M.1 idx ci j ty) (hnm : nm = "<init>") (he : ws[r]? = some (a, .inr (ci, fs))) (hj : j < fs.length) (hn : narrow ty v = v) (hfit : fits ty v = true) (hw : ws.set r (a, .inr (ci, fs.set j v)) = ws') (kk : AG E D cs M nm h k mc ms pre ws' nc ns (pc + 3) ls st Q) : AG E D cs M nm h k mc ms pre ws nc ns pc ls (v :: .ref a :: st) Q := by
  intro p l e R s m args below meth c H locs Z A lsA C hP hD hS hl hr
  obtain ⟨Cn, T, N, ty0, hc, hN, hin, hlk, hty, hnm2, hfin, hdc, hds⟩ := hf
  refine va_putF C.1 C.2.1 C.2.2.2.2.1 hin ty0 hty hnm2 C.2.2.2.1 C.2.2.2.2.2.2.1 hP hD hS _ (pw_at he) hc j hN (C.2.2.2.2.1 _ hlk) (fun _ h9 => h9) hfin (C.2.2.2.2.2.2.2.2.2.2.2.1.trans hnm) hdc hds hn hfit hj hd (fun H1 locs1 hP1 hD1 hS1 => ?_)
  rw [pw_set, hw] at hP1 hD1
  exact kk C hP1 hD1 hS1 hl hr
theorem AG.putI {idx ci j r a : Nat} {fs : List Value} {ty : FieldType} {v : Value} {ws' : va_W} (hd : decode M.2.1 pc = .ok (.putfield idx, 3)) (hf : fp_ok M.1 idx ci j ty) (he : ws[r]? = some (a, .inr (ci, fs))) (hj : j < fs.length) (hn : narrow ty v = v) (hfit : fits ty v = true) (hw : ws.set r (a, .inr (ci, fs.set j v)) = ws') (kk : AG E D cs M nm h k mc ms pre ws' nc ns (pc + 3) ls st Q) : AG E D cs M nm h k mc ms pre ws nc ns pc ls (v :: .ref a :: st) Q := by
  intro p l e R s m args below meth c H locs Z A lsA C hP hD hS hl hr
  obtain ⟨Cn, T, N, ty0, hc, hN, hin, hlk, hty, hnm2, hfin, hds⟩ := hf
  rcases hlk with hlk | ⟨host, hlk⟩
  · refine va_put C.1 C.2.1 C.2.2.2.2.1 hin ty0 hty hnm2 C.2.2.2.1 C.2.2.2.2.2.2.1 hP hD hS _ (pw_at he) hc j hN (C.2.2.2.2.1 _ hlk) (fun _ h9 => h9) hfin hds hn hfit hj hd (fun H1 locs1 hP1 hD1 hS1 => ?_)
    rw [pw_set, hw] at hP1 hD1
    exact kk C hP1 hD1 hS1 hl hr
  · refine va_putN C.1 C.2.1 C.2.2.2.2.1 hin ty0 hty hnm2 C.2.2.2.1 C.2.2.2.2.2.2.1 hP hD hS _ (pw_at he) hc j hN (va_Nw.use rfl (C.2.2.2.2.2.1 _ hlk)) (fun _ h9 => h9) hfin hds hn hfit hj hd (fun H1 locs1 hP1 hD1 hS1 => ?_)
    rw [pw_set, hw] at hP1 hD1
    exact kk C hP1 hD1 hS1 hl hr
theorem AG.new {idx ci : Nat} {fs : List Value} (hd : decode M.2.1 pc = .ok (.new idx, 3)) (hf : nw_ok M.1 idx ci fs) (hb : nc + 1 ≤ mc ∧ ns + fs.length ≤ ms) (kk : ∀ q, AG E D cs M nm h k mc ms pre (ws ++ [(q, .inr (ci, fs))]) (nc + 1) (ns + fs.length) (pc + 3) ls (.ref q :: st) Q) : AG E D cs M nm h k mc ms pre ws nc ns pc ls st Q := by
  intro p l e R s m args below meth c H locs Z A lsA C hP hD hS hl hr
  obtain ⟨Cn, T, N, ty0, hc, hlen, hin, hty, hcl, hinst, hini, hdv⟩ := hf
  have hR := C.2.2.2.2.2.2.2.2.2.2.1
  subst hlen
  refine va_new C.1 C.2.1 C.2.2.2.2.1 hin ty0 hty C.2.2.2.1 (C.2.2.2.2.1 _ hcl) (C.2.2.2.2.1 _ hinst) (C.2.2.2.2.1 _ hini) C.2.2.2.2.2.2.1 hP hD hS C.2.2.2.2.2.2.2.2.1 hc hdv (Nat.le_trans hb.1 hR.1) (Nat.le_trans hb.2 hR.2) hd (fun q H1 hP1 hD1 hS1 => ?_)
  rw [List.append_assoc] at hP1 hD1
  exact kk q C hP1 hD1 hS1 hl hr
theorem ag_cls {ty : FieldType} {cA cB : ClassId} {U : State} (hA : va_RA U cA ty) (hB : va_RA U cB ty) : cA = cB := by
  cases ty with
  | object C =>
    obtain ⟨_, _, _, _, _, h1⟩ := hA
    obtain ⟨_, _, _, _, _, h2⟩ := hB
    exact Option.some.inj (h1.symm.trans h2)
  | _ => exact Option.some.inj (Eq.trans (Eq.symm hA) hB)
theorem AG.newI {n : Int32} {N : Nat} (hd : decode M.2.1 pc = .ok (.newarray .int, 2)) (hw : Cond.arrayClass .int ∈ lw_gd) (hn : ¬ n < 0) (hN : n.toNatClampNeg = N) (hs : N * 4 ≤ 536870912) (hb : nc + 1 ≤ mc ∧ ns + N ≤ ms) (kk : ∀ q, AG E D cs M nm h k mc ms pre (ws ++ [(q, .inl (cs 0, N, .inl (fun _ => 0)))]) (nc + 1) (ns + N) (pc + 2) ls (.ref q :: st) Q) : AG E D cs M nm h k mc ms pre ws nc ns pc ls (.int n :: st) Q := by
  intro p l e R s m args below meth c H locs Z A lsA C hP hD hS hl hr
  have hR := C.2.2.2.2.2.2.2.2.2.2.1
  refine va_newa (a0 := (N, .inl (fun _ => 0))) (atype := .int) (ty := .int) C.1 C.2.1 (C.2.2.2.2.1 _ hw) rfl C.2.2.2.2.2.2.1 hP hD hS C.2.2.2.2.2.2.2.2.1 (fun _ => rfl) hn hN hs (Nat.le_trans hb.1 hR.1) (Nat.le_trans hb.2 hR.2) hd (fun q cA H1 hK1 hP1 hD1 hS1 => ?_)
  have e : cA = cs 0 := ag_cls (hK1.2 4 (cA, .int) rfl).2 (C.2.2.2.2.2.2.1.2 0 _ rfl).2
  subst e
  rw [List.append_assoc] at hP1 hD1
  exact kk q C hP1 hD1 hS1 hl hr
theorem AG.newJ {n : Int32} {N : Nat} (hd : decode M.2.1 pc = .ok (.newarray .long, 2)) (hw : Cond.arrayClass .long ∈ lw_gd) (hn : ¬ n < 0) (hN : n.toNatClampNeg = N) (hs : N * 8 ≤ 536870912) (hb : nc + 1 ≤ mc ∧ ns + N ≤ ms) (kk : ∀ q, AG E D cs M nm h k mc ms pre (ws ++ [(q, .inl (cs 1, N, .inr (.inl (fun _ => 0))))]) (nc + 1) (ns + N) (pc + 2) ls (.ref q :: st) Q) : AG E D cs M nm h k mc ms pre ws nc ns pc ls (.int n :: st) Q := by
  intro p l e R s m args below meth c H locs Z A lsA C hP hD hS hl hr
  have hR := C.2.2.2.2.2.2.2.2.2.2.1
  refine va_newa (a0 := (N, .inr (.inl (fun _ => 0)))) (atype := .long) (ty := .long) C.1 C.2.1 (C.2.2.2.2.1 _ hw) rfl C.2.2.2.2.2.2.1 hP hD hS C.2.2.2.2.2.2.2.2.1 (fun _ => rfl) hn hN hs (Nat.le_trans hb.1 hR.1) (Nat.le_trans hb.2 hR.2) hd (fun q cA H1 hK1 hP1 hD1 hS1 => ?_)
  have e : cA = cs 1 := ag_cls (hK1.2 4 (cA, .long) rfl).2 (C.2.2.2.2.2.2.1.2 1 _ rfl).2
  subst e
  rw [List.append_assoc] at hP1 hD1
  exact kk q C hP1 hD1 hS1 hl hr
theorem AG.newZ {n : Int32} {N : Nat} (hd : decode M.2.1 pc = .ok (.newarray .boolean, 2)) (hw : Cond.arrayClass .boolean ∈ lw_gd) (hn : ¬ n < 0) (hN : n.toNatClampNeg = N) (hs : N * 1 ≤ 536870912) (hb : nc + 1 ≤ mc ∧ ns + N ≤ ms) (kk : ∀ q, AG E D cs M nm h k mc ms pre (ws ++ [(q, .inl (cs 2, N, .inl (fun _ => 0)))]) (nc + 1) (ns + N) (pc + 2) ls (.ref q :: st) Q) : AG E D cs M nm h k mc ms pre ws nc ns pc ls (.int n :: st) Q := by
  intro p l e R s m args below meth c H locs Z A lsA C hP hD hS hl hr
  have hR := C.2.2.2.2.2.2.2.2.2.2.1
  refine va_newa (a0 := (N, .inl (fun _ => 0))) (atype := .boolean) (ty := .boolean) C.1 C.2.1 (C.2.2.2.2.1 _ hw) rfl C.2.2.2.2.2.2.1 hP hD hS C.2.2.2.2.2.2.2.2.1 (fun _ => rfl) hn hN hs (Nat.le_trans hb.1 hR.1) (Nat.le_trans hb.2 hR.2) hd (fun q cA H1 hK1 hP1 hD1 hS1 => ?_)
  have e : cA = cs 2 := ag_cls (hK1.2 4 (cA, .boolean) rfl).2 (C.2.2.2.2.2.2.1.2 2 _ rfl).2
  subst e
  rw [List.append_assoc] at hP1 hD1
  exact kk q C hP1 hD1 hS1 hl hr
theorem AG.newS {idx : Nat} {n : Int32} {N : Nat} (hd : decode M.2.1 pc = .ok (.anewarray idx, 3)) (hw : Cond.classLink M.1 idx "OneTriangle$Sheet" ∈ lw_gd) (hn : ¬ n < 0) (hN : n.toNatClampNeg = N) (hs : N * 4 ≤ 536870912) (hb : nc + 1 ≤ mc ∧ ns + N ≤ ms) (kk : ∀ q, AG E D cs M nm h k mc ms pre (ws ++ [(q, .inl (cs 3, N, .inr (.inr (.inr (.inr (fun _ => none))))))]) (nc + 1) (ns + N) (pc + 3) ls (.ref q :: st) Q) : AG E D cs M nm h k mc ms pre ws nc ns pc ls (.int n :: st) Q := by
  intro p l e R s m args below meth c H locs Z A lsA C hP hD hS hl hr
  have hR := C.2.2.2.2.2.2.2.2.2.2.1
  refine va_newq C.1 C.2.1 C.2.2.2.1 (C.2.2.2.2.1 _ hw) C.2.2.2.2.2.2.2.1 C.2.2.2.2.2.2.1 hP hD hS C.2.2.2.2.2.2.2.2.1 hn hN hs (Nat.le_trans hb.1 hR.1) (Nat.le_trans hb.2 hR.2) hd (fun q cA H1 hK1 hP1 hD1 hS1 => ?_)
  have e : cA = cs 3 := ag_cls (hK1.2 4 (cA, .object "OneTriangle$Sheet") rfl).2 (C.2.2.2.2.2.2.1.2 3 _ rfl).2
  subst e
  rw [List.append_assoc] at hP1 hD1
  exact kk q C hP1 hD1 hS1 hl hr
theorem AG.iast {r a n : Nat} {f : Nat → Int32} {i x : Int32} {ws' : va_W} (hd : decode M.2.1 pc = .ok (.iastore, 1)) (he : ws[r]? = some (a, .inl (cs 0, n, .inl f))) (hi : inb i n = true) (hw : ws.set r (a, .inl (cs 0, n, .inl (upd f i.toNatClampNeg x))) = ws') (kk : AG E D cs M nm h k mc ms pre ws' nc ns (pc + 1) ls st Q) : AG E D cs M nm h k mc ms pre ws nc ns pc ls (.int x :: .int i :: .ref a :: st) Q := by
  intro p l e R s m args below meth c H locs Z A lsA C hP hD hS hl hr
  refine va_iast C.1 C.2.1 C.2.2.2.2.2.2.1 hP hD hS _ 0 (pw_at he) rfl (inb_in hi) hd (fun H1 locs1 hP1 hD1 hS1 => ?_)
  rw [pw_set, hw] at hP1 hD1
  exact kk C hP1 hD1 hS1 hl hr
theorem AG.aast {r a n v q : Nat} {vs : List Value} {f : Nat → Option Nat} {i : Int32} {ws' : va_W} (hd : decode M.2.1 pc = .ok (.aastore, 1)) (he : ws[r]? = some (a, .inl (cs 3, n, .inr (.inr (.inr (.inr f)))))) (hv : ws[q]? = some (v, .inr (7, vs))) (hi : inb i n = true) (hw : ws.set r (a, .inl (cs 3, n, .inr (.inr (.inr (.inr (va_up f i.toNatClampNeg (some v))))))) = ws') (kk : AG E D cs M nm h k mc ms pre ws' nc ns (pc + 1) ls st Q) : AG E D cs M nm h k mc ms pre ws nc ns pc ls (.ref v :: .int i :: .ref a :: st) Q := by
  intro p l e R s m args below meth c H locs Z A lsA C hP hD hS hl hr
  refine va_astq (r := (RX7, TX7, 4)) C.1 C.2.1 C.2.2.2.2.2.2.1 hP hD hS _ 3 _ 7 (pw_at he) rfl (pw_at hv) rfl (inb_in hi) hd (fun H1 locs1 hP1 hD1 hS1 => ?_)
  rw [pw_set, hw] at hP1 hD1
  exact kk C hP1 hD1 hS1 hl hr
theorem AG.alen {r a t : Nat} {x : vp_A} {ty : FieldType} {v : Int32} (hd : decode M.2.1 pc = .ok (.arraylength, 1)) (he : ws[r]? = some (a, .inl (cs t, x))) (ht : (gtys cs)[t]? = some (cs t, ty)) (hv : Int32.ofNat x.1 = v) (kk : AG E D cs M nm h k mc ms pre ws nc ns (pc + 1) ls (.int v :: st) Q) : AG E D cs M nm h k mc ms pre ws nc ns pc ls (.ref a :: st) Q := by
  intro p l e R s m args below meth c H locs Z A lsA C hP hD hS hl hr
  exact va_alen C.1 C.2.1 C.2.2.2.2.2.2.1 hP _ t (pw_at he) ht hv hd (kk C hP hD hS hl hr)
def oi_ok (own : String) (idx : Nat) : Prop := Cond.methodLink own idx Lib.objectInit ∈ lw_gd ∧ Cond.instanceMethod Lib.objectInit ∈ lw_gd ∧ Cond.code Lib.objectInit ⟨#[0xb1]⟩ 1 none ∈ lw_gd
theorem AG.objInit {idx a : Nat} (hd : decode M.2.1 pc = .ok (.invokespecial idx, 3)) (hw : oi_ok M.1 idx) (hcat : (st.map fun v => v.category).sum ≤ 8) (hh : 1 ≤ h ∧ 20 ≤ k) (kk : AG E D cs M nm h k mc ms pre ws nc ns (pc + 3) ls st Q) : AG E D cs M nm h k mc ms pre ws nc ns pc ls (.ref a :: st) Q := by
  intro p l e R s m args below meth c H locs Z A lsA C hP hD hS hl hr
  have hR := C.2.2.2.2.2.2.2.2.2.1
  refine W.objInit (g := F0 m pc lsA (.ref a :: st)) C.1 C.2.1 C.2.2.2.1 (C.2.2.2.2.1 _ hw.1) (C.2.2.2.2.1 _ hw.2.1) (C.2.2.2.2.1 _ hw.2.2) rfl (hl.1.trans C.2.2.1.symm) rfl hd (Nat.le_trans hh.1 hR.1) ?_ (kk C hP hD hS hl hr)
  have h9 := lv_room (m := m) (pc := pc) (ls := lsA) (rest := st) hcat
  have h8 : 2 * (F0 m pc lsA (.ref a :: st)).monitorRoom + (st.map fun v => v.category).sum ≤ 8 := h9
  omega
theorem AG.vret (hd : decode M.2.1 pc = .ok (.return_, 1)) (ht : M.2.2.2 = none) (hb : nc ≤ mc ∧ ns ≤ ms) (hq : Q none ws) : AG E D cs M nm h k mc ms pre ws nc ns pc ls [] Q := by
  intro p l e R s m args below meth c H locs Z A lsA C hP hD hS hl hr
  exact W.widen hb.1 hb.2 (hr none ws H locs pc lsA ⟨ht, hd⟩ hq hP hD hS)
theorem AG.fit {nc' ns' : Nat} {ws' : va_W} (hc : nc = nc') (hs : ns = ns') (hw : ws = ws') (kk : AG E D cs M nm h k mc ms pre ws' nc' ns' pc ls st Q) : AG E D cs M nm h k mc ms pre ws nc ns pc ls st Q := by
  subst hc; subst hs; subst hw; exact kk
end AGR
/-! a constructor's contract: over any cells before it -/
def ag_B (D : va_G) (cs : Nat → ClassId) (w : va_W) (sz : Nat) (U : State) : Prop := U.heap.size = sz ∧ va_P D classes w U.heap ∧ va_K D classes (gtys cs) U ∧ va_D (fun _ => True) w ∧ (∀ w ∈ lw_nw, va_Nw w U) ∧ va_AO "OneTriangle$Sheet" U
def CG (D : va_G) (cs : Nat → ClassId) (y : MethodName) (M : am_M) (h k mc ms : Nat) (As : List Value) (w0 : va_W) (Q : va_W → Prop) : Prop :=
  ∀ (l : Launch) (sz : Nat) (pre : va_W), Met l y (.code y M.2.1 M.2.2.1 M.2.2.2 :: lw_gd) { frames := h, cells := mc, slots := ms, locals := k } (va_Pc As (ag_B D cs (pre ++ w0) sz)) (fun _ st oc t => (∃ w', oc = .returned none ∧ Q w' ∧ va_P D classes (pre ++ w') t.heap ∧ va_D (va_A (pre ++ w0) sz) (pre ++ w')) ∧ va_F (va_A (pre ++ w0) sz) st t) mc ms (va_A (pre ++ w0) sz)
theorem CG.of {D : va_G} {cs : Nat → ClassId} {y : MethodName} {M : am_M} {h k mc ms : Nat} {As : List Value} {w0 : va_W} {Q : va_W → Prop} (hy : plainFor y = true) (hyc : y.cls = M.1) (hyn : y.name = "<init>") (hret : M.2.2.2 = none) (hlen : (lg_sl As).length ≤ M.2.2.1) (hx : ∀ pre, AG (fun _ _ => True) D cs M "<init>" h k mc ms pre w0 0 0 0 (lv_args 0 As) [] (fun _ w => Q w)) : CG D cs y M h k mc ms As w0 Q := by
  intro l sz pre
  refine Met.ofWF (cc := M.2.1) (maxL := M.2.2.1) (ret := M.2.2.2) hy rfl ?_
  intro p e s m args below meth c s₁ B hml hv
  obtain ⟨rfl, hsz, hP, hK, hD0, hN, hAO⟩ := hv
  have hts := atoms_spec (ws := Cond.code y M.2.1 M.2.2.1 M.2.2.2 :: lw_gd) B.pre
  have hown : s.vm.findClass M.1 = some m.cls := hyc ▸ findClass_of_methodNamed B.named
  have hlocks := B.notSynchronized
  have hr := B.returns
  have hb := B.bytes
  have hex := B.exec
  have hin : meth.name = "<init>" := (name_of_methodNamed B.named B.method).1.trans hyn
  subst hsz
  have hD := hD0.self (sz := s.heap.size)
  have hl := lv_entry As (n := M.2.2.1) hlen
  rw [lg_entry_eq]
  refine hx pre (A := va_A (pre ++ w0) s.heap.size) (R := (headSpec (Cond.code y M.2.1 M.2.2.1 M.2.2.2 :: lw_gd) { frames := h, cells := mc, slots := ms, locals := k }).room) ⟨hex, hb, hml, hown, fun w hw => hts w (List.mem_cons_of_mem _ hw), hN, hK, hAO, fun q hq => Or.inr hq, ⟨Nat.le_refl _, Nat.le_refl _⟩, ⟨Nat.le_refl _, Nat.le_refl _⟩, hin, trivial⟩ hP hD va_S.rf hl ?_
  intro v w' H' locs' pc' lsB hR hQ hP' hD' hS'
  have hv : v = none := by
    cases v with
    | none => rfl
    | some w => cases w with
      | int x => obtain ⟨ty, h1, -⟩ := hR; rw [hret] at h1; cases h1
      | long x => have h1 := hR.1; rw [hret] at h1; cases h1
      | ref a => obtain ⟨⟨n, h1⟩, -⟩ := hR; rw [hret] at h1; cases h1
      | null => obtain ⟨⟨n, h1⟩, -⟩ := hR; rw [hret] at h1; cases h1
      | _ => exact hR.elim
  subst hv
  exact W.vret hex hb (hr.trans hR.1) (fun t ht hW => ⟨⟨w', rfl, hQ, by rw [ht]; exact hP', hD'⟩, hS'.F ht⟩) hS'.2.2 hR.2
theorem ag_blind {D : va_G} {cs : Nat → ClassId} {w : va_W} {sz : Nat} {As : List Value} : FrameBlind (va_Pc As (ag_B D cs w sz)) := by
  intro a U g mk q
  obtain ⟨q0, q1, qP, qK, qD, qN, qS⟩ := q
  exact ⟨q0, q1, qP, va_K.moved (u := U) (U := U.calling g mk a) (Vm.Alike.refl U.vm) qK, qD, fun w hw => lw_nw_same hw (u := U) (U := U.calling g mk a) rfl (qN w hw), va_AO.moved (u := U) (U := U.calling g mk a) (Vm.Alike.refl U.vm) qS⟩
def yi_ok (y : MethodName) (M : am_M) (n : Nat) : Prop := yl_ok y M n ∧ y.name = "<init>" ∧ Cond.instanceMethod y ∈ lw_gd ∧ M.2.2.2 = none
theorem AG.callI {E : State → (Nat → Prop) → Prop} {D : va_G} {cs : Nat → ClassId} {M : am_M} {nm : String} {h k mc ms : Nat} {pre ws : va_W} {nc ns pc : Nat} {ls : List (Nat × Value)} {st : List Value} {Q : Option Value → va_W → Prop} {idx n b : Nat} {y : MethodName} {M' : am_M} {h' k' mc' ms' : Nat} {As rest : List Value} {w0 : va_W} {Q' : va_W → Prop} (ws0 : va_W) (hd : decode M.2.1 pc = .ok (.invokespecial idx, 3)) (hlk : ml_ok M.1 idx y) (hy : yi_ok y M' n) (hws : ws = ws0 ++ w0) (hst : st = As.reverse ++ .ref b :: rest) (hn : As.length = n) (hcat : (rest.map fun v => v.category).sum ≤ 8) (hh : h' + 1 ≤ h ∧ 8 + (M'.2.2.1 + 11) + k' ≤ k) (hb : nc + mc' ≤ mc ∧ ns + ms' ≤ ms)
    (hc : CG D cs y M' h' k' mc' ms' (.ref b :: As) w0 Q') (kk : ∀ w', Q' w' → AG E D cs M nm h k mc ms pre (ws0 ++ w') (nc + mc') (ns + ms') (pc + 3) ls rest Q) : AG E D cs M nm h k mc ms pre ws nc ns pc ls st Q := by
  subst hws
  intro p l e R s m args below meth c H locs Z A lsA C hP hD hS hl hr
  obtain ⟨hy, hyn, hinst, hret⟩ := hy
  have hR := C.2.2.2.2.2.2.2.2.2.1
  have hRc := C.2.2.2.2.2.2.2.2.2.2.1
  have hR' : h' + 1 ≤ R.frames ∧ 8 + (M'.2.2.1 + 11) + k' ≤ R.locals := ⟨Nat.le_trans hh.1 hR.1, Nat.le_trans hh.2 hR.2⟩
  have hf : nc + mc' ≤ R.cells ∧ ns + ms' ≤ R.slots := ⟨Nat.le_trans hb.1 hRc.1, Nat.le_trans hb.2 hRc.2⟩
  rw [← List.append_assoc] at hP hD
  have hF : ∀ q, va_A ((pre ++ ws0) ++ w0) H.size q → A q := by
    intro q hq
    rcases hq with ⟨j, e, hj⟩ | hq
    · exact hD.2 j (q, e) hj
    · exact C.2.2.2.2.2.2.2.2.1 q (Nat.le_trans hS.1 hq)
  have pr : PreS s H (va_Pc (.ref b :: As) (ag_B D cs ((pre ++ ws0) ++ w0) H.size)) (.ref b :: As) := ⟨ag_blind, fun U hU hW => ⟨rfl, by rw [hU], by rw [hU]; exact hP, va_K.moved hW.alike C.2.2.2.2.2.2.1, hD.weaken (fun _ _ _ _ => trivial), fun w hw => lw_nw_warm hw hW (C.2.2.2.2.2.1 w hw), va_AO.moved hW.alike C.2.2.2.2.2.2.2.1⟩⟩
  have fin : ∀ run : va_Run p l e R s m args below meth c H locs nc ns mc' ms' (F0 m pc lsA st) rest (fun st oc t => (∃ w', oc = .returned none ∧ Q' w' ∧ va_P D classes ((pre ++ ws0) ++ w') t.heap ∧ va_D (va_A ((pre ++ ws0) ++ w0) H.size) ((pre ++ ws0) ++ w')) ∧ va_F (va_A ((pre ++ ws0) ++ w0) H.size) st t) (va_A ((pre ++ ws0) ++ w0) H.size), W p l e R s m args below meth c H locs nc ns Z (F0 m pc lsA st) := by
    intro run T hT X
    obtain ⟨v, st₀, t, T', L, h0, X', hL, e1, e2, ⟨⟨w', hv, hq, hP', hD'⟩, hz, hk⟩, stp⟩ := run T hT X
    cases hv
    rw [h0] at hz hk
    have hST : va_S A s.heap T'.heap (locs ++ L) := ⟨Nat.le_trans hS.1 (by rw [e1]; exact hz), fun q h1 h2 => by rw [e1, hk q (Nat.lt_of_lt_of_le h1 hS.1) (fun z => h2 (hF q z))]; exact hS.2.1 q h1 h2, fun q hq => by
      rcases List.mem_append.mp hq with h | h
      · exact hS.2.2 q h
      · exact hF _ (hL q h)⟩
    have hPT : va_P D classes (pre ++ (ws0 ++ w')) T'.heap := by rw [e1, ← List.append_assoc]; exact hP'
    have hDT : va_D A (pre ++ (ws0 ++ w')) := by rw [← List.append_assoc]; exact hD'.weaken (fun _ q _ hx => hF q.1 hx)
    obtain ⟨t2, a1, b1⟩ := kk w' hq C hPT hDT hST hl hr T' rfl X'
    exact ⟨t2, stp t2 a1, b1⟩
  have hci := hc l H.size (pre ++ ws0)
  obtain ⟨own', cc', nL', ret'⟩ := M'
  dsimp only at hret hci hR' hy
  subst hret
  rcases hlk with hlk | ⟨host, hlk⟩
  · exact fin (va_runI (As := As) (rest := rest) (Ts := lw_gd) ⟨C.1, C.2.1, C.2.2.1, C.2.2.2.1, C.2.2.2.2.1⟩ hci ⟨callB_of n C.2.2.2.2.1 (yl_gi hy) rfl rfl rfl (C.2.2.2.2.1 _ hy.2.2) (C.2.2.2.2.1 _ hlk) hy.1 hR', hyn, C.2.2.2.2.1 _ hinst⟩ pr rfl hn hl.1 hst (lv_room hcat) hd hf)
  · exact fin (va_runIN (As := As) (rest := rest) (Ts := lw_gd) ⟨C.1, C.2.1, C.2.2.1, C.2.2.2.1, C.2.2.2.2.1⟩ hci ⟨va_cnB n C.2.2.2.2.1 (yl_gi hy) rfl rfl rfl (C.2.2.2.2.2.1 _ hlk) (C.2.2.2.2.1 _ hy.2.2) hy.1 hR', hyn, C.2.2.2.2.1 _ hinst⟩ pr rfl hn hl.1 hst (lv_room hcat) hd hf)

