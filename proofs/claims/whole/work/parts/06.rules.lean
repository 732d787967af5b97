theorem AX.eqp {G : ag_G} {M : am_M} {h k pc pc' : Nat} {ls : List (Nat × Value)} {st : List Value} {σ : St} {Q : Option Value → St → Prop} (hp : pc = pc') (kk : AX G M h k pc' ls st σ Q) : AX G M h k pc ls st σ Q := hp ▸ kk
def ls1 (i : Nat) (v : Value) (l : List (Nat × Value)) : List (Nat × Value) := (l.filter fun q => decide (q.1 < i) && !(q.1 + 1 == i && q.2.category == 2)) ++ (i, v) :: (l.filter fun q => decide (i < q.1))
def ls2 (i : Nat) (v : Value) (l : List (Nat × Value)) : List (Nat × Value) := (l.filter fun q => decide (q.1 < i) && !(q.1 + 1 == i && q.2.category == 2)) ++ (i, v) :: (l.filter fun q => decide (i + 1 < q.1))
theorem lv_mono {ls : Array Slot} {n : Nat} {l l' : List (Nat × Value)} (h : lv_has ls n l) (hm : ∀ q ∈ l', q ∈ l) : lv_has ls n l' := ⟨h.1, h.2.1, fun q hq => h.2.2 q (hm q hq)⟩
theorem ls1_mem {i : Nat} {v : Value} {l : List (Nat × Value)} : ∀ q ∈ ls1 i v l, q ∈ (i, v) :: l.filter (fun q => !(q.1 == i) && !(q.1 + 1 == i && q.2.category == 2)) := by
  intro q hq
  unfold ls1 at hq
  rcases List.mem_append.mp hq with h | h
  · obtain ⟨h1, h2⟩ := List.mem_filter.mp h
    refine List.mem_cons_of_mem _ (List.mem_filter.mpr ⟨h1, ?_⟩)
    simp only [Bool.and_eq_true, decide_eq_true_eq] at h2
    have : (q.1 == i) = false := by simp; omega
    simp only [this, Bool.not_false, Bool.true_and]
    exact h2.2
  · rcases List.mem_cons.mp h with h | h
    · rw [h]; exact List.mem_cons_self
    · obtain ⟨h1, h2⟩ := List.mem_filter.mp h
      refine List.mem_cons_of_mem _ (List.mem_filter.mpr ⟨h1, ?_⟩)
      simp only [decide_eq_true_eq] at h2
      have e1 : (q.1 == i) = false := by simp; omega
      have e2 : (q.1 + 1 == i) = false := by simp; omega
      simp only [e1, e2, Bool.not_false, Bool.false_and, Bool.and_self]
theorem ls2_mem {i : Nat} {v : Value} {l : List (Nat × Value)} : ∀ q ∈ ls2 i v l, q ∈ (i, v) :: l.filter (fun q => !(q.1 == i) && (!(q.1 == i + 1) && !(q.1 + 1 == i && q.2.category == 2))) := by
  intro q hq
  unfold ls2 at hq
  rcases List.mem_append.mp hq with h | h
  · obtain ⟨h1, h2⟩ := List.mem_filter.mp h
    refine List.mem_cons_of_mem _ (List.mem_filter.mpr ⟨h1, ?_⟩)
    simp only [Bool.and_eq_true, decide_eq_true_eq] at h2
    have e1 : (q.1 == i) = false := by simp; omega
    have e2 : (q.1 == i + 1) = false := by simp; omega
    simp only [e1, e2, Bool.not_false, Bool.true_and]
    exact h2.2
  · rcases List.mem_cons.mp h with h | h
    · rw [h]; exact List.mem_cons_self
    · obtain ⟨h1, h2⟩ := List.mem_filter.mp h
      refine List.mem_cons_of_mem _ (List.mem_filter.mpr ⟨h1, ?_⟩)
      simp only [decide_eq_true_eq] at h2
      have e1 : (q.1 == i) = false := by simp; omega
      have e2 : (q.1 + 1 == i) = false := by simp; omega
      have e3 : (q.1 == i + 1) = false := by simp; omega
      simp only [e1, e2, e3, Bool.not_false, Bool.false_and, Bool.and_self]
section AXR
variable {G : ag_G} {M : am_M} {h k pc : Nat} {ls : List (Nat × Value)} {st : List Value} {σ : St} {Q : Option Value → St → Prop}
theorem AX.sub {ls' : List (Nat × Value)} (ks : List Nat) (hs : lv_pick ls ks = ls') (kk : AX G M h k pc ls' st σ Q) : AX G M h k pc ls st σ Q := by
  intro p l e R s m args below meth c H locs cells slots Z A lsA C hP hD hS hl hr
  exact kk C hP hD hS (lv_sub hl ks hs) hr
theorem AX.iconst {n : Int} {v : Int32} (hd : decode M.2.1 pc = .ok (.iconst n, 1)) (hv : Int32.ofInt n = v) (kk : AX G M h k (pc + 1) ls (.int v :: st) σ Q) : AX G M h k pc ls (st) σ Q := by
  intro p l e R s m args below meth c H locs cells slots Z A lsA C hP hD hS hl hr
  exact lv_iconst C.1 C.2.1 hd hv (kk C hP hD hS hl hr)
theorem AX.bipush {n : Int} {v : Int32} (hd : decode M.2.1 pc = .ok (.bipush n, 2)) (hv : (Int8.ofInt n).toInt32 = v) (kk : AX G M h k (pc + 2) ls (.int v :: st) σ Q) : AX G M h k pc ls (st) σ Q := by
  intro p l e R s m args below meth c H locs cells slots Z A lsA C hP hD hS hl hr
  exact lv_bipush C.1 C.2.1 hd hv (kk C hP hD hS hl hr)
theorem AX.sipush {n : Int} {v : Int32} (hd : decode M.2.1 pc = .ok (.sipush n, 3)) (hv : (Int16.ofInt n).toInt32 = v) (kk : AX G M h k (pc + 3) ls (.int v :: st) σ Q) : AX G M h k pc ls (st) σ Q := by
  intro p l e R s m args below meth c H locs cells slots Z A lsA C hP hD hS hl hr
  exact lv_sipush C.1 C.2.1 hd hv (kk C hP hD hS hl hr)
theorem AX.lconst {n : Fin 2} {v : Int64} (hd : decode M.2.1 pc = .ok (.lconst n, 1)) (hv : Int64.ofNat (n : Nat) = v) (kk : AX G M h k (pc + 1) ls (.long v :: st) σ Q) : AX G M h k pc ls (st) σ Q := by
  intro p l e R s m args below meth c H locs cells slots Z A lsA C hP hD hS hl hr
  exact lv_lconst C.1 C.2.1 hd hv (kk C hP hD hS hl hr)
theorem AX.null  (hd : decode M.2.1 pc = .ok (.aconst_null, 1)) (kk : AX G M h k (pc + 1) ls (.null :: st) σ Q) : AX G M h k pc ls (st) σ Q := by
  intro p l e R s m args below meth c H locs cells slots Z A lsA C hP hD hS hl hr
  exact lv_null C.1 C.2.1 hd (kk C hP hD hS hl hr)
theorem AX.ldc {i : Nat} {v : Int32} (hd : decode M.2.1 pc = .ok (.ldc i, 2)) (hw : Cond.constant M.1 i v ∈ lw_gd) (kk : AX G M h k (pc + 2) ls (.int v :: st) σ Q) : AX G M h k pc ls (st) σ Q := by
  intro p l e R s m args below meth c H locs cells slots Z A lsA C hP hD hS hl hr
  exact lv_ldc C.1 C.2.1 C.2.2.2.1 (C.2.2.2.2.1 _ hw) hd (kk C hP hD hS hl hr)
theorem AX.ldcw {i : Nat} {v : Int32} (hd : decode M.2.1 pc = .ok (.ldc_w i, 3)) (hw : Cond.constant M.1 i v ∈ lw_gd) (kk : AX G M h k (pc + 3) ls (.int v :: st) σ Q) : AX G M h k pc ls (st) σ Q := by
  intro p l e R s m args below meth c H locs cells slots Z A lsA C hP hD hS hl hr
  exact lv_ldcw C.1 C.2.1 C.2.2.2.1 (C.2.2.2.2.1 _ hw) hd (kk C hP hD hS hl hr)
theorem AX.ldc2 {i : Nat} {v : Int64} (hd : decode M.2.1 pc = .ok (.ldc2_w i, 3)) (hw : Cond.constantLong M.1 i v ∈ lw_gd) (kk : AX G M h k (pc + 3) ls (.long v :: st) σ Q) : AX G M h k pc ls (st) σ Q := by
  intro p l e R s m args below meth c H locs cells slots Z A lsA C hP hD hS hl hr
  exact lv_ldc2 C.1 C.2.1 C.2.2.2.1 (C.2.2.2.2.1 _ hw) hd (kk C hP hD hS hl hr)
theorem AX.iload_n {n : Fin 4} {i : Nat} {x : Int32} (hd : decode M.2.1 pc = .ok (.iload_n n, 1)) (q : Nat) (hi : (n : Nat) = i) (hq : ls[q]? = some (i, .int x)) (kk : AX G M h k (pc + 1) ls (.int x :: st) σ Q) : AX G M h k pc ls (st) σ Q := by
  intro p l e R s m args below meth c H locs cells slots Z A lsA C hP hD hS hl hr
  exact lv_iload_n C.1 C.2.1 hd hi (lv_at hl q hq) (kk C hP hD hS hl hr)
theorem AX.iload {i : Nat} {x : Int32} (hd : decode M.2.1 pc = .ok (.iload i, 2)) (q : Nat) (hq : ls[q]? = some (i, .int x)) (kk : AX G M h k (pc + 2) ls (.int x :: st) σ Q) : AX G M h k pc ls (st) σ Q := by
  intro p l e R s m args below meth c H locs cells slots Z A lsA C hP hD hS hl hr
  exact lv_iload C.1 C.2.1 hd (lv_at hl q hq) (kk C hP hD hS hl hr)
theorem AX.istore_n {n : Fin 4} {i : Nat} {x : Int32} {ls' : List (Nat × Value)} (hd : decode M.2.1 pc = .ok (.istore_n n, 1)) (hi : (n : Nat) = i) (hb : i < M.2.2.1) (hl' : ls1 i (.int x) ls = ls') (kk : AX G M h k (pc + 1) ls' st σ Q) : AX G M h k pc ls (.int x :: st) σ Q := by
  intro p l e R s m args below meth c H locs cells slots Z A lsA C hP hD hS hl hr
  exact lv_istore_n C.1 C.2.1 hd hi hl hb rfl (fun lsB hB => kk C hP hD hS (hl' ▸ lv_mono hB ls1_mem) hr)
theorem AX.istore {i : Nat} {x : Int32} {ls' : List (Nat × Value)} (hd : decode M.2.1 pc = .ok (.istore i, 2)) (hb : i < M.2.2.1) (hl' : ls1 i (.int x) ls = ls') (kk : AX G M h k (pc + 2) ls' st σ Q) : AX G M h k pc ls (.int x :: st) σ Q := by
  intro p l e R s m args below meth c H locs cells slots Z A lsA C hP hD hS hl hr
  exact lv_istore C.1 C.2.1 hd hl hb rfl (fun lsB hB => kk C hP hD hS (hl' ▸ lv_mono hB ls1_mem) hr)
theorem AX.lload_n {n : Fin 4} {i : Nat} {x : Int64} (hd : decode M.2.1 pc = .ok (.lload_n n, 1)) (q : Nat) (hi : (n : Nat) = i) (hq : ls[q]? = some (i, .long x)) (kk : AX G M h k (pc + 1) ls (.long x :: st) σ Q) : AX G M h k pc ls (st) σ Q := by
  intro p l e R s m args below meth c H locs cells slots Z A lsA C hP hD hS hl hr
  exact lv_lload_n C.1 C.2.1 hd hi (lv_at hl q hq) (kk C hP hD hS hl hr)
theorem AX.lload {i : Nat} {x : Int64} (hd : decode M.2.1 pc = .ok (.lload i, 2)) (q : Nat) (hq : ls[q]? = some (i, .long x)) (kk : AX G M h k (pc + 2) ls (.long x :: st) σ Q) : AX G M h k pc ls (st) σ Q := by
  intro p l e R s m args below meth c H locs cells slots Z A lsA C hP hD hS hl hr
  exact lv_lload C.1 C.2.1 hd (lv_at hl q hq) (kk C hP hD hS hl hr)
theorem AX.lstore_n {n : Fin 4} {i : Nat} {x : Int64} {ls' : List (Nat × Value)} (hd : decode M.2.1 pc = .ok (.lstore_n n, 1)) (hi : (n : Nat) = i) (hb : i + 1 < M.2.2.1) (hl' : ls2 i (.long x) ls = ls') (kk : AX G M h k (pc + 1) ls' st σ Q) : AX G M h k pc ls (.long x :: st) σ Q := by
  intro p l e R s m args below meth c H locs cells slots Z A lsA C hP hD hS hl hr
  exact lv_lstore_n C.1 C.2.1 hd hi hl hb rfl (fun lsB hB => kk C hP hD hS (hl' ▸ lv_mono hB ls2_mem) hr)
theorem AX.lstore {i : Nat} {x : Int64} {ls' : List (Nat × Value)} (hd : decode M.2.1 pc = .ok (.lstore i, 2)) (hb : i + 1 < M.2.2.1) (hl' : ls2 i (.long x) ls = ls') (kk : AX G M h k (pc + 2) ls' st σ Q) : AX G M h k pc ls (.long x :: st) σ Q := by
  intro p l e R s m args below meth c H locs cells slots Z A lsA C hP hD hS hl hr
  exact lv_lstore C.1 C.2.1 hd hl hb rfl (fun lsB hB => kk C hP hD hS (hl' ▸ lv_mono hB ls2_mem) hr)
theorem AX.aload_n {n : Fin 4} {i : Nat} {x : Nat} (hd : decode M.2.1 pc = .ok (.aload_n n, 1)) (q : Nat) (hi : (n : Nat) = i) (hq : ls[q]? = some (i, .ref x)) (kk : AX G M h k (pc + 1) ls (.ref x :: st) σ Q) : AX G M h k pc ls (st) σ Q := by
  intro p l e R s m args below meth c H locs cells slots Z A lsA C hP hD hS hl hr
  exact lv_aload_n C.1 C.2.1 hd hi (lv_at hl q hq) (kk C hP hD hS hl hr)
theorem AX.aload {i : Nat} {x : Nat} (hd : decode M.2.1 pc = .ok (.aload i, 2)) (q : Nat) (hq : ls[q]? = some (i, .ref x)) (kk : AX G M h k (pc + 2) ls (.ref x :: st) σ Q) : AX G M h k pc ls (st) σ Q := by
  intro p l e R s m args below meth c H locs cells slots Z A lsA C hP hD hS hl hr
  exact lv_aload C.1 C.2.1 hd (lv_at hl q hq) (kk C hP hD hS hl hr)
theorem AX.astore_n {n : Fin 4} {i : Nat} {x : Nat} {ls' : List (Nat × Value)} (hd : decode M.2.1 pc = .ok (.astore_n n, 1)) (hi : (n : Nat) = i) (hb : i < M.2.2.1) (hl' : ls1 i (.ref x) ls = ls') (kk : AX G M h k (pc + 1) ls' st σ Q) : AX G M h k pc ls (.ref x :: st) σ Q := by
  intro p l e R s m args below meth c H locs cells slots Z A lsA C hP hD hS hl hr
  exact lv_astore_n C.1 C.2.1 hd hi hl hb rfl (fun lsB hB => kk C hP hD hS (hl' ▸ lv_mono hB ls1_mem) hr)
theorem AX.astore {i : Nat} {x : Nat} {ls' : List (Nat × Value)} (hd : decode M.2.1 pc = .ok (.astore i, 2)) (hb : i < M.2.2.1) (hl' : ls1 i (.ref x) ls = ls') (kk : AX G M h k (pc + 2) ls' st σ Q) : AX G M h k pc ls (.ref x :: st) σ Q := by
  intro p l e R s m args below meth c H locs cells slots Z A lsA C hP hD hS hl hr
  exact lv_astore C.1 C.2.1 hd hl hb rfl (fun lsB hB => kk C hP hD hS (hl' ▸ lv_mono hB ls1_mem) hr)
theorem AX.iinc {i : Nat} {n : Int} {x v : Int32} {ls' : List (Nat × Value)} (q : Nat) (hd : decode M.2.1 pc = .ok (.iinc i n, 3)) (hq : ls[q]? = some (i, .int x)) (hb : i < M.2.2.1) (hv : x + Int32.ofInt n = v) (hl' : ls1 i (.int v) ls = ls') (kk : AX G M h k (pc + 3) ls' st σ Q) : AX G M h k pc ls st σ Q := by
  intro p l e R s m args below meth c H locs cells slots Z A lsA C hP hD hS hl hr
  exact lv_iinc C.1 C.2.1 hd hl hq hv hb rfl (fun lsB hB => kk C hP hD hS (hl' ▸ lv_mono hB ls1_mem) hr)
theorem AX.iadd {x y : Int32} (hd : decode M.2.1 pc = .ok (.iadd, 1)) (kk : AX G M h k (pc + 1) ls (.int (x + y) :: st) σ Q) : AX G M h k pc ls (.int y :: .int x :: st) σ Q := by
  intro p l e R s m args below meth c H locs cells slots Z A lsA C hP hD hS hl hr
  exact lv_iadd C.1 C.2.1 hd (kk C hP hD hS hl hr)
theorem AX.isub {x y : Int32} (hd : decode M.2.1 pc = .ok (.isub, 1)) (kk : AX G M h k (pc + 1) ls (.int (x - y) :: st) σ Q) : AX G M h k pc ls (.int y :: .int x :: st) σ Q := by
  intro p l e R s m args below meth c H locs cells slots Z A lsA C hP hD hS hl hr
  exact lv_isub C.1 C.2.1 hd (kk C hP hD hS hl hr)
theorem AX.imul {x y : Int32} (hd : decode M.2.1 pc = .ok (.imul, 1)) (kk : AX G M h k (pc + 1) ls (.int (x * y) :: st) σ Q) : AX G M h k pc ls (.int y :: .int x :: st) σ Q := by
  intro p l e R s m args below meth c H locs cells slots Z A lsA C hP hD hS hl hr
  exact lv_imul C.1 C.2.1 hd (kk C hP hD hS hl hr)
theorem AX.iand {x y : Int32} (hd : decode M.2.1 pc = .ok (.iand, 1)) (kk : AX G M h k (pc + 1) ls (.int (x &&& y) :: st) σ Q) : AX G M h k pc ls (.int y :: .int x :: st) σ Q := by
  intro p l e R s m args below meth c H locs cells slots Z A lsA C hP hD hS hl hr
  exact lv_iand C.1 C.2.1 hd (kk C hP hD hS hl hr)
theorem AX.ior {x y : Int32} (hd : decode M.2.1 pc = .ok (.ior, 1)) (kk : AX G M h k (pc + 1) ls (.int (x ||| y) :: st) σ Q) : AX G M h k pc ls (.int y :: .int x :: st) σ Q := by
  intro p l e R s m args below meth c H locs cells slots Z A lsA C hP hD hS hl hr
  exact lv_ior C.1 C.2.1 hd (kk C hP hD hS hl hr)
theorem AX.ixor {x y : Int32} (hd : decode M.2.1 pc = .ok (.ixor, 1)) (kk : AX G M h k (pc + 1) ls (.int (x ^^^ y) :: st) σ Q) : AX G M h k pc ls (.int y :: .int x :: st) σ Q := by
  intro p l e R s m args below meth c H locs cells slots Z A lsA C hP hD hS hl hr
  exact lv_ixor C.1 C.2.1 hd (kk C hP hD hS hl hr)
theorem AX.ladd {x y : Int64} (hd : decode M.2.1 pc = .ok (.ladd, 1)) (kk : AX G M h k (pc + 1) ls (.long (x + y) :: st) σ Q) : AX G M h k pc ls (.long y :: .long x :: st) σ Q := by
  intro p l e R s m args below meth c H locs cells slots Z A lsA C hP hD hS hl hr
  exact lv_ladd C.1 C.2.1 hd (kk C hP hD hS hl hr)
theorem AX.lsub {x y : Int64} (hd : decode M.2.1 pc = .ok (.lsub, 1)) (kk : AX G M h k (pc + 1) ls (.long (x - y) :: st) σ Q) : AX G M h k pc ls (.long y :: .long x :: st) σ Q := by
  intro p l e R s m args below meth c H locs cells slots Z A lsA C hP hD hS hl hr
  exact lv_lsub C.1 C.2.1 hd (kk C hP hD hS hl hr)
theorem AX.lmul {x y : Int64} (hd : decode M.2.1 pc = .ok (.lmul, 1)) (kk : AX G M h k (pc + 1) ls (.long (x * y) :: st) σ Q) : AX G M h k pc ls (.long y :: .long x :: st) σ Q := by
  intro p l e R s m args below meth c H locs cells slots Z A lsA C hP hD hS hl hr
  exact lv_lmul C.1 C.2.1 hd (kk C hP hD hS hl hr)
theorem AX.idiv {x y : Int32} (hd : decode M.2.1 pc = .ok (.idiv, 1)) (hne : ¬ y = 0) (kk : AX G M h k (pc + 1) ls (.int (x / y) :: st) σ Q) : AX G M h k pc ls (.int y :: .int x :: st) σ Q := by
  intro p l e R s m args below meth c H locs cells slots Z A lsA C hP hD hS hl hr
  exact lv_idiv C.1 C.2.1 hd hne (kk C hP hD hS hl hr)
theorem AX.irem {x y : Int32} (hd : decode M.2.1 pc = .ok (.irem, 1)) (hne : ¬ y = 0) (kk : AX G M h k (pc + 1) ls (.int (x - x / y * y) :: st) σ Q) : AX G M h k pc ls (.int y :: .int x :: st) σ Q := by
  intro p l e R s m args below meth c H locs cells slots Z A lsA C hP hD hS hl hr
  exact lv_irem C.1 C.2.1 hd hne (kk C hP hD hS hl hr)
theorem AX.ldiv {x y : Int64} (hd : decode M.2.1 pc = .ok (.ldiv, 1)) (hne : ¬ y = 0) (kk : AX G M h k (pc + 1) ls (.long (x / y) :: st) σ Q) : AX G M h k pc ls (.long y :: .long x :: st) σ Q := by
  intro p l e R s m args below meth c H locs cells slots Z A lsA C hP hD hS hl hr
  exact lv_ldiv C.1 C.2.1 hd hne (kk C hP hD hS hl hr)
theorem AX.lrem {x y : Int64} (hd : decode M.2.1 pc = .ok (.lrem, 1)) (hne : ¬ y = 0) (kk : AX G M h k (pc + 1) ls (.long (x - x / y * y) :: st) σ Q) : AX G M h k pc ls (.long y :: .long x :: st) σ Q := by
  intro p l e R s m args below meth c H locs cells slots Z A lsA C hP hD hS hl hr
  exact lv_lrem C.1 C.2.1 hd hne (kk C hP hD hS hl hr)
theorem AX.ishl {x y : Int32} (hd : decode M.2.1 pc = .ok (.ishl, 1)) (kk : AX G M h k (pc + 1) ls (.int (x <<< (y &&& 31)) :: st) σ Q) : AX G M h k pc ls (.int y :: .int x :: st) σ Q := by
  intro p l e R s m args below meth c H locs cells slots Z A lsA C hP hD hS hl hr
  exact lv_ishl C.1 C.2.1 hd (kk C hP hD hS hl hr)
theorem AX.ishr {x y : Int32} (hd : decode M.2.1 pc = .ok (.ishr, 1)) (kk : AX G M h k (pc + 1) ls (.int (x >>> (y &&& 31)) :: st) σ Q) : AX G M h k pc ls (.int y :: .int x :: st) σ Q := by
  intro p l e R s m args below meth c H locs cells slots Z A lsA C hP hD hS hl hr
  exact lv_ishr C.1 C.2.1 hd (kk C hP hD hS hl hr)
theorem AX.iushr {x y : Int32} (hd : decode M.2.1 pc = .ok (.iushr, 1)) (kk : AX G M h k (pc + 1) ls (.int (x.toUInt32 >>> (y.toUInt32 &&& Int32.toUInt32 31)).toInt32 :: st) σ Q) : AX G M h k pc ls (.int y :: .int x :: st) σ Q := by
  intro p l e R s m args below meth c H locs cells slots Z A lsA C hP hD hS hl hr
  exact lv_iushr C.1 C.2.1 hd rfl (kk C hP hD hS hl hr)
theorem AX.i2l {x : Int32} (hd : decode M.2.1 pc = .ok (.i2l, 1)) (kk : AX G M h k (pc + 1) ls (.long x.toInt64 :: st) σ Q) : AX G M h k pc ls (.int x :: st) σ Q := by
  intro p l e R s m args below meth c H locs cells slots Z A lsA C hP hD hS hl hr
  exact lv_i2l C.1 C.2.1 hd rfl (kk C hP hD hS hl hr)
theorem AX.i2b {x : Int32} (hd : decode M.2.1 pc = .ok (.i2b, 1)) (kk : AX G M h k (pc + 1) ls (.int x.toInt8.toInt32 :: st) σ Q) : AX G M h k pc ls (.int x :: st) σ Q := by
  intro p l e R s m args below meth c H locs cells slots Z A lsA C hP hD hS hl hr
  exact lv_i2b C.1 C.2.1 hd rfl (kk C hP hD hS hl hr)
theorem AX.i2s {x : Int32} (hd : decode M.2.1 pc = .ok (.i2s, 1)) (kk : AX G M h k (pc + 1) ls (.int x.toInt16.toInt32 :: st) σ Q) : AX G M h k pc ls (.int x :: st) σ Q := by
  intro p l e R s m args below meth c H locs cells slots Z A lsA C hP hD hS hl hr
  exact lv_i2s C.1 C.2.1 hd rfl (kk C hP hD hS hl hr)
theorem AX.dup {v : Value} (hd : decode M.2.1 pc = .ok (.dup, 1)) (hv : v.category = 1) (kk : AX G M h k (pc + 1) ls (v :: v :: st) σ Q) : AX G M h k pc ls (v :: st) σ Q := by
  intro p l e R s m args below meth c H locs cells slots Z A lsA C hP hD hS hl hr
  exact lv_dup C.1 C.2.1 hd hv (kk C hP hD hS hl hr)
theorem AX.pop {v : Value} (hd : decode M.2.1 pc = .ok (.pop, 1)) (hv : v.category = 1) (kk : AX G M h k (pc + 1) ls (st) σ Q) : AX G M h k pc ls (v :: st) σ Q := by
  intro p l e R s m args below meth c H locs cells slots Z A lsA C hP hD hS hl hr
  exact lv_pop C.1 C.2.1 hd hv (kk C hP hD hS hl hr)
theorem AX.dup2 {v w : Value} (hd : decode M.2.1 pc = .ok (.dup2, 1)) (hv : v.category = 1) (hw : w.category = 1) (kk : AX G M h k (pc + 1) ls (v :: w :: v :: w :: st) σ Q) : AX G M h k pc ls (v :: w :: st) σ Q := by
  intro p l e R s m args below meth c H locs cells slots Z A lsA C hP hD hS hl hr
  exact lv_dup2_11 C.1 C.2.1 hd hv hw (kk C hP hD hS hl hr)
theorem AX.icmp_eq {x y : Int32} {off : Int} {tgt : Nat} (hd : decode M.2.1 pc = .ok (.if_icmp .eq off, 3)) (ht : (pc : Int) + off = (tgt : Int)) (kt : x = y → AX G M h k tgt ls st σ Q) (kf : ¬ (x = y) → AX G M h k (pc + 3) ls st σ Q) : AX G M h k pc ls (.int y :: .int x :: st) σ Q := by
  intro p l e R s m args below meth c H locs cells slots Z A lsA C hP hD hS hl hr
  exact lv_icmp_eq C.1 C.2.1 hd ht (fun q => kt q C hP hD hS hl hr) (fun q => kf q C hP hD hS hl hr)
theorem AX.if_eq {x : Int32} {off : Int} {tgt : Nat} (hd : decode M.2.1 pc = .ok (.ifCond .eq off, 3)) (ht : (pc : Int) + off = (tgt : Int)) (kt : x = 0 → AX G M h k tgt ls st σ Q) (kf : ¬ (x = 0) → AX G M h k (pc + 3) ls st σ Q) : AX G M h k pc ls (.int x :: st) σ Q := by
  intro p l e R s m args below meth c H locs cells slots Z A lsA C hP hD hS hl hr
  exact lv_if_eq C.1 C.2.1 hd ht (fun q => kt q C hP hD hS hl hr) (fun q => kf q C hP hD hS hl hr)
theorem AX.icmp_ne {x y : Int32} {off : Int} {tgt : Nat} (hd : decode M.2.1 pc = .ok (.if_icmp .ne off, 3)) (ht : (pc : Int) + off = (tgt : Int)) (kt : ¬ x = y → AX G M h k tgt ls st σ Q) (kf : x = y → AX G M h k (pc + 3) ls st σ Q) : AX G M h k pc ls (.int y :: .int x :: st) σ Q := by
  intro p l e R s m args below meth c H locs cells slots Z A lsA C hP hD hS hl hr
  exact lv_icmp_ne C.1 C.2.1 hd ht (fun q => kt q C hP hD hS hl hr) (fun q => kf q C hP hD hS hl hr)
theorem AX.if_ne {x : Int32} {off : Int} {tgt : Nat} (hd : decode M.2.1 pc = .ok (.ifCond .ne off, 3)) (ht : (pc : Int) + off = (tgt : Int)) (kt : ¬ x = 0 → AX G M h k tgt ls st σ Q) (kf : x = 0 → AX G M h k (pc + 3) ls st σ Q) : AX G M h k pc ls (.int x :: st) σ Q := by
  intro p l e R s m args below meth c H locs cells slots Z A lsA C hP hD hS hl hr
  exact lv_if_ne C.1 C.2.1 hd ht (fun q => kt q C hP hD hS hl hr) (fun q => kf q C hP hD hS hl hr)
theorem AX.icmp_lt {x y : Int32} {off : Int} {tgt : Nat} (hd : decode M.2.1 pc = .ok (.if_icmp .lt off, 3)) (ht : (pc : Int) + off = (tgt : Int)) (kt : x < y → AX G M h k tgt ls st σ Q) (kf : ¬ (x < y) → AX G M h k (pc + 3) ls st σ Q) : AX G M h k pc ls (.int y :: .int x :: st) σ Q := by
  intro p l e R s m args below meth c H locs cells slots Z A lsA C hP hD hS hl hr
  exact lv_icmp_lt C.1 C.2.1 hd ht (fun q => kt q C hP hD hS hl hr) (fun q => kf q C hP hD hS hl hr)
theorem AX.if_lt {x : Int32} {off : Int} {tgt : Nat} (hd : decode M.2.1 pc = .ok (.ifCond .lt off, 3)) (ht : (pc : Int) + off = (tgt : Int)) (kt : x < 0 → AX G M h k tgt ls st σ Q) (kf : ¬ (x < 0) → AX G M h k (pc + 3) ls st σ Q) : AX G M h k pc ls (.int x :: st) σ Q := by
  intro p l e R s m args below meth c H locs cells slots Z A lsA C hP hD hS hl hr
  exact lv_if_lt C.1 C.2.1 hd ht (fun q => kt q C hP hD hS hl hr) (fun q => kf q C hP hD hS hl hr)
theorem AX.icmp_ge {x y : Int32} {off : Int} {tgt : Nat} (hd : decode M.2.1 pc = .ok (.if_icmp .ge off, 3)) (ht : (pc : Int) + off = (tgt : Int)) (kt : y ≤ x → AX G M h k tgt ls st σ Q) (kf : ¬ (y ≤ x) → AX G M h k (pc + 3) ls st σ Q) : AX G M h k pc ls (.int y :: .int x :: st) σ Q := by
  intro p l e R s m args below meth c H locs cells slots Z A lsA C hP hD hS hl hr
  exact lv_icmp_ge C.1 C.2.1 hd ht (fun q => kt q C hP hD hS hl hr) (fun q => kf q C hP hD hS hl hr)
theorem AX.if_ge {x : Int32} {off : Int} {tgt : Nat} (hd : decode M.2.1 pc = .ok (.ifCond .ge off, 3)) (ht : (pc : Int) + off = (tgt : Int)) (kt : 0 ≤ x → AX G M h k tgt ls st σ Q) (kf : ¬ (0 ≤ x) → AX G M h k (pc + 3) ls st σ Q) : AX G M h k pc ls (.int x :: st) σ Q := by
  intro p l e R s m args below meth c H locs cells slots Z A lsA C hP hD hS hl hr
  exact lv_if_ge C.1 C.2.1 hd ht (fun q => kt q C hP hD hS hl hr) (fun q => kf q C hP hD hS hl hr)
theorem AX.icmp_gt {x y : Int32} {off : Int} {tgt : Nat} (hd : decode M.2.1 pc = .ok (.if_icmp .gt off, 3)) (ht : (pc : Int) + off = (tgt : Int)) (kt : y < x → AX G M h k tgt ls st σ Q) (kf : ¬ (y < x) → AX G M h k (pc + 3) ls st σ Q) : AX G M h k pc ls (.int y :: .int x :: st) σ Q := by
  intro p l e R s m args below meth c H locs cells slots Z A lsA C hP hD hS hl hr
  exact lv_icmp_gt C.1 C.2.1 hd ht (fun q => kt q C hP hD hS hl hr) (fun q => kf q C hP hD hS hl hr)
theorem AX.if_gt {x : Int32} {off : Int} {tgt : Nat} (hd : decode M.2.1 pc = .ok (.ifCond .gt off, 3)) (ht : (pc : Int) + off = (tgt : Int)) (kt : 0 < x → AX G M h k tgt ls st σ Q) (kf : ¬ (0 < x) → AX G M h k (pc + 3) ls st σ Q) : AX G M h k pc ls (.int x :: st) σ Q := by
  intro p l e R s m args below meth c H locs cells slots Z A lsA C hP hD hS hl hr
  exact lv_if_gt C.1 C.2.1 hd ht (fun q => kt q C hP hD hS hl hr) (fun q => kf q C hP hD hS hl hr)
theorem AX.icmp_le {x y : Int32} {off : Int} {tgt : Nat} (hd : decode M.2.1 pc = .ok (.if_icmp .le off, 3)) (ht : (pc : Int) + off = (tgt : Int)) (kt : x ≤ y → AX G M h k tgt ls st σ Q) (kf : ¬ (x ≤ y) → AX G M h k (pc + 3) ls st σ Q) : AX G M h k pc ls (.int y :: .int x :: st) σ Q := by
  intro p l e R s m args below meth c H locs cells slots Z A lsA C hP hD hS hl hr
  exact lv_icmp_le C.1 C.2.1 hd ht (fun q => kt q C hP hD hS hl hr) (fun q => kf q C hP hD hS hl hr)
theorem AX.if_le {x : Int32} {off : Int} {tgt : Nat} (hd : decode M.2.1 pc = .ok (.ifCond .le off, 3)) (ht : (pc : Int) + off = (tgt : Int)) (kt : x ≤ 0 → AX G M h k tgt ls st σ Q) (kf : ¬ (x ≤ 0) → AX G M h k (pc + 3) ls st σ Q) : AX G M h k pc ls (.int x :: st) σ Q := by
  intro p l e R s m args below meth c H locs cells slots Z A lsA C hP hD hS hl hr
  exact lv_if_le C.1 C.2.1 hd ht (fun q => kt q C hP hD hS hl hr) (fun q => kf q C hP hD hS hl hr)
theorem AX.goto {off : Int} {tgt : Nat} (hd : decode M.2.1 pc = .ok (.goto off, 3)) (ht : (pc : Int) + off = (tgt : Int)) (kk : AX G M h k tgt ls st σ Q) : AX G M h k pc ls st σ Q := by
  intro p l e R s m args below meth c H locs cells slots Z A lsA C hP hD hS hl hr
  exact lv_goto C.1 C.2.1 hd ht (kk C hP hD hS hl hr)
theorem lg_cmp_ne (x y : Int64) : (¬ lg_cmp x y = 0) ↔ ¬ x = y := not_congr (lg_cmp_eq x y)
theorem AX.lcmp {x y : Int64} (hd : decode M.2.1 pc = .ok (.lcmp, 1)) (kk : AX G M h k (pc + 1) ls (.int (lg_cmp x y) :: st) σ Q) : AX G M h k pc ls (.long y :: .long x :: st) σ Q := by
  intro p l e R s m args below meth c H locs cells slots Z A lsA C hP hD hS hl hr
  exact W.lcmp C.1 C.2.1 hd (kk C hP hD hS hl hr)
theorem AX.lcmp_eq {x y : Int64} {off : Int} {tgt : Nat} (hd : decode M.2.1 pc = .ok (.lcmp, 1)) (hd2 : decode M.2.1 (pc + 1) = .ok (.ifCond .eq off, 3)) (ht : ((pc + 1 : Nat) : Int) + off = (tgt : Int)) (kt : x = y → AX G M h k tgt ls st σ Q) (kf : ¬ (x = y) → AX G M h k (pc + 4) ls st σ Q) : AX G M h k pc ls (.long y :: .long x :: st) σ Q :=
  AX.lcmp hd (AX.if_eq hd2 ht (fun q => kt ((lg_cmp_eq x y).mp q)) (fun q => kf (fun z => q ((lg_cmp_eq x y).mpr z))))
theorem AX.lcmp_ne {x y : Int64} {off : Int} {tgt : Nat} (hd : decode M.2.1 pc = .ok (.lcmp, 1)) (hd2 : decode M.2.1 (pc + 1) = .ok (.ifCond .ne off, 3)) (ht : ((pc + 1 : Nat) : Int) + off = (tgt : Int)) (kt : ¬ x = y → AX G M h k tgt ls st σ Q) (kf : x = y → AX G M h k (pc + 4) ls st σ Q) : AX G M h k pc ls (.long y :: .long x :: st) σ Q :=
  AX.lcmp hd (AX.if_ne hd2 ht (fun q => kt ((lg_cmp_ne x y).mp q)) (fun q => kf ((lg_cmp_eq x y).mp q)))
theorem AX.lcmp_lt {x y : Int64} {off : Int} {tgt : Nat} (hd : decode M.2.1 pc = .ok (.lcmp, 1)) (hd2 : decode M.2.1 (pc + 1) = .ok (.ifCond .lt off, 3)) (ht : ((pc + 1 : Nat) : Int) + off = (tgt : Int)) (kt : x < y → AX G M h k tgt ls st σ Q) (kf : ¬ (x < y) → AX G M h k (pc + 4) ls st σ Q) : AX G M h k pc ls (.long y :: .long x :: st) σ Q :=
  AX.lcmp hd (AX.if_lt hd2 ht (fun q => kt ((lg_cmp_lt x y).mp q)) (fun q => kf (fun z => q ((lg_cmp_lt x y).mpr z))))
theorem AX.lcmp_ge {x y : Int64} {off : Int} {tgt : Nat} (hd : decode M.2.1 pc = .ok (.lcmp, 1)) (hd2 : decode M.2.1 (pc + 1) = .ok (.ifCond .ge off, 3)) (ht : ((pc + 1 : Nat) : Int) + off = (tgt : Int)) (kt : y ≤ x → AX G M h k tgt ls st σ Q) (kf : ¬ (y ≤ x) → AX G M h k (pc + 4) ls st σ Q) : AX G M h k pc ls (.long y :: .long x :: st) σ Q :=
  AX.lcmp hd (AX.if_ge hd2 ht (fun q => kt ((lg_cmp_ge x y).mp q)) (fun q => kf (fun z => q ((lg_cmp_ge x y).mpr z))))
theorem AX.lcmp_gt {x y : Int64} {off : Int} {tgt : Nat} (hd : decode M.2.1 pc = .ok (.lcmp, 1)) (hd2 : decode M.2.1 (pc + 1) = .ok (.ifCond .gt off, 3)) (ht : ((pc + 1 : Nat) : Int) + off = (tgt : Int)) (kt : y < x → AX G M h k tgt ls st σ Q) (kf : ¬ (y < x) → AX G M h k (pc + 4) ls st σ Q) : AX G M h k pc ls (.long y :: .long x :: st) σ Q :=
  AX.lcmp hd (AX.if_gt hd2 ht (fun q => kt ((lg_cmp_gt x y).mp q)) (fun q => kf (fun z => q ((lg_cmp_gt x y).mpr z))))
theorem AX.lcmp_le {x y : Int64} {off : Int} {tgt : Nat} (hd : decode M.2.1 pc = .ok (.lcmp, 1)) (hd2 : decode M.2.1 (pc + 1) = .ok (.ifCond .le off, 3)) (ht : ((pc + 1 : Nat) : Int) + off = (tgt : Int)) (kt : x ≤ y → AX G M h k tgt ls st σ Q) (kf : ¬ (x ≤ y) → AX G M h k (pc + 4) ls st σ Q) : AX G M h k pc ls (.long y :: .long x :: st) σ Q :=
  AX.lcmp hd (AX.if_le hd2 ht (fun q => kt ((lg_cmp_le x y).mp q)) (fun q => kf (fun z => q ((lg_cmp_le x y).mpr z))))
theorem AX.ifnull_ref {x : Nat} {off : Int} (hd : decode M.2.1 pc = .ok (.ifnull off, 3)) (kk : AX G M h k (pc + 3) ls st σ Q) : AX G M h k pc ls (.ref x :: st) σ Q := by
  intro p l e R s m args below meth c H locs cells slots Z A lsA C hP hD hS hl hr
  exact lv_ifnull C.1 C.2.1 hd (kk C hP hD hS hl hr)
theorem AX.ifnull_null {off : Int} {tgt : Nat} (hd : decode M.2.1 pc = .ok (.ifnull off, 3)) (ht : (pc : Int) + off = (tgt : Int)) (kk : AX G M h k tgt ls st σ Q) : AX G M h k pc ls (.null :: st) σ Q := by
  intro p l e R s m args below meth c H locs cells slots Z A lsA C hP hD hS hl hr
  exact lv_ifnullN C.1 C.2.1 hd ht (kk C hP hD hS hl hr)
theorem AX.ifnonnull_ref {x : Nat} {off : Int} {tgt : Nat} (hd : decode M.2.1 pc = .ok (.ifnonnull off, 3)) (ht : (pc : Int) + off = (tgt : Int)) (kk : AX G M h k tgt ls st σ Q) : AX G M h k pc ls (.ref x :: st) σ Q := by
  intro p l e R s m args below meth c H locs cells slots Z A lsA C hP hD hS hl hr
  exact lv_ifnonnull C.1 C.2.1 hd ht (kk C hP hD hS hl hr)
theorem AX.ifnonnull_null {off : Int} (hd : decode M.2.1 pc = .ok (.ifnonnull off, 3)) (kk : AX G M h k (pc + 3) ls st σ Q) : AX G M h k pc ls (.null :: st) σ Q := by
  intro p l e R s m args below meth c H locs cells slots Z A lsA C hP hD hS hl hr
  exact lv_ifnonnullN C.1 C.2.1 hd (kk C hP hD hS hl hr)
theorem AX.tableIn {dflt lo hi off : Int} {offs : Array Int} {len : Nat} {x : Int32} {tgt : Nat} (n : Int) (hd : decode M.2.1 pc = .ok (.tableswitch dflt lo hi offs, len)) (hx : x.toInt = n) (h1 : ¬ n < lo ∧ ¬ hi < n) (ho : offs[(n - lo).toNat]? = some off) (ht : (pc : Int) + off = (tgt : Int)) (kk : AX G M h k tgt ls st σ Q) : AX G M h k pc ls (.int x :: st) σ Q := by
  subst hx
  intro p l e R s m args below meth c H locs cells slots Z A lsA C hP hD hS hl hr
  exact lv_tableIn C.1 C.2.1 hd h1.1 h1.2 ho ht (kk C hP hD hS hl hr)
theorem AX.tableOut {dflt lo hi : Int} {offs : Array Int} {len : Nat} {x : Int32} {tgt : Nat} (hd : decode M.2.1 pc = .ok (.tableswitch dflt lo hi offs, len)) (h1 : x.toInt < lo ∨ hi < x.toInt) (ht : (pc : Int) + dflt = (tgt : Int)) (kk : AX G M h k tgt ls st σ Q) : AX G M h k pc ls (.int x :: st) σ Q := by
  intro p l e R s m args below meth c H locs cells slots Z A lsA C hP hD hS hl hr
  exact lv_tableOut C.1 C.2.1 hd h1 ht (kk C hP hD hS hl hr)
theorem AX.lookup {dflt off : Int} {ps : Array (Int × Int)} {len : Nat} {x : Int32} {tgt : Nat} (hd : decode M.2.1 pc = .ok (.lookupswitch dflt ps, len)) (hp : (ps.toList.zip (ps.toList.drop 1)).all (fun (a, next) => a.1 < next.1) = true) (ho : Op.lookupswitch.offset ps.toList dflt x.toInt = off) (ht : (pc : Int) + off = (tgt : Int)) (kk : AX G M h k tgt ls st σ Q) : AX G M h k pc ls (.int x :: st) σ Q := by
  intro p l e R s m args below meth c H locs cells slots Z A lsA C hP hD hS hl hr
  exact lv_lookup C.1 C.2.1 hd hp ho ht (kk C hP hD hS hl hr)
/- returns -/
theorem AX.ireturn {x : Int32} {ty : FieldType} (hd : decode M.2.1 pc = .ok (.ireturn, 1)) (ht : M.2.2.2 = some ty) (hn : narrow ty (.int x) = .int x) (hq : Q (some (.int x)) σ) : AX G M h k pc ls [.int x] σ Q := by
  intro p l e R s m args below meth c H locs cells slots Z A lsA C hP hD hS hl hr
  exact hr (some (.int x)) σ H locs pc lsA ⟨ty, ht, hn, hd⟩ hq hP hD hS
theorem AX.lreturn {x : Int64} (hd : decode M.2.1 pc = .ok (.lreturn, 1)) (ht : M.2.2.2 = some .long) (hq : Q (some (.long x)) σ) : AX G M h k pc ls [.long x] σ Q := by
  intro p l e R s m args below meth c H locs cells slots Z A lsA C hP hD hS hl hr
  exact hr (some (.long x)) σ H locs pc lsA ⟨ht, hd⟩ hq hP hD hS
theorem AX.vreturn (hd : decode M.2.1 pc = .ok (.return_, 1)) (ht : M.2.2.2 = none) (hq : Q none σ) : AX G M h k pc ls [] σ Q := by
  intro p l e R s m args below meth c H locs cells slots Z A lsA C hP hD hS hl hr
  exact hr none σ H locs pc lsA ⟨ht, hd⟩ hq hP hD hS
theorem AX.areturn_ref {x : Nat} {n : String} (hd : decode M.2.1 pc = .ok (.areturn, 1)) (ht : M.2.2.2 = some (.object n)) (hq : Q (some (.ref x)) σ) : AX G M h k pc ls [.ref x] σ Q := by
  intro p l e R s m args below meth c H locs cells slots Z A lsA C hP hD hS hl hr
  exact hr (some (.ref x)) σ H locs pc lsA ⟨⟨n, ht⟩, hd⟩ hq hP hD hS
theorem AX.areturn_null {n : String} (hd : decode M.2.1 pc = .ok (.areturn, 1)) (ht : M.2.2.2 = some (.object n)) (hq : Q (some .null) σ) : AX G M h k pc ls [.null] σ Q := by
  intro p l e R s m args below meth c H locs cells slots Z A lsA C hP hD hS hl hr
  exact hr (some .null) σ H locs pc lsA ⟨⟨n, ht⟩, hd⟩ hq hP hD hS
end AXR
