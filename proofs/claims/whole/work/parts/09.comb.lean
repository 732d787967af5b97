/-! what the extracted functions are made of -/
def ltb {α β : Type} (a : α) (f : α → β) : β := f a
theorem ltb_e {α β : Type} {a : α} {f : α → β} {z : β} (h : ltb a f = z) : ∃ x, a = x ∧ f x = z := ⟨a, rfl, h⟩
theorem ite_n {α : Type} {c : Prop} [Decidable c] {a : Option α} {z : α} (h : (if c then a else none) = some z) : c ∧ a = some z := by
  by_cases hc : c
  · rw [if_pos hc] at h; exact ⟨hc, h⟩
  · rw [if_neg hc] at h; cases h
theorem ite_m {α : Type} {c : Prop} [Decidable c] {a : Option α} {z : α} (h : (if c then none else a) = some z) : ¬ c ∧ a = some z := by
  by_cases hc : c
  · rw [if_pos hc] at h; cases h
  · rw [if_neg hc] at h; exact ⟨hc, h⟩
theorem obind {α β : Type} {o : Option α} {f : α → Option β} {z : β} (h : o.bind f = some z) : ∃ q, o = some q ∧ f q = some z := by
  cases o with
  | none => cases h
  | some q => exact ⟨q, rfl, h⟩
def lpn {S R : Type} (body : S → Option (S ⊕ R)) : Nat → S → Option R
  | 0, _ => none
  | n + 1, s => (body s).bind (Sum.elim (lpn body n) some)
theorem lpn_step {S R : Type} {body : S → Option (S ⊕ R)} {n : Nat} {s s' : S} (h : body s = some (.inl s')) : lpn body (n + 1) s = lpn body n s' := by
  show (body s).bind _ = _
  rw [h]; rfl
theorem lpn_exit {S R : Type} {body : S → Option (S ⊕ R)} {n : Nat} {s : S} {r : R} (h : body s = some (.inr r)) : lpn body (n + 1) s = some r := by
  show (body s).bind _ = _
  rw [h]; rfl
theorem lpn_mono {S R : Type} {body : S → Option (S ⊕ R)} {r : R} : ∀ {n : Nat} {s : S} {m : Nat}, n ≤ m → lpn body n s = some r → lpn body m s = some r := by
  intro n
  induction n with
  | zero => intro s m _ h; cases h
  | succ n ih =>
    intro s m hm h
    obtain ⟨m, rfl⟩ : ∃ k, m = k + 1 := ⟨m - 1, by omega⟩
    cases hb : body s with
    | none => have : lpn body (n + 1) s = none := by show (body s).bind _ = _; rw [hb]; rfl
              rw [this] at h; cases h
    | some z => cases z with
      | inl s' => rw [lpn_step hb] at h ⊢; exact ih (by omega) h
      | inr r' => rw [lpn_exit hb] at h ⊢; exact h
theorem lpn_one {S R : Type} {body : S → Option (S ⊕ R)} {r r' : R} {n m : Nat} {s : S} (h : lpn body n s = some r) (h' : lpn body m s = some r') : r = r' := by
  have h1 := lpn_mono (Nat.le_max_left n m) h
  have h2 := lpn_mono (Nat.le_max_right n m) h'
  rw [h1] at h2
  exact Option.some.inj h2
/-- a loop: its answer, if it ends -/
noncomputable def lpc {S R : Type} (body : S → Option (S ⊕ R)) (s : S) : Option R := @dite _ (∃ r, ∃ n, lpn body n s = some r) (Classical.propDecidable _) (fun h => some (Classical.choose h)) (fun _ => none)
theorem lpc_of {S R : Type} {body : S → Option (S ⊕ R)} {s : S} {r : R} {n : Nat} (h : lpn body n s = some r) : lpc body s = some r := by
  have he : ∃ r, ∃ n, lpn body n s = some r := ⟨r, n, h⟩
  unfold lpc
  rw [dif_pos he]
  obtain ⟨m, hm⟩ := Classical.choose_spec he
  exact congrArg some (lpn_one hm h)
theorem lpc_ex {S R : Type} {body : S → Option (S ⊕ R)} {s : S} {r : R} (h : lpc body s = some r) : ∃ n, lpn body n s = some r := by
  unfold lpc at h
  by_cases he : ∃ r, ∃ n, lpn body n s = some r
  · rw [dif_pos he] at h
    cases h
    exact Classical.choose_spec he
  · rw [dif_neg he] at h; cases h
theorem lpc_step {S R : Type} {body : S → Option (S ⊕ R)} {s s' : S} (h : body s = some (.inl s')) : lpc body s = lpc body s' := by
  cases hr : lpc body s' with
  | some r =>
    obtain ⟨n, hn⟩ := lpc_ex hr
    exact lpc_of (n := n + 1) (by rw [lpn_step h]; exact hn)
  | none =>
    cases hq : lpc body s with
    | none => rfl
    | some r =>
      obtain ⟨n, hn⟩ := lpc_ex hq
      cases n with
      | zero => cases hn
      | succ n =>
        rw [lpn_step h] at hn
        rw [lpc_of hn] at hr; cases hr
theorem lpc_exit {S R : Type} {body : S → Option (S ⊕ R)} {s : S} {r : R} (h : body s = some (.inr r)) : lpc body s = some r := lpc_of (n := 1) (lpn_exit h)
theorem lpc_ind {S R : Type} {body : S → Option (S ⊕ R)} {s : S} {r : R} (P : S → Prop) (X : R → Prop) (hr : lpc body s = some r) (hs : ∀ s z, body s = some z → Sum.elim P X z → P s) (hx : X r) : P s := by
  obtain ⟨n, hn⟩ := lpc_ex hr
  clear hr
  induction n generalizing s with
  | zero => cases hn
  | succ n ih =>
    cases hb : body s with
    | none => have : lpn body (n + 1) s = none := by show (body s).bind _ = _; rw [hb]; rfl
              rw [this] at hn; cases hn
    | some z => cases z with
      | inl s' => rw [lpn_step hb] at hn; exact hs s _ hb (ih hn)
      | inr r' => rw [lpn_exit hb] at hn; cases hn; exact hs s _ hb hx
/-- to show what a loop answers: an invariant and a measure -/
theorem lpc_inv {S R : Type} {body : S → Option (S ⊕ R)} (I : S → Prop) (μ : S → Nat) (P : R → Prop) (h : ∀ s, I s → (∃ s', body s = some (.inl s') ∧ I s' ∧ μ s' < μ s) ∨ (∃ r, body s = some (.inr r) ∧ P r)) : ∀ s, I s → ∃ r, lpc body s = some r ∧ P r := by
  have key : ∀ n s, μ s < n → I s → ∃ r, lpc body s = some r ∧ P r := by
    intro n
    induction n with
    | zero => intro s hs; omega
    | succ n ih =>
      intro s hs hi
      rcases h s hi with ⟨s', h1, h2, h3⟩ | ⟨r, h1, h2⟩
      · obtain ⟨r, e, p⟩ := ih s' (by omega) h2
        exact ⟨r, by rw [lpc_step h1]; exact e, p⟩
      · exact ⟨r, lpc_exit h1, h2⟩
  intro s hi
  exact key (μ s + 1) s (Nat.lt_succ_self _) hi
def rfv (G : ag_G) (z : Option Nat) : Value := match z with
  | none => .null
  | some r => .ref (G.2.2.1 r)
def isS (r : Nat) : Bool := r == 36 || (r == 38 || (r == 40 || r == 42))
def isO (r : Nat) : Bool := r == 9 || r == 12
theorem isS_c {r : Nat} (h : isS r = true) : r = 36 ∨ r = 38 ∨ r = 40 ∨ r = 42 := by simpa [isS] using h
theorem isO_c {r : Nat} (h : isO r = true) : r = 9 ∨ r = 12 := by simpa [isO] using h
theorem isS_tw {r : Nat} (h : isS r = true) : tw[r]? = some (.inl (7, [some (some (r + 1)), none, none, none])) := by
  rcases isS_c h with rfl | rfl | rfl | rfl <;> rfl
theorem isO_tw {r : Nat} (h : isO r = true) : tw[r]? = some (.inl (3, [some (some (r + 1)), some (some (r + 2))])) := by
  rcases isO_c h with rfl | rfl <;> rfl
theorem isS_wi {r : Nat} (h : isS r = true) : wi (r + 1) = some 48 := by
  rcases isS_c h with rfl | rfl | rfl | rfl <;> rfl
theorem isO_wi1 {r : Nat} (h : isO r = true) : wi (r + 1) = some 3 := by
  rcases isO_c h with rfl | rfl <;> rfl
theorem isO_wi2 {r : Nat} (h : isO r = true) : wi (r + 2) = some 3 := by
  rcases isO_c h with rfl | rfl <;> rfl
theorem wi_ri {r n : Nat} (h : wi r = some n) : ri r = some n := by
  unfold ri
  by_cases h0 : r = 1000
  · subst h0; cases h
  · rw [if_neg h0]
    by_cases h1 : r = 1001
    · subst h1; cases h
    · rw [if_neg h1]; exact h
section AXE
variable {G : ag_G} {M : am_M} {h k pc : Nat} {ls : List (Nat × Value)} {st : List Value} {σ : St} {Q : Option Value → St → Prop}
theorem AX.topI {x x' : Int32} (hx : x = x') (kk : AX G M h k pc ls (.int x' :: st) σ Q) : AX G M h k pc ls (.int x :: st) σ Q := hx ▸ kk
theorem AX.topL {x x' : Int64} (hx : x = x') (kk : AX G M h k pc ls (.long x' :: st) σ Q) : AX G M h k pc ls (.long x :: st) σ Q := hx ▸ kk
theorem AX.getIE {idx ci j r : Nat} {fs : List (Option (Option Nat))} {v : Int32} (hd : decode M.2.1 pc = .ok (.getfield idx, 3)) (hf : fl_ok M.1 idx ci j) (ht : tw[r]? = some (.inl (ci, fs))) (hj : fs[j]? = some none) (hv : σ.1 r j = v) (kk : AX G M h k (pc + 3) ls (.int v :: st) σ Q) : AX G M h k pc ls (.ref (G.2.2.1 r) :: st) σ Q := AX.getI hd hf ht hj (hv ▸ kk)
theorem AX.getJE {idx ci j r : Nat} {fs : List (Option (Option Nat))} {v : Int64} (hd : decode M.2.1 pc = .ok (.getfield idx, 3)) (hf : fl_ok M.1 idx ci j) (ht : tw[r]? = some (.inl (ci, fs))) (hj : fs[j]? = some (some none)) (hv : σ.2 r j = v) (kk : AX G M h k (pc + 3) ls (.long v :: st) σ Q) : AX G M h k pc ls (.ref (G.2.2.1 r) :: st) σ Q := AX.getJ hd hf ht hj (hv ▸ kk)
theorem AX.ialdE {r n : Nat} {i v : Int32} (hd : decode M.2.1 pc = .ok (.iaload, 1)) (hw : wi r = some n) (hi : inb i n = true) (hv : σ.1 r i.toNatClampNeg = v) (kk : AX G M h k (pc + 1) ls (.int v :: st) σ Q) : AX G M h k pc ls (.int i :: .ref (G.2.2.1 r) :: st) σ Q := AX.iald hd hw hi (hv ▸ kk)
theorem AX.ialdRE {r n : Nat} {i v : Int32} (hd : decode M.2.1 pc = .ok (.iaload, 1)) (hw : ri r = some n) (hi : inb i n = true) (hv : rv σ r i.toNatClampNeg = v) (kk : AX G M h k (pc + 1) ls (.int v :: st) σ Q) : AX G M h k pc ls (.int i :: .ref (G.2.2.1 r) :: st) σ Q := AX.ialdR hd hw hi (hv ▸ kk)
theorem AX.laldE {r n : Nat} {i : Int32} {v : Int64} (hd : decode M.2.1 pc = .ok (.laload, 1)) (hw : wj r = some n) (hi : inb i n = true) (hv : σ.2 r i.toNatClampNeg = v) (kk : AX G M h k (pc + 1) ls (.long v :: st) σ Q) : AX G M h k pc ls (.int i :: .ref (G.2.2.1 r) :: st) σ Q := AX.lald hd hw hi (hv ▸ kk)
theorem AX.zaldE {r n : Nat} {rs : List Nat} {i v : Int32} (hd : decode M.2.1 pc = .ok (.baload, 1)) (ht : tw[r]? = some (.inr (2, n, rs))) (hi : inb i n = true) (hv : σ.1 r i.toNatClampNeg = v) (kk : AX G M h k (pc + 1) ls (.int v :: st) σ Q) : AX G M h k pc ls (.int i :: .ref (G.2.2.1 r) :: st) σ Q := AX.zald hd ht hi (hv ▸ kk)
theorem AX.putIE {idx ci j r : Nat} {fs : List (Option (Option Nat))} {ty : FieldType} {v : Int32} {σ' : St} (hd : decode M.2.1 pc = .ok (.putfield idx, 3)) (hf : fp_ok M.1 idx ci j ty) (ht : tw[r]? = some (.inl (ci, fs))) (hj : fs[j]? = some none) (hn : narrow ty (.int v) = .int v) (hfit : fits ty (.int v) = true) (hs : sI σ r j v = σ') (kk : AX G M h k (pc + 3) ls st σ' Q) : AX G M h k pc ls (.int v :: .ref (G.2.2.1 r) :: st) σ Q := AX.putI hd hf ht hj hn hfit (hs ▸ kk)
theorem AX.iastE {r n j : Nat} {i x : Int32} {σ' : St} (hd : decode M.2.1 pc = .ok (.iastore, 1)) (hw : wi r = some n) (hi : inb i n = true) (hs : sI σ r i.toNatClampNeg x = σ') (kk : AX G M h k (pc + 1) ls st σ' Q) : AX G M h k pc ls (.int x :: .int i :: .ref (G.2.2.1 r) :: st) σ Q := AX.iast hd hw hi (hs ▸ kk)
theorem AX.callVw {idx n ci r : Nat} {y : MethodName} {M' : am_M} {h' k' : Nat} {As rest st' : List Value} {fs : List (Option (Option Nat))} {w : Option Value} {σ' : St} (hd : decode M.2.1 pc = .ok (.invokevirtual idx, 3)) (hlk : ml_ok M.1 idx y) (hy : yl_ok y M' n) (hv : yv_ok y ci) (ht : tw[r]? = some (.inl (ci, fs))) (hst : st = As.reverse ++ .ref (G.2.2.1 r) :: rest) (hn : As.length = n) (hcat : (rest.map fun v => v.category).sum ≤ 8) (hh : h' + 1 ≤ h ∧ 8 + (M'.2.2.1 + 11) + k' ≤ k)
    (hc : AC G y M' h' k' (.ref (G.2.2.1 r) :: As) σ (fun v σ1 => v = w ∧ σ1 = σ')) (hst' : w.toList ++ rest = st') (kk : AX G M h k (pc + 3) ls st' σ' Q) : AX G M h k pc ls st σ Q := by
  refine AX.callV hd hlk hy hv ht hst hn hcat hh hc ?_
  rintro _ _ ⟨rfl, rfl⟩
  rw [hst']
  exact kk
theorem AX.callSw {idx n : Nat} {y : MethodName} {M' : am_M} {h' k' : Nat} {As rest st' : List Value} {w : Option Value} {σ' : St} (hd : decode M.2.1 pc = .ok (.invokestatic idx, 3)) (hlk : ml_ok M.1 idx y) (hy : yl_ok y M' n) (hs : Cond.static y ∈ lw_gd) (hst : st = As.reverse ++ rest) (hn : As.length = n) (hcat : (rest.map fun v => v.category).sum ≤ 8) (hh : h' + 1 ≤ h ∧ 8 + (M'.2.2.1 + 11) + k' ≤ k)
    (hc : AC G y M' h' k' As σ (fun v σ1 => v = w ∧ σ1 = σ')) (hst' : w.toList ++ rest = st') (kk : AX G M h k (pc + 3) ls st' σ' Q) : AX G M h k pc ls st σ Q := by
  refine AX.callS hd hlk hy hs hst hn hcat hh hc ?_
  rintro _ _ ⟨rfl, rfl⟩
  rw [hst']
  exact kk
end AXE
theorem nb_0 : narrow .boolean (.int 0) = .int 0 := by decide
theorem nb_1 : narrow .boolean (.int 1) = .int 1 := by decide
theorem zb_0 : vp_nar .boolean 0 = 0 := by decide
theorem zb_1 : vp_nar .boolean 1 = 1 := by decide
section AXN
variable {G : ag_G} {M : am_M} {h k pc : Nat} {ls : List (Nat × Value)} {st : List Value} {σ : St} {Q : Option Value → St → Prop}
theorem AX.aload_nN {n : Fin 4} {i : Nat} (hd : decode M.2.1 pc = .ok (.aload_n n, 1)) (q : Nat) (hi : (n : Nat) = i) (hq : ls[q]? = some (i, .null)) (kk : AX G M h k (pc + 1) ls (.null :: st) σ Q) : AX G M h k pc ls st σ Q := by
  intro p l e R s m args below meth c H locs cells slots Z A lsA C hP hD hS hl hr
  exact lv_aload_nN C.1 C.2.1 hd hi (lv_at hl q hq) (kk C hP hD hS hl hr)
theorem AX.aloadN {i : Nat} (hd : decode M.2.1 pc = .ok (.aload i, 2)) (q : Nat) (hq : ls[q]? = some (i, .null)) (kk : AX G M h k (pc + 2) ls (.null :: st) σ Q) : AX G M h k pc ls st σ Q := by
  intro p l e R s m args below meth c H locs cells slots Z A lsA C hP hD hS hl hr
  exact lv_aloadN C.1 C.2.1 hd (lv_at hl q hq) (kk C hP hD hS hl hr)
theorem AX.astore_nN {n : Fin 4} {i : Nat} {ls' : List (Nat × Value)} (hd : decode M.2.1 pc = .ok (.astore_n n, 1)) (hi : (n : Nat) = i) (hb : i < M.2.2.1) (hl' : ls1 i .null ls = ls') (kk : AX G M h k (pc + 1) ls' st σ Q) : AX G M h k pc ls (.null :: st) σ Q := by
  intro p l e R s m args below meth c H locs cells slots Z A lsA C hP hD hS hl hr
  exact lv_astore_nN C.1 C.2.1 hd hi hl hb rfl (fun lsB hB => kk C hP hD hS (hl' ▸ lv_mono hB ls1_mem) hr)
theorem AX.astoreN {i : Nat} {ls' : List (Nat × Value)} (hd : decode M.2.1 pc = .ok (.astore i, 2)) (hb : i < M.2.2.1) (hl' : ls1 i .null ls = ls') (kk : AX G M h k (pc + 2) ls' st σ Q) : AX G M h k pc ls (.null :: st) σ Q := by
  intro p l e R s m args below meth c H locs cells slots Z A lsA C hP hD hS hl hr
  exact lv_astoreN C.1 C.2.1 hd hl hb rfl (fun lsB hB => kk C hP hD hS (hl' ▸ lv_mono hB ls1_mem) hr)
end AXN
def zb (x : Int32) : Bool := x == 0 || x == 1
theorem zb_nar {x : Int32} (h : zb x = true) : narrow .boolean (.int x) = .int x := by
  have : x = 0 ∨ x = 1 := by simpa [zb] using h
  rcases this with rfl | rfl
  · exact nb_0
  · exact nb_1
theorem pf_max : plainFor yJ9_max_7cf53 = true := by decide +kernel
theorem pf_min : plainFor yJ9_min_7cf53 = true := by decide +kernel
theorem kz {α : Type} {a z : α} {P : α → Prop} (h : some a = some z) (hk : P z) : P a := Option.some.inj h ▸ hk
theorem sI_at {σ : St} {r j : Nat} {v : Int32} : (sI σ r j v).1 r j = v := by simp [sI, rI, upd]
theorem sL_at {σ : St} {r j : Nat} {v : Int64} : (sL σ r j v).2 r j = v := by simp [sL, rL, vp_updL]
