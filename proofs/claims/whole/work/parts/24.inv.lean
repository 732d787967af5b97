/-! what both sides stand for -/
abbrev CoS : Type := List Int32 × (Nat → Nat) × (Nat → Nat) × (Nat → Nat) × List (Nat × Int32 × Int32)
abbrev AbS : Type := CoS × List Int32 × Int32 × List (Nat × Nat) × (Nat → Bool × Int32 × Nat × (Nat → Int32)) × Int32
abbrev cT (C : CoS) : List Int32 := C.1
abbrev cM (C : CoS) : Nat → Nat := C.2.1
abbrev cD (C : CoS) : Nat → Nat := C.2.2.1
abbrev cE (C : CoS) : Nat → Nat := C.2.2.2.1
abbrev cN (C : CoS) : List (Nat × Int32 × Int32) := C.2.2.2.2
abbrev cB (C : CoS) : List (Int32 × Int32) := bsOf (cT C)
abbrev aT (A : AbS) : List Int32 := A.1.1
abbrev aM (A : AbS) : Nat → Nat := A.1.2.1
abbrev aD (A : AbS) : Nat → Nat := A.1.2.2.1
abbrev aS (A : AbS) : Nat → Nat := A.1.2.2.2.1
abbrev aN (A : AbS) : List (Nat × Int32 × Int32) := A.1.2.2.2.2
abbrev aR (A : AbS) : List Int32 := A.2.1
abbrev aF (A : AbS) : Int32 := A.2.2.1
abbrev aP (A : AbS) : List (Nat × Nat) := A.2.2.2.1
abbrev aH (A : AbS) : Nat → Bool × Int32 × Nat × (Nat → Int32) := A.2.2.2.2.1
abbrev aG (A : AbS) : Int32 := A.2.2.2.2.2
abbrev aB (A : AbS) : List (Int32 × Int32) := bsOf (aT A)
def mostS (k : Nat) : Nat := if k = 4 ∨ k = 5 then 99 else if 6 < k then 4 else 16
def OKA (A : AbS) : Prop := (aT A).length ≤ 60 ∧ (∀ k, k < 3 → aM A k + aD A k ≤ 16) ∧ (∀ k, k < 9 → aS A k ≤ mostS k) ∧ ((aN A).length ≤ 4 ∧ ∀ x ∈ aN A, x.1 ≤ 110) ∧ (aR A).length ≤ 20 ∧ ((aP A).length ≤ 8 ∧ ∀ x ∈ aP A, 1 ≤ x.1 ∧ x.1 ≤ 98 ∧ 1 ≤ x.2 ∧ x.2 ≤ 99) ∧ ∀ s, s < 4 → (aH A s).2.2.1 ≤ 48
/-! weights of ways -/
def kdB (bs : List (Int32 × Int32)) (b : Nat) : Int32 := (bs.getD b (3, -1)).1
def tuB (bs : List (Int32 × Int32)) (b : Nat) : Int32 := (bs.getD b (3, -1)).2
def odB (C : CoS) (b many : Nat) : Nat := if kdB (cB C) b < 3 then (if many = 0 then cM C (kdB (cB C) b).toNatClampNeg else if many = 2 then cD C (kdB (cB C) b).toNatClampNeg else 16 - cM C (kdB (cB C) b).toNatClampNeg - cD C (kdB (cB C) b).toNatClampNeg) else if many = 1 then 1 else 0
/-- what one note weighs -/
def nt1 (C : CoS) (N b : Nat) (x : Nat × Int32 × Int32) : Nat := if x.1 = N then (if x.2.1 = -1 then (if x.2.2 = nI b then cE C 3 else 16 - cE C 3) else if kdB (cB C) b = 4 then (if tuB (cB C) b = x.2.1 then cE C 0 else cE C 1) else cE C 2) else 1
def ntL (C : CoS) (N b : Nat) : List (Nat × Int32 × Int32) → Nat
  | [] => 1
  | x :: l => nt1 C N b x * ntL C N b l
def ntW (C : CoS) (N b : Nat) : Nat := ntL C N b (cN C)
/-- all ways behind b bars with n numbers said -/
def Wt (C : CoS) : Nat → Nat → Nat
  | 0, n => if n = 0 then 1 else 0
  | b + 1, n => Wt C b n * odB C b 0 + (if 1 ≤ n then Wt C b (n - 1) * odB C b 1 * ntW C n b else 0) + (if 2 ≤ n then Wt C b (n - 2) * odB C b 2 * ntW C (n - 1) b * ntW C n b else 0)
/-- all ways by which N is said in bar b, later notes aside -/
def Ut (C : CoS) (N b : Nat) : Nat := Wt C b (N - 1) * (odB C b 1 + odB C b 2) * ntW C N b + (if 2 ≤ N then Wt C b (N - 2) * odB C b 2 * ntW C (N - 1) b * ntW C N b else 0)
def loB (C : CoS) (b : Nat) : Nat := nlo ((cB C).take b)
/-- the same, in parts of all loose bars -/
def Sd (C : CoS) (N b : Nat) : Nat := Ut C N b * 16 ^ (nlo (cB C) - loB C (b + 1))
def sm (f : Nat → Nat) : Nat → Nat
  | 0 => 0
  | n + 1 => sm f n + f n
def Al (C : CoS) (N : Nat) : Nat := sm (Sd C N) (cB C).length
def scW (C : CoS) : Nat := 16 ^ (10 - nlo (cB C))
/-- what the component keeps of them -/
def WOK (C : CoS) (σ : St) : Prop := ∀ N, 1 ≤ N → N ≤ 110 → σ.2 21 N = lN (scW C * Al C N) ∧ ∀ b, b < (cB C).length → ∀ p, p ≤ 20 → N + 9 = b + p → σ.2 20 (b * 21 + p) = lN (scW C * Sd C N b)
def WY (C : CoS) (σ : St) : Prop := σ.1 0 11 = 1 ∨ (σ.1 0 11 = 0 ∧ WOK C σ ∧ ∀ N, 1 ≤ N → N ≤ 110 → ∀ b, b < (cB C).length → ¬ (b ≤ N + 9 ∧ N + 9 ≤ b + 20) → Sd C N b = 0)
/-! rows -/
def ODr (m d : Nat → Nat) (f g : Nat → Int32) : Prop := ∀ k, k < 3 → f k = nI (m k) ∧ g k = nI (d k)
def SEr (s : Nat → Nat) (f : Nat → Int32) : Prop := ∀ k, k < 9 → f k = nI (s k)
def NTr (l : List (Nat × Int32 × Int32)) (z : Int32) (f g h : Nat → Int32) : Prop := z = nI l.length ∧ ∀ i x, l[i]? = some x → f i = nI x.1 ∧ g i = x.2.1 ∧ h i = x.2.2
def RCr (l : List Int32) (z : Int32) (f : Nat → Int32) : Prop := z = nI l.length ∧ ∀ i x, l[i]? = some x → f i = x
def PLr (l : List (Nat × Nat)) (z : Int32) (f g : Nat → Int32) : Prop := z = nI l.length ∧ ∀ i x, l[i]? = some x → f i = nI x.1 ∧ g i = nI x.2
/-- who comes in sooner; of like ones the earlier told -/
def sooner (l : List (Nat × Nat)) (p q : Nat) : Prop := (l.getD p (0, 0)).1 < (l.getD q (0, 0)).1 ∨ ((l.getD p (0, 0)).1 = (l.getD q (0, 0)).1 ∧ p < q)
def ORr (l : List (Nat × Nat)) (f : Nat → Int32) : Prop := ∃ o : Nat → Nat, (∀ i, i < l.length → f i = nI (o i) ∧ o i < l.length) ∧ (∀ i j, i < j → j < l.length → sooner l (o i) (o j)) ∧ ∀ p, p < l.length → ∃ i, i < l.length ∧ o i = p
def SHc (H : Nat → Bool × Int32 × Nat × (Nat → Int32)) (σ : St) : Prop := ∀ s, s < 4 → σ.1 (36 + 2 * s) 1 = (if (H s).1 then 0 else 1) ∧ σ.1 (36 + 2 * s) 2 = (H s).2.1 ∧ σ.1 (36 + 2 * s) 3 = nI (H s).2.2.1 ∧ ∀ i, i < 48 → σ.1 (36 + 2 * s + 1) i = (H s).2.2.2 i
def SHm (H : Nat → Bool × Int32 × Nat × (Nat → Int32)) (σ : St) : Prop := ∀ s, s < 4 → σ.1 65 s = (if (H s).1 then 1 else 0) ∧ σ.1 66 s = (H s).2.1 ∧ σ.1 67 s = nI (H s).2.2.1 ∧ ∀ i, i < 48 → σ.1 68 (48 * s + i) = (H s).2.2.2 i
def IC (A : AbS) (σ : St) : Prop := TX (aT A) σ ∧ PC (aT A) σ ∧ ODr (aM A) (aD A) (σ.1 10) (σ.1 11) ∧ SEr (aS A) (σ.1 8) ∧ NTr (aN A) (σ.1 15 3) (σ.1 16) (σ.1 17) (σ.1 18) ∧ RCr (aR A) (σ.1 32 1) (σ.1 33) ∧ σ.1 32 2 = aF A ∧ (PLr (aP A) (σ.1 27 4) (σ.1 28) (σ.1 29) ∧ ORr (aP A) (σ.1 30)) ∧ SHc (aH A) σ ∧ σ.1 0 12 = aG A ∧ WY A.1 σ
def IM (A : AbS) (σ : St) : Prop := TXm (aT A) σ ∧ ODr (aM A) (aD A) (σ.1 50) (σ.1 51) ∧ SEr (aS A) (σ.1 52) ∧ NTr (aN A) (σ.1 44 15) (σ.1 54) (σ.1 55) (σ.1 56) ∧ RCr (aR A) (σ.1 44 12) (σ.1 53) ∧ σ.1 44 14 = aF A ∧ PLr (aP A) (σ.1 44 26) (σ.1 62) (σ.1 63) ∧ SHm (aH A) σ ∧ σ.1 44 35 = aG A
def Inv (σ : St) : Prop := ∃ A, OKA A ∧ IC A σ ∧ IM A σ
/-! the two sides lie apart -/
def CM (σ σ' : St) : Prop := (∀ c, 44 ≤ c → σ'.1 c = σ.1 c) ∧ ∀ c, 44 ≤ c → σ'.2 c = σ.2 c
def MC (σ σ' : St) : Prop := (∀ c, c < 44 → σ'.1 c = σ.1 c) ∧ ∀ c, c < 44 → σ'.2 c = σ.2 c
theorem CM.rf {σ : St} : CM σ σ := ⟨fun _ _ => rfl, fun _ _ => rfl⟩
theorem MC.rf {σ : St} : MC σ σ := ⟨fun _ _ => rfl, fun _ _ => rfl⟩
theorem CM.trans {a b c : St} (h : CM a b) (h' : CM b c) : CM a c := ⟨fun x hx => (h'.1 x hx).trans (h.1 x hx), fun x hx => (h'.2 x hx).trans (h.2 x hx)⟩
theorem MC.trans {a b c : St} (h : MC a b) (h' : MC b c) : MC a c := ⟨fun x hx => (h'.1 x hx).trans (h.1 x hx), fun x hx => (h'.2 x hx).trans (h.2 x hx)⟩
theorem Fr.CM {S : List Nat} {σ σ' : St} (h : Fr S σ σ') (hS : ∀ c ∈ S, c < 44) : CM σ σ' := ⟨fun c hc => h.1 c fun q => by have := hS c q; omega, fun c hc => h.2 c fun q => by have := hS c q; omega⟩
theorem Fr.MC {S : List Nat} {σ σ' : St} (h : Fr S σ σ') (hS : ∀ c ∈ S, 44 ≤ c) : MC σ σ' := ⟨fun c hc => h.1 c fun q => by have := hS c q; omega, fun c hc => h.2 c fun q => by have := hS c q; omega⟩
theorem CM_sI {σ : St} {r j : Nat} {v : Int32} (h : r < 44) : CM σ (sI σ r j v) := (Fr_sI (S := [r]) (by simp)).CM (fun c hc => by simp at hc; omega)
theorem MC_sI {σ : St} {r j : Nat} {v : Int32} (h : 44 ≤ r) : MC σ (sI σ r j v) := (Fr_sI (S := [r]) (by simp)).MC (fun c hc => by simp at hc; omega)
/-- what the component may use as it likes -/
abbrev cSc : List Nat := [13, 14, 22, 23, 25, 26, 31, 34]
abbrev CS (σ σ' : St) : Prop := Fr cSc σ σ'
theorem CS.CM {σ σ' : St} (h : CS σ σ') : CM σ σ' := Fr.CM h (by decide)
/-- what the reference may use as it likes -/
abbrev mSc : List Nat := [44, 46, 47, 48, 49, 57, 58, 59, 60, 61, 64, 69]
def MS (σ σ' : St) : Prop := (∀ c, c ∉ mSc → σ'.1 c = σ.1 c) ∧ (∀ j, j ≠ 2 → j ≠ 6 → j ≠ 7 → σ'.1 44 j = σ.1 44 j) ∧ ∀ c, c < 44 → σ'.2 c = σ.2 c
theorem MS.rf {σ : St} : MS σ σ := ⟨fun _ _ => rfl, fun _ _ _ _ => rfl, fun _ _ => rfl⟩
theorem MS.trans {a b c : St} (h : MS a b) (h' : MS b c) : MS a c := ⟨fun x hx => (h'.1 x hx).trans (h.1 x hx), fun j p q r => (h'.2.1 j p q r).trans (h.2.1 j p q r), fun x hx => (h'.2.2 x hx).trans (h.2.2 x hx)⟩
theorem MS.MC {σ σ' : St} (h : MS σ σ') : MC σ σ' := ⟨fun c hc => h.1 c (fun q => by simp at q; omega), h.2.2⟩
theorem keepM.MS {σ σ' : St} (h : keepM σ σ') : MS σ σ' := ⟨fun c hc => h.1.1 c (fun q => hc (by simp at q ⊢; omega)), h.2.1, fun c hc => by rw [h.2.2]⟩
theorem IM.ms {A : AbS} {σ σ' : St} (h : IM A σ) (hk : MS σ σ') : IM A σ' := by
  obtain ⟨k1, k2, -⟩ := hk
  unfold IM TXm SHm at *
  rw [k2 1 (by decide) (by decide) (by decide), k2 15 (by decide) (by decide) (by decide), k2 12 (by decide) (by decide) (by decide), k2 14 (by decide) (by decide) (by decide), k2 26 (by decide) (by decide) (by decide), k2 35 (by decide) (by decide) (by decide), k1 45 (by decide), k1 50 (by decide), k1 51 (by decide), k1 52 (by decide), k1 53 (by decide), k1 54 (by decide), k1 55 (by decide), k1 56 (by decide), k1 62 (by decide), k1 63 (by decide), k1 65 (by decide), k1 66 (by decide), k1 67 (by decide), k1 68 (by decide)]
  exact h
theorem IM.cm {A : AbS} {σ σ' : St} (h : IM A σ) (hk : CM σ σ') : IM A σ' := by
  obtain ⟨k1, -⟩ := hk
  unfold IM TXm SHm at *
  rw [k1 44 (by decide), k1 45 (by decide), k1 50 (by decide), k1 51 (by decide), k1 52 (by decide), k1 53 (by decide), k1 54 (by decide), k1 55 (by decide), k1 56 (by decide), k1 62 (by decide), k1 63 (by decide), k1 65 (by decide), k1 66 (by decide), k1 67 (by decide), k1 68 (by decide)]
  exact h
theorem SHc.fr {H : Nat → Bool × Int32 × Nat × (Nat → Int32)} {σ σ' : St} (h : SHc H σ) (hk : ∀ c, 36 ≤ c → c < 44 → σ'.1 c = σ.1 c) : SHc H σ' := by
  intro s hs
  rw [hk (36 + 2 * s) (by omega) (by omega), hk (36 + 2 * s + 1) (by omega) (by omega)]
  exact h s hs
theorem IC.mc {A : AbS} {σ σ' : St} (h : IC A σ) (hk : MC σ σ') : IC A σ' := by
  obtain ⟨k1, k2⟩ := hk
  have hs := h.2.2.2.2.2.2.2.2.1.fr (σ' := σ') fun c _ hc => k1 c hc
  unfold IC TX PC PS WY WOK at *
  rw [k1 0 (by decide), k1 1 (by decide), k1 2 (by decide), k1 3 (by decide), k1 4 (by decide), k1 5 (by decide), k1 6 (by decide), k1 8 (by decide), k1 10 (by decide), k1 11 (by decide), k1 15 (by decide), k1 16 (by decide), k1 17 (by decide), k1 18 (by decide), k1 27 (by decide), k1 28 (by decide), k1 29 (by decide), k1 30 (by decide), k1 32 (by decide), k1 33 (by decide), k2 20 (by decide), k2 21 (by decide)]
  obtain ⟨a1, a2, a3, a4, a5, a6, a7, a8, -, a9⟩ := h
  exact ⟨a1, a2, a3, a4, a5, a6, a7, a8, hs, a9⟩
theorem IC.cs {A : AbS} {σ σ' : St} (h : IC A σ) (hk : CS σ σ') : IC A σ' := by
  obtain ⟨k1, k2⟩ := hk
  have hs := h.2.2.2.2.2.2.2.2.1.fr (σ' := σ') fun c h1 h2 => k1 c (fun q => by simp at q; omega)
  unfold IC TX PC PS WY WOK at *
  rw [k1 0 (by decide), k1 1 (by decide), k1 2 (by decide), k1 3 (by decide), k1 4 (by decide), k1 5 (by decide), k1 6 (by decide), k1 8 (by decide), k1 10 (by decide), k1 11 (by decide), k1 15 (by decide), k1 16 (by decide), k1 17 (by decide), k1 18 (by decide), k1 27 (by decide), k1 28 (by decide), k1 29 (by decide), k1 30 (by decide), k1 32 (by decide), k1 33 (by decide), k2 20 (by decide), k2 21 (by decide)]
  obtain ⟨a1, a2, a3, a4, a5, a6, a7, a8, -, a9⟩ := h
  exact ⟨a1, a2, a3, a4, a5, a6, a7, a8, hs, a9⟩
/-- a call on both sides -/
theorem ls_mk {α : Type} {f g : St → Option (α × St)} (v : AbS → α) (u : AbS → AbS) (hu : ∀ A, OKA A → OKA (u A)) (hc : ∀ A σ, OKA A → IC A σ → ∃ σ', f σ = some (v A, σ') ∧ IC (u A) σ' ∧ CM σ σ') (hm : ∀ A σ, OKA A → IM A σ → ∃ σ', g σ = some (v A, σ') ∧ IM (u A) σ' ∧ MC σ σ') (σ : St) (h : Inv σ) : ∃ z1 z2, f σ = some z1 ∧ g z1.2 = some z2 ∧ z1.1 = z2.1 ∧ Inv z2.2 := by
  obtain ⟨A, hA, h1, h2⟩ := h
  obtain ⟨s1, e1, i1, k1⟩ := hc A σ hA h1
  obtain ⟨s2, e2, i2, k2⟩ := hm A s1 hA (h2.cm k1)
  exact ⟨_, _, e1, e2, rfl, u A, hu A hA, i1.mc k2, i2⟩
/-- a call that leaves the component as it was -/
theorem ls_mk1 {α : Type} {f : St → Option α} {g : St → Option (α × St)} (v : AbS → α) (hc : ∀ A σ, OKA A → IC A σ → f σ = some (v A)) (hm : ∀ A σ, OKA A → IM A σ → ∃ σ', g σ = some (v A, σ') ∧ MS σ σ') (σ : St) (h : Inv σ) : ∃ z1 z2, f σ = some z1 ∧ g σ = some z2 ∧ z1 = z2.1 ∧ Inv z2.2 := by
  obtain ⟨A, hA, h1, h2⟩ := h
  obtain ⟨s2, e2, k2⟩ := hm A σ hA h2
  exact ⟨_, _, hc A σ hA h1, e2, rfl, A, hA, h1.mc k2.MC, h2.ms k2⟩
theorem ls_mkq {α : Type} {f g : St → Option (α × St)} (v : AbS → α) (hc : ∀ A σ, OKA A → IC A σ → ∃ σ', f σ = some (v A, σ') ∧ IC A σ' ∧ CM σ σ') (hm : ∀ A σ, OKA A → IM A σ → ∃ σ', g σ = some (v A, σ') ∧ MS σ σ') (σ : St) (h : Inv σ) : ∃ z1 z2, f σ = some z1 ∧ g z1.2 = some z2 ∧ z1.1 = z2.1 ∧ Inv z2.2 :=
  ls_mk v (fun A => A) (fun _ h => h) hc (fun A σ hA h => by obtain ⟨s, e, k⟩ := hm A σ hA h; exact ⟨s, e, h.ms k, k.MC⟩) σ h
