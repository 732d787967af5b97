noncomputable def fX0_clear  (σ : St) : Option (St) :=
  some (sI σ 32 1 0)
theorem wfX0_clear {G : ag_G}  (σ : St) {z : St} (hz : fX0_clear  σ = some z) {Q : Option Value → St → Prop} (hk : Q (none) z) : AX G mX0_clear 0 0 0 [(0, .ref (G.2.2.1 32))] [] σ Q := by
  unfold fX0_clear at hz
  refine AX.aload_n dX0_clear_0 0 rfl rfl ?_
  refine AX.iconst dX0_clear_1 ic_0 ?_
  refine AX.putI dX0_clear_2 fpRX0_15 rfl rfl (vp_nar_int _) rfl ?_
  exact AX.vreturn dX0_clear_5 rfl (kz (P := fun z => Q (none) z) hz hk)
theorem xX0_clear {G : ag_G}  (σ : St) {z : St} (hz : fX0_clear  σ = some z) : AC G yX0_clear mX0_clear 0 0 [.ref (G.2.2.1 32)] σ (fun v σ1 => v = none ∧ σ1 = z) := AC.of (plainFor_of_name (by decide)) rfl (Nat.le_of_ble_eq_true rfl) (wfX0_clear  σ hz ⟨rfl, rfl⟩)
noncomputable def fX0_append (p0 : Int32) (σ : St) : Option (Int32 × St) :=
  if (σ.1 32 1) < (0 : Int32) then some ((0 : Int32), σ) else if (σ.1 32 1) < (20 : Int32) then if inb (σ.1 32 1) 20 = true then some ((1 : Int32), (sI (sI σ 33 ((σ.1 32 1).toNatClampNeg) p0) 32 1 ((σ.1 32 1) + (1 : Int32)))) else none else some ((0 : Int32), σ)
theorem wfX0_append {G : ag_G} (p0 : Int32) (σ : St) {z : Int32 × St} (hz : fX0_append p0 σ = some z) {Q : Option Value → St → Prop} (hk : Q (some (.int z.1)) z.2) : AX G mX0_append 0 0 0 [(0, .ref (G.2.2.1 32)), (1, .int p0)] [] σ Q := by
  unfold fX0_append at hz
  refine AX.aload_n dX0_append_0 0 rfl rfl ?_
  refine AX.getIE (v := σ.1 32 1) dX0_append_1 flRX0_15 rfl rfl rfl ?_
  refine AX.if_lt (tgt := 16) dX0_append_4 rfl (fun c1 => ?_) (fun c1 => ?_)
  · replace hz := (if_pos c1).symm.trans hz
    refine AX.iconst dX0_append_16 ic_0 ?_
    exact AX.ireturn dX0_append_17 rfl nb_0 (kz (P := fun z => Q (some (.int z.1)) z.2) hz hk)
  · replace hz := (if_neg c1).symm.trans hz
    refine AX.aload_n dX0_append_7 0 rfl rfl ?_
    refine AX.getIE (v := σ.1 32 1) dX0_append_8 flRX0_15 rfl rfl rfl ?_
    refine AX.bipush dX0_append_11 bp_20 ?_
    refine AX.icmp_lt (tgt := 18) dX0_append_13 rfl (fun c2 => ?_) (fun c2 => ?_)
    · replace hz := (if_pos c2).symm.trans hz
      refine AX.aload_n dX0_append_18 0 rfl rfl ?_
      refine AX.getR dX0_append_19 flRX0_11 rfl rfl ?_
      refine AX.aload_n dX0_append_22 0 rfl rfl ?_
      refine AX.getIE (v := σ.1 32 1) dX0_append_23 flRX0_15 rfl rfl rfl ?_
      refine AX.iload_n dX0_append_26 1 rfl rfl ?_
      obtain ⟨b3, hz⟩ := ite_n hz
      refine AX.iast dX0_append_27 rfl b3 ?_
      refine AX.aload_n dX0_append_28 0 rfl rfl ?_
      refine AX.dup dX0_append_29 rfl ?_
      refine AX.getIE (v := σ.1 32 1) dX0_append_30 flRX0_15 rfl rfl rfl ?_
      refine AX.iconst dX0_append_33 ic_1 ?_
      refine AX.iadd dX0_append_34 ?_
      refine AX.putI dX0_append_35 fpRX0_15 rfl rfl (vp_nar_int _) rfl ?_
      refine AX.iconst dX0_append_38 ic_1 ?_
      exact AX.ireturn dX0_append_39 rfl nb_1 (kz (P := fun z => Q (some (.int z.1)) z.2) hz hk)
    · replace hz := (if_neg c2).symm.trans hz
      refine AX.iconst dX0_append_16 ic_0 ?_
      exact AX.ireturn dX0_append_17 rfl nb_0 (kz (P := fun z => Q (some (.int z.1)) z.2) hz hk)
theorem xX0_append {G : ag_G} (p0 : Int32) (σ : St) {z : Int32 × St} (hz : fX0_append p0 σ = some z) : AC G yX0_append mX0_append 0 0 [.ref (G.2.2.1 32), .int p0] σ (fun v σ1 => v = some (.int z.1) ∧ σ1 = z.2) := AC.of (plainFor_of_name (by decide)) rfl (Nat.le_of_ble_eq_true rfl) (wfX0_append p0 σ hz ⟨rfl, rfl⟩)
noncomputable def fX10_itemAt (p0 : Nat) (p1 : Int32) (σ : St) : Option (Int32) :=
  (ri p0).bind fun n0 => if p1 < (0 : Int32) then some (0 : Int32) else if (Int32.ofNat n0) ≤ p1 then some (0 : Int32) else if inb p1 n0 = true then some (rv σ p0 p1.toNatClampNeg) else none
theorem wfX10_itemAt {G : ag_G} (p0 : Nat) (p1 : Int32) (σ : St) {z : Int32} (hz : fX10_itemAt p0 p1 σ = some z) {Q : Option Value → St → Prop} (hk : Q (some (.int z)) σ) : AX G mX10_itemAt 0 0 0 [(0, .ref (G.2.2.1 p0)), (1, .int p1)] [] σ Q := by
  unfold fX10_itemAt at hz
  obtain ⟨n0, hn0, hz⟩ := obind hz
  refine AX.iload_n dX10_itemAt_0 1 rfl rfl ?_
  refine AX.if_lt (tgt := 16) dX10_itemAt_1 rfl (fun c1 => ?_) (fun c1 => ?_)
  · replace hz := (if_pos c1).symm.trans hz
    refine AX.iconst dX10_itemAt_16 ic_0 ?_
    exact AX.ireturn dX10_itemAt_17 rfl (vp_nar_int _) (kz (P := fun z => Q (some (.int z)) σ) hz hk)
  · replace hz := (if_neg c1).symm.trans hz
    refine AX.iload_n dX10_itemAt_4 1 rfl rfl ?_
    refine AX.aload_n dX10_itemAt_5 0 rfl rfl ?_
    refine AX.alenR dX10_itemAt_6 hn0 ?_
    refine AX.icmp_ge (tgt := 16) dX10_itemAt_7 rfl (fun c2 => ?_) (fun c2 => ?_)
    · replace hz := (if_pos c2).symm.trans hz
      refine AX.iconst dX10_itemAt_16 ic_0 ?_
      exact AX.ireturn dX10_itemAt_17 rfl (vp_nar_int _) (kz (P := fun z => Q (some (.int z)) σ) hz hk)
    · replace hz := (if_neg c2).symm.trans hz
      refine AX.aload_n dX10_itemAt_10 0 rfl rfl ?_
      refine AX.iload_n dX10_itemAt_11 1 rfl rfl ?_
      obtain ⟨b3, hz⟩ := ite_n hz
      refine AX.ialdRE (v := rv σ p0 p1.toNatClampNeg) dX10_itemAt_12 hn0 b3 rfl ?_
      refine AX.goto (tgt := 17) dX10_itemAt_13 rfl ?_
      exact AX.ireturn dX10_itemAt_17 rfl (vp_nar_int _) (kz (P := fun z => Q (some (.int z)) σ) hz hk)
theorem xX10_itemAt {G : ag_G} (p0 : Nat) (p1 : Int32) (σ : St) {z : Int32} (hz : fX10_itemAt p0 p1 σ = some z) : AC G yX10_itemAt mX10_itemAt 0 0 [.ref (G.2.2.1 p0), .int p1] σ (fun v σ1 => v = some (.int z) ∧ σ1 = σ) := AC.of (plainFor_of_name (by decide)) rfl (Nat.le_of_ble_eq_true rfl) (wfX10_itemAt p0 p1 σ hz ⟨rfl, rfl⟩)
noncomputable def fX0_isWrong_j21 (l1 : Int32) (t0 : Int32) (σ : St) : Option (Int32) :=
  (fX10_itemAt 33 l1 σ).bind fun q1 => if q1 = (t0 + (1 : Int32)) then some (0 : Int32) else some (1 : Int32)
theorem wfX0_isWrong_j21 {G : ag_G} (l1 : Int32) (t0 : Int32) (σ : St) {z : Int32} (hz : fX0_isWrong_j21 l1 t0 σ = some z) {Q : Option Value → St → Prop} (hk : Q (some (.int z)) σ) : AX G mX0_isWrong 1 21 21 [(0, .ref (G.2.2.1 32)), (1, .int l1)] [.int t0] σ Q := by
  unfold fX0_isWrong_j21 at hz
  refine AX.istore_n (ls' := [(0, .ref (G.2.2.1 32)), (1, .int l1), (2, .int t0)]) dX0_isWrong_21 rfl (Nat.le_of_ble_eq_true rfl) rfl ?_
  refine AX.aload_n dX0_isWrong_22 0 rfl rfl ?_
  refine AX.getR dX0_isWrong_23 flRX0_11 rfl rfl ?_
  refine AX.iload_n dX0_isWrong_26 1 rfl rfl ?_
  obtain ⟨q1, hq1, hz⟩ := obind hz
  refine AX.callSw (As := [.ref (G.2.2.1 33), .int l1]) (rest := []) (w := some (.int q1)) (st' := [.int q1]) dX0_isWrong_27 mlRX0_26 ylX10_itemAt ysX10_itemAt rfl rfl (Nat.le_of_ble_eq_true rfl) ⟨Nat.le_of_ble_eq_true rfl, Nat.le_of_ble_eq_true rfl⟩ (xX10_itemAt 33 l1 σ hq1) rfl ?_
  refine AX.iload_n dX0_isWrong_30 2 rfl rfl ?_
  refine AX.iconst dX0_isWrong_31 ic_1 ?_
  refine AX.iadd dX0_isWrong_32 ?_
  refine AX.icmp_eq (tgt := 40) dX0_isWrong_33 rfl (fun c2 => ?_) (fun c2 => ?_)
  · replace hz := (if_pos c2).symm.trans hz
    refine AX.iconst dX0_isWrong_40 ic_0 ?_
    exact AX.ireturn dX0_isWrong_41 rfl nb_0 (kz (P := fun z => Q (some (.int z)) σ) hz hk)
  · replace hz := (if_neg c2).symm.trans hz
    refine AX.iconst dX0_isWrong_36 ic_1 ?_
    refine AX.goto (tgt := 41) dX0_isWrong_37 rfl ?_
    exact AX.ireturn dX0_isWrong_41 rfl nb_1 (kz (P := fun z => Q (some (.int z)) σ) hz hk)
noncomputable def fX0_isWrong (p0 : Int32) (σ : St) : Option (Int32) :=
  if p0 = (0 : Int32) then fX0_isWrong_j21 p0 (σ.1 32 2) σ else (fX10_itemAt 33 (p0 - (1 : Int32)) σ).bind fun q2 => fX0_isWrong_j21 p0 q2 σ
theorem wfX0_isWrong {G : ag_G} (p0 : Int32) (σ : St) {z : Int32} (hz : fX0_isWrong p0 σ = some z) {Q : Option Value → St → Prop} (hk : Q (some (.int z)) σ) : AX G mX0_isWrong 1 21 0 [(0, .ref (G.2.2.1 32)), (1, .int p0)] [] σ Q := by
  unfold fX0_isWrong at hz
  refine AX.iload_n dX0_isWrong_0 1 rfl rfl ?_
  refine AX.if_ne (tgt := 11) dX0_isWrong_1 rfl (fun c1 => ?_) (fun c1 => ?_)
  · replace hz := (if_neg c1).symm.trans hz
    refine AX.aload_n dX0_isWrong_11 0 rfl rfl ?_
    refine AX.getR dX0_isWrong_12 flRX0_11 rfl rfl ?_
    refine AX.iload_n dX0_isWrong_15 1 rfl rfl ?_
    refine AX.iconst dX0_isWrong_16 ic_1 ?_
    refine AX.isub dX0_isWrong_17 ?_
    obtain ⟨q2, hq2, hz⟩ := obind hz
    refine AX.callSw (As := [.ref (G.2.2.1 33), .int (p0 - (1 : Int32))]) (rest := []) (w := some (.int q2)) (st' := [.int q2]) dX0_isWrong_18 mlRX0_26 ylX10_itemAt ysX10_itemAt rfl rfl (Nat.le_of_ble_eq_true rfl) ⟨Nat.le_of_ble_eq_true rfl, Nat.le_of_ble_eq_true rfl⟩ (xX10_itemAt 33 (p0 - (1 : Int32)) σ hq2) rfl ?_
    exact AX.sub (ls' := [(0, .ref (G.2.2.1 32)), (1, .int p0)]) [0, 1] rfl (wfX0_isWrong_j21 p0 q2 σ hz hk)
  · replace hz := (if_pos c1).symm.trans hz
    refine AX.aload_n dX0_isWrong_4 0 rfl rfl ?_
    refine AX.getIE (v := σ.1 32 2) dX0_isWrong_5 flRX0_19 rfl rfl rfl ?_
    refine AX.goto (tgt := 21) dX0_isWrong_8 rfl ?_
    exact AX.sub (ls' := [(0, .ref (G.2.2.1 32)), (1, .int p0)]) [0, 1] rfl (wfX0_isWrong_j21 p0 (σ.1 32 2) σ hz hk)
theorem xX0_isWrong {G : ag_G} (p0 : Int32) (σ : St) {z : Int32} (hz : fX0_isWrong p0 σ = some z) : AC G yX0_isWrong mX0_isWrong 1 21 [.ref (G.2.2.1 32), .int p0] σ (fun v σ1 => v = some (.int z) ∧ σ1 = σ) := AC.of (plainFor_of_name (by decide)) rfl (Nat.le_of_ble_eq_true rfl) (wfX0_isWrong p0 σ hz ⟨rfl, rfl⟩)
noncomputable def fX0_firstWrong_b2 (l1 : Int32) (σ : St) : Option ((Int32) ⊕ ((Int32) ⊕ (Unit))) :=
  if (σ.1 32 1) ≤ l1 then some (.inr (.inr ())) else (fX0_isWrong l1 σ).bind fun q2 => if q2 = (0 : Int32) then some (.inl (l1 + 1)) else some (.inr (.inl l1))
theorem wfX0_firstWrong_b2 {G : ag_G} (l1 : Int32) (σ : St) {z : (Int32) ⊕ ((Int32) ⊕ (Unit))} (hz : fX0_firstWrong_b2 l1 σ = some z) {Q : Option Value → St → Prop} (K : ((Int32) ⊕ ((Int32) ⊕ (Unit))) → Prop) (hback : ∀ a : Int32, K (.inl a) → AX G mX0_firstWrong 2 43 2 [(0, .ref (G.2.2.1 32)), (1, .int a)] [] σ Q) (hexit0 : ∀ a : Int32, K (.inr (.inl a)) → AX G mX0_firstWrong 2 43 18 [(1, .int a)] [] σ Q) (hexit1 : ∀ a : Unit, K (.inr (.inr a)) → AX G mX0_firstWrong 2 43 26 [] [] σ Q) (hk : K z) : AX G mX0_firstWrong 2 43 2 [(0, .ref (G.2.2.1 32)), (1, .int l1)] [] σ Q := by
  unfold fX0_firstWrong_b2 at hz
  refine AX.iload_n dX0_firstWrong_2 1 rfl rfl ?_
  refine AX.aload_n dX0_firstWrong_3 0 rfl rfl ?_
  refine AX.getIE (v := σ.1 32 1) dX0_firstWrong_4 flRX0_15 rfl rfl rfl ?_
  refine AX.icmp_ge (tgt := 26) dX0_firstWrong_7 rfl (fun c1 => ?_) (fun c1 => ?_)
  · replace hz := (if_pos c1).symm.trans hz
    exact AX.sub (ls' := []) [] rfl (hexit1 () (kz (P := K) hz hk))
  · replace hz := (if_neg c1).symm.trans hz
    refine AX.aload_n dX0_firstWrong_10 0 rfl rfl ?_
    refine AX.iload_n dX0_firstWrong_11 1 rfl rfl ?_
    obtain ⟨q2, hq2, hz⟩ := obind hz
    refine AX.callVw (r := 32) (As := [.int l1]) (rest := []) (w := some (.int q2)) (st' := [.int q2]) dX0_firstWrong_12 mlRX0_22 ylX0_isWrong yvX0_isWrong rfl rfl rfl (Nat.le_of_ble_eq_true rfl) ⟨Nat.le_of_ble_eq_true rfl, Nat.le_of_ble_eq_true rfl⟩ (xX0_isWrong l1 σ hq2) rfl ?_
    refine AX.if_eq (tgt := 20) dX0_firstWrong_15 rfl (fun c3 => ?_) (fun c3 => ?_)
    · replace hz := (if_pos c3).symm.trans hz
      refine AX.iinc (v := l1 + 1) (ls' := [(0, .ref (G.2.2.1 32)), (1, .int (l1 + 1))]) 1 dX0_firstWrong_20 rfl (Nat.le_of_ble_eq_true rfl) (congrArg (l1 + ·) ic_1) rfl ?_
      refine AX.goto (tgt := 2) dX0_firstWrong_23 rfl ?_
      exact AX.sub (ls' := [(0, .ref (G.2.2.1 32)), (1, .int (l1 + 1))]) [0, 1] rfl (hback (l1 + 1) (kz (P := K) hz hk))
    · replace hz := (if_neg c3).symm.trans hz
      exact AX.sub (ls' := [(1, .int l1)]) [1] rfl (hexit0 l1 (kz (P := K) hz hk))
noncomputable def fX0_firstWrong  (σ : St) : Option (Int32) :=
  (lpc (fun s => fX0_firstWrong_b2  s σ) 0).bind fun r1 => Sum.elim (fun r1_0 => some r1_0) (fun r1_1 => some (-1 : Int32)) r1
theorem wfX0_firstWrong {G : ag_G}  (σ : St) {z : Int32} (hz : fX0_firstWrong  σ = some z) {Q : Option Value → St → Prop} (hk : Q (some (.int z)) σ) : AX G mX0_firstWrong 2 43 0 [(0, .ref (G.2.2.1 32))] [] σ Q := by
  unfold fX0_firstWrong at hz
  refine AX.iconst dX0_firstWrong_0 ic_0 ?_
  refine AX.istore_n (ls' := [(0, .ref (G.2.2.1 32)), (1, .int 0)]) dX0_firstWrong_1 rfl (Nat.le_of_ble_eq_true rfl) rfl ?_
  obtain ⟨r1, hr1, hz⟩ := obind hz
  refine AX.sub (ls' := [(0, .ref (G.2.2.1 32)), (1, .int 0)]) [0, 1] rfl ?_
  refine lpc_ind (s := 0) (r := r1) (fun s => AX G mX0_firstWrong 2 43 2 [(0, .ref (G.2.2.1 32)), (1, .int s)] [] σ Q) (Sum.elim (fun a : Int32 => AX G mX0_firstWrong 2 43 18 [(1, .int a)] [] σ Q) (fun a : Unit => AX G mX0_firstWrong 2 43 26 [] [] σ Q)) hr1 (fun s z hb hK => wfX0_firstWrong_b2  s σ hb (Sum.elim (fun s => AX G mX0_firstWrong 2 43 2 [(0, .ref (G.2.2.1 32)), (1, .int s)] [] σ Q) (Sum.elim (fun a : Int32 => AX G mX0_firstWrong 2 43 18 [(1, .int a)] [] σ Q) (fun a : Unit => AX G mX0_firstWrong 2 43 26 [] [] σ Q))) (fun _ h9 => h9) (fun _ h9 => h9) (fun _ h9 => h9) hK) ?_
  rcases r1 with r1_0 | r1_1
  · dsimp only [Sum.elim_inl, Sum.elim_inr] at hz ⊢
    refine AX.iload_n dX0_firstWrong_18 0 rfl rfl ?_
    exact AX.ireturn dX0_firstWrong_19 rfl (vp_nar_int _) (kz (P := fun z => Q (some (.int z)) σ) hz hk)
  · dsimp only [Sum.elim_inl, Sum.elim_inr] at hz ⊢
    refine AX.iconst dX0_firstWrong_26 ic_m1 ?_
    exact AX.ireturn dX0_firstWrong_27 rfl (vp_nar_int _) (kz (P := fun z => Q (some (.int z)) σ) hz hk)
theorem xX0_firstWrong {G : ag_G}  (σ : St) {z : Int32} (hz : fX0_firstWrong  σ = some z) : AC G yX0_firstWrong mX0_firstWrong 2 43 [.ref (G.2.2.1 32)] σ (fun v σ1 => v = some (.int z) ∧ σ1 = σ) := AC.of (plainFor_of_name (by decide)) rfl (Nat.le_of_ble_eq_true rfl) (wfX0_firstWrong  σ hz ⟨rfl, rfl⟩)
noncomputable def fX0_allWrong_j23 (l1 : Int32) (l2 : Int32) (σ : St) : Option ((Int32 × Int32) ⊕ Int32) :=
  some (.inl (l1, l2 + 1))
theorem wfX0_allWrong_j23 {G : ag_G} (l1 : Int32) (l2 : Int32) (σ : St) {z : (Int32 × Int32) ⊕ Int32} (hz : fX0_allWrong_j23 l1 l2 σ = some z) {Q : Option Value → St → Prop} (K : ((Int32 × Int32) ⊕ Int32) → Prop) (hback : ∀ a : Int32 × Int32, K (.inl a) → AX G mX0_allWrong 2 43 4 [(0, .ref (G.2.2.1 32)), (1, .int a.1), (2, .int a.2)] [] σ Q) (hk : K z) : AX G mX0_allWrong 2 43 23 [(0, .ref (G.2.2.1 32)), (1, .int l1), (2, .int l2)] [] σ Q := by
  unfold fX0_allWrong_j23 at hz
  refine AX.iinc (v := l2 + 1) (ls' := [(0, .ref (G.2.2.1 32)), (1, .int l1), (2, .int (l2 + 1))]) 2 dX0_allWrong_23 rfl (Nat.le_of_ble_eq_true rfl) (congrArg (l2 + ·) ic_1) rfl ?_
  refine AX.goto (tgt := 4) dX0_allWrong_26 rfl ?_
  exact AX.sub (ls' := [(0, .ref (G.2.2.1 32)), (1, .int l1), (2, .int (l2 + 1))]) [0, 1, 2] rfl (hback (l1, l2 + 1) (kz (P := K) hz hk))
noncomputable def fX0_allWrong_b4 (l1 : Int32) (l2 : Int32) (σ : St) : Option ((Int32 × Int32) ⊕ Int32) :=
  if (σ.1 32 1) ≤ l2 then some (.inr l1) else (fX0_isWrong l2 σ).bind fun q2 => if q2 = (0 : Int32) then fX0_allWrong_j23 l1 l2 σ else fX0_allWrong_j23 (l1 + 1) l2 σ
theorem wfX0_allWrong_b4 {G : ag_G} (l1 : Int32) (l2 : Int32) (σ : St) {z : (Int32 × Int32) ⊕ Int32} (hz : fX0_allWrong_b4 l1 l2 σ = some z) {Q : Option Value → St → Prop} (K : ((Int32 × Int32) ⊕ Int32) → Prop) (hback : ∀ a : Int32 × Int32, K (.inl a) → AX G mX0_allWrong 2 43 4 [(0, .ref (G.2.2.1 32)), (1, .int a.1), (2, .int a.2)] [] σ Q) (hexit0 : ∀ a : Int32, K (.inr a) → AX G mX0_allWrong 2 43 29 [(1, .int a)] [] σ Q) (hk : K z) : AX G mX0_allWrong 2 43 4 [(0, .ref (G.2.2.1 32)), (1, .int l1), (2, .int l2)] [] σ Q := by
  unfold fX0_allWrong_b4 at hz
  refine AX.iload_n dX0_allWrong_4 2 rfl rfl ?_
  refine AX.aload_n dX0_allWrong_5 0 rfl rfl ?_
  refine AX.getIE (v := σ.1 32 1) dX0_allWrong_6 flRX0_15 rfl rfl rfl ?_
  refine AX.icmp_ge (tgt := 29) dX0_allWrong_9 rfl (fun c1 => ?_) (fun c1 => ?_)
  · replace hz := (if_pos c1).symm.trans hz
    exact AX.sub (ls' := [(1, .int l1)]) [1] rfl (hexit0 l1 (kz (P := K) hz hk))
  · replace hz := (if_neg c1).symm.trans hz
    refine AX.aload_n dX0_allWrong_12 0 rfl rfl ?_
    refine AX.iload_n dX0_allWrong_13 2 rfl rfl ?_
    obtain ⟨q2, hq2, hz⟩ := obind hz
    refine AX.callVw (r := 32) (As := [.int l2]) (rest := []) (w := some (.int q2)) (st' := [.int q2]) dX0_allWrong_14 mlRX0_22 ylX0_isWrong yvX0_isWrong rfl rfl rfl (Nat.le_of_ble_eq_true rfl) ⟨Nat.le_of_ble_eq_true rfl, Nat.le_of_ble_eq_true rfl⟩ (xX0_isWrong l2 σ hq2) rfl ?_
    refine AX.if_eq (tgt := 23) dX0_allWrong_17 rfl (fun c3 => ?_) (fun c3 => ?_)
    · replace hz := (if_pos c3).symm.trans hz
      exact AX.sub (ls' := [(0, .ref (G.2.2.1 32)), (1, .int l1), (2, .int l2)]) [0, 1, 2] rfl (wfX0_allWrong_j23 l1 l2 σ hz K hback hk)
    · replace hz := (if_neg c3).symm.trans hz
      refine AX.iinc (v := l1 + 1) (ls' := [(0, .ref (G.2.2.1 32)), (1, .int (l1 + 1)), (2, .int l2)]) 1 dX0_allWrong_20 rfl (Nat.le_of_ble_eq_true rfl) (congrArg (l1 + ·) ic_1) rfl ?_
      exact AX.sub (ls' := [(0, .ref (G.2.2.1 32)), (1, .int (l1 + 1)), (2, .int l2)]) [0, 1, 2] rfl (wfX0_allWrong_j23 (l1 + 1) l2 σ hz K hback hk)
noncomputable def fX0_allWrong  (σ : St) : Option (Int32) :=
  (lpc (fun s => fX0_allWrong_b4  s.1 s.2 σ) (0, 0)).bind fun r1 => some r1
theorem wfX0_allWrong {G : ag_G}  (σ : St) {z : Int32} (hz : fX0_allWrong  σ = some z) {Q : Option Value → St → Prop} (hk : Q (some (.int z)) σ) : AX G mX0_allWrong 2 43 0 [(0, .ref (G.2.2.1 32))] [] σ Q := by
  unfold fX0_allWrong at hz
  refine AX.iconst dX0_allWrong_0 ic_0 ?_
  refine AX.istore_n (ls' := [(0, .ref (G.2.2.1 32)), (1, .int 0)]) dX0_allWrong_1 rfl (Nat.le_of_ble_eq_true rfl) rfl ?_
  refine AX.iconst dX0_allWrong_2 ic_0 ?_
  refine AX.istore_n (ls' := [(0, .ref (G.2.2.1 32)), (1, .int 0), (2, .int 0)]) dX0_allWrong_3 rfl (Nat.le_of_ble_eq_true rfl) rfl ?_
  obtain ⟨r1, hr1, hz⟩ := obind hz
  refine AX.sub (ls' := [(0, .ref (G.2.2.1 32)), (1, .int 0), (2, .int 0)]) [0, 1, 2] rfl ?_
  refine lpc_ind (s := (0, 0)) (r := r1) (fun s => AX G mX0_allWrong 2 43 4 [(0, .ref (G.2.2.1 32)), (1, .int s.1), (2, .int s.2)] [] σ Q) (fun a : Int32 => AX G mX0_allWrong 2 43 29 [(1, .int a)] [] σ Q) hr1 (fun s z hb hK => wfX0_allWrong_b4  s.1 s.2 σ hb (Sum.elim (fun s => AX G mX0_allWrong 2 43 4 [(0, .ref (G.2.2.1 32)), (1, .int s.1), (2, .int s.2)] [] σ Q) (fun a : Int32 => AX G mX0_allWrong 2 43 29 [(1, .int a)] [] σ Q)) (fun _ h9 => h9) (fun _ h9 => h9) hK) ?_
  refine AX.iload_n dX0_allWrong_29 0 rfl rfl ?_
  exact AX.ireturn dX0_allWrong_30 rfl (vp_nar_int _) (kz (P := fun z => Q (some (.int z)) σ) hz hk)
theorem xX0_allWrong {G : ag_G}  (σ : St) {z : Int32} (hz : fX0_allWrong  σ = some z) : AC G yX0_allWrong mX0_allWrong 2 43 [.ref (G.2.2.1 32)] σ (fun v σ1 => v = some (.int z) ∧ σ1 = σ) := AC.of (plainFor_of_name (by decide)) rfl (Nat.le_of_ble_eq_true rfl) (wfX0_allWrong  σ hz ⟨rfl, rfl⟩)
noncomputable def fX1_draw  (σ : St) : Option (Int32 × St) :=
  some (((((((1103515245 : Int32) * (σ.1 34 0)) + (12345 : Int32)).toUInt32 >>> ((16 : Int32).toUInt32 &&& Int32.toUInt32 31)).toInt32) - (((((1103515245 : Int32) * (σ.1 34 0)) + (12345 : Int32)).toUInt32 >>> ((16 : Int32).toUInt32 &&& Int32.toUInt32 31)).toInt32) / (16 : Int32) * (16 : Int32)), (sI σ 34 0 (((1103515245 : Int32) * (σ.1 34 0)) + (12345 : Int32))))
theorem wfX1_draw {G : ag_G}  (σ : St) {z : Int32 × St} (hz : fX1_draw  σ = some z) {Q : Option Value → St → Prop} (hk : Q (some (.int z.1)) z.2) : AX G mX1_draw 0 0 0 [(0, .ref (G.2.2.1 34))] [] σ Q := by
  unfold fX1_draw at hz
  refine AX.aload_n dX1_draw_0 0 rfl rfl ?_
  refine AX.ldc dX1_draw_1 kcRX1_15 ?_
  refine AX.aload_n dX1_draw_3 0 rfl rfl ?_
  refine AX.getIE (v := σ.1 34 0) dX1_draw_4 flRX1_9 rfl rfl rfl ?_
  refine AX.imul dX1_draw_7 ?_
  refine AX.sipush dX1_draw_8 sp_12345 ?_
  refine AX.iadd dX1_draw_11 ?_
  refine AX.putI dX1_draw_12 fpRX1_9 rfl rfl (vp_nar_int _) rfl ?_
  refine AX.aload_n dX1_draw_15 0 rfl rfl ?_
  refine AX.getIE (v := ((1103515245 : Int32) * (σ.1 34 0)) + (12345 : Int32)) dX1_draw_16 flRX1_9 rfl rfl rfl ?_
  refine AX.bipush dX1_draw_19 bp_16 ?_
  refine AX.iushr dX1_draw_21 ?_
  refine AX.bipush dX1_draw_22 bp_16 ?_
  refine AX.irem dX1_draw_24 (by decide) ?_
  exact AX.ireturn dX1_draw_25 rfl (vp_nar_int _) (kz (P := fun z => Q (some (.int z.1)) z.2) hz hk)
theorem xX1_draw {G : ag_G}  (σ : St) {z : Int32 × St} (hz : fX1_draw  σ = some z) : AC G yX1_draw mX1_draw 0 0 [.ref (G.2.2.1 34)] σ (fun v σ1 => v = some (.int z.1) ∧ σ1 = z.2) := AC.of (plainFor_of_name (by decide)) rfl (Nat.le_of_ble_eq_true rfl) (wfX1_draw  σ hz ⟨rfl, rfl⟩)
noncomputable def fX2_append (p0 : Int32) (p1 : Int32) (p2 : Int32) (σ : St) : Option (Int32 × St) :=
  if (σ.1 15 3) < (0 : Int32) then some ((0 : Int32), σ) else if (σ.1 15 3) < (4 : Int32) then if inb (σ.1 15 3) 4 = true then some ((1 : Int32), (sI (sI (sI (sI σ 16 ((σ.1 15 3).toNatClampNeg) p0) 17 ((σ.1 15 3).toNatClampNeg) p1) 18 ((σ.1 15 3).toNatClampNeg) p2) 15 3 ((σ.1 15 3) + (1 : Int32)))) else none else some ((0 : Int32), σ)
theorem wfX2_append {G : ag_G} (p0 : Int32) (p1 : Int32) (p2 : Int32) (σ : St) {z : Int32 × St} (hz : fX2_append p0 p1 p2 σ = some z) {Q : Option Value → St → Prop} (hk : Q (some (.int z.1)) z.2) : AX G mX2_append 0 0 0 [(0, .ref (G.2.2.1 15)), (1, .int p0), (2, .int p1), (3, .int p2)] [] σ Q := by
  unfold fX2_append at hz
  refine AX.aload_n dX2_append_0 0 rfl rfl ?_
  refine AX.getIE (v := σ.1 15 3) dX2_append_1 flRX2_21 rfl rfl rfl ?_
  refine AX.if_lt (tgt := 15) dX2_append_4 rfl (fun c1 => ?_) (fun c1 => ?_)
  · replace hz := (if_pos c1).symm.trans hz
    refine AX.iconst dX2_append_15 ic_0 ?_
    exact AX.ireturn dX2_append_16 rfl nb_0 (kz (P := fun z => Q (some (.int z.1)) z.2) hz hk)
  · replace hz := (if_neg c1).symm.trans hz
    refine AX.aload_n dX2_append_7 0 rfl rfl ?_
    refine AX.getIE (v := σ.1 15 3) dX2_append_8 flRX2_21 rfl rfl rfl ?_
    refine AX.iconst dX2_append_11 ic_4 ?_
    refine AX.icmp_lt (tgt := 17) dX2_append_12 rfl (fun c2 => ?_) (fun c2 => ?_)
    · replace hz := (if_pos c2).symm.trans hz
      refine AX.aload_n dX2_append_17 0 rfl rfl ?_
      refine AX.getR dX2_append_18 flRX2_11 rfl rfl ?_
      refine AX.aload_n dX2_append_21 0 rfl rfl ?_
      refine AX.getIE (v := σ.1 15 3) dX2_append_22 flRX2_21 rfl rfl rfl ?_
      refine AX.iload_n dX2_append_25 1 rfl rfl ?_
      obtain ⟨b3, hz⟩ := ite_n hz
      refine AX.iast dX2_append_26 rfl b3 ?_
      refine AX.aload_n dX2_append_27 0 rfl rfl ?_
      refine AX.getR dX2_append_28 flRX2_15 rfl rfl ?_
      refine AX.aload_n dX2_append_31 0 rfl rfl ?_
      refine AX.getIE (v := σ.1 15 3) dX2_append_32 flRX2_21 rfl rfl rfl ?_
      refine AX.iload_n dX2_append_35 2 rfl rfl ?_
      refine AX.iast dX2_append_36 rfl b3 ?_
      refine AX.aload_n dX2_append_37 0 rfl rfl ?_
      refine AX.getR dX2_append_38 flRX2_18 rfl rfl ?_
      refine AX.aload_n dX2_append_41 0 rfl rfl ?_
      refine AX.getIE (v := σ.1 15 3) dX2_append_42 flRX2_21 rfl rfl rfl ?_
      refine AX.iload_n dX2_append_45 3 rfl rfl ?_
      refine AX.iast dX2_append_46 rfl b3 ?_
      refine AX.aload_n dX2_append_47 0 rfl rfl ?_
      refine AX.dup dX2_append_48 rfl ?_
      refine AX.getIE (v := σ.1 15 3) dX2_append_49 flRX2_21 rfl rfl rfl ?_
      refine AX.iconst dX2_append_52 ic_1 ?_
      refine AX.iadd dX2_append_53 ?_
      refine AX.putI dX2_append_54 fpRX2_21 rfl rfl (vp_nar_int _) rfl ?_
      refine AX.iconst dX2_append_57 ic_1 ?_
      exact AX.ireturn dX2_append_58 rfl nb_1 (kz (P := fun z => Q (some (.int z.1)) z.2) hz hk)
    · replace hz := (if_neg c2).symm.trans hz
      refine AX.iconst dX2_append_15 ic_0 ?_
      exact AX.ireturn dX2_append_16 rfl nb_0 (kz (P := fun z => Q (some (.int z.1)) z.2) hz hk)
theorem xX2_append {G : ag_G} (p0 : Int32) (p1 : Int32) (p2 : Int32) (σ : St) {z : Int32 × St} (hz : fX2_append p0 p1 p2 σ = some z) : AC G yX2_append mX2_append 0 0 [.ref (G.2.2.1 15), .int p0, .int p1, .int p2] σ (fun v σ1 => v = some (.int z.1) ∧ σ1 = z.2) := AC.of (plainFor_of_name (by decide)) rfl (Nat.le_of_ble_eq_true rfl) (wfX2_append p0 p1 p2 σ hz ⟨rfl, rfl⟩)
noncomputable def fX6_valueOf (p0 : Int32) (σ : St) : Option (Int32) :=
  if p0 < (0 : Int32) then some (0 : Int32) else if (9 : Int32) ≤ p0 then some (0 : Int32) else if inb p0 9 = true then some (σ.1 8 p0.toNatClampNeg) else none
theorem wfX6_valueOf {G : ag_G} (p0 : Int32) (σ : St) {z : Int32} (hz : fX6_valueOf p0 σ = some z) {Q : Option Value → St → Prop} (hk : Q (some (.int z)) σ) : AX G mX6_valueOf 0 0 0 [(0, .ref (G.2.2.1 7)), (1, .int p0)] [] σ Q := by
  unfold fX6_valueOf at hz
  refine AX.iload_n dX6_valueOf_0 1 rfl rfl ?_
  refine AX.if_lt (tgt := 22) dX6_valueOf_1 rfl (fun c1 => ?_) (fun c1 => ?_)
  · replace hz := (if_pos c1).symm.trans hz
    refine AX.iconst dX6_valueOf_22 ic_0 ?_
    exact AX.ireturn dX6_valueOf_23 rfl (vp_nar_int _) (kz (P := fun z => Q (some (.int z)) σ) hz hk)
  · replace hz := (if_neg c1).symm.trans hz
    refine AX.iload_n dX6_valueOf_4 1 rfl rfl ?_
    refine AX.aload_n dX6_valueOf_5 0 rfl rfl ?_
    refine AX.getR dX6_valueOf_6 flRX6_7 rfl rfl ?_
    refine AX.alenR dX6_valueOf_9 rfl ?_
    refine AX.icmp_ge (tgt := 22) dX6_valueOf_10 rfl (fun c2 => ?_) (fun c2 => ?_)
    · replace hz := (if_pos c2).symm.trans hz
      refine AX.iconst dX6_valueOf_22 ic_0 ?_
      exact AX.ireturn dX6_valueOf_23 rfl (vp_nar_int _) (kz (P := fun z => Q (some (.int z)) σ) hz hk)
    · replace hz := (if_neg c2).symm.trans hz
      refine AX.aload_n dX6_valueOf_13 0 rfl rfl ?_
      refine AX.getR dX6_valueOf_14 flRX6_7 rfl rfl ?_
      refine AX.iload_n dX6_valueOf_17 1 rfl rfl ?_
      obtain ⟨b3, hz⟩ := ite_n hz
      refine AX.ialdE (v := σ.1 8 p0.toNatClampNeg) dX6_valueOf_18 rfl b3 rfl ?_
      refine AX.goto (tgt := 23) dX6_valueOf_19 rfl ?_
      exact AX.ireturn dX6_valueOf_23 rfl (vp_nar_int _) (kz (P := fun z => Q (some (.int z)) σ) hz hk)
theorem xX6_valueOf {G : ag_G} (p0 : Int32) (σ : St) {z : Int32} (hz : fX6_valueOf p0 σ = some z) : AC G yX6_valueOf mX6_valueOf 0 0 [.ref (G.2.2.1 7), .int p0] σ (fun v σ1 => v = some (.int z) ∧ σ1 = σ) := AC.of (plainFor_of_name (by decide)) rfl (Nat.le_of_ble_eq_true rfl) (wfX6_valueOf p0 σ hz ⟨rfl, rfl⟩)
noncomputable def fX2_weigh_j132 (l1 : Int32) (l2 : Int32) (l3 : Int32) (l5 : Int64) (l7 : Int32) (σ : St) : Option ((Int64 × Int32) ⊕ Int64) :=
  some (.inl (l5, l7 + 1))
theorem wfX2_weigh_j132 {G : ag_G} (l1 : Int32) (l2 : Int32) (l3 : Int32) (l5 : Int64) (l7 : Int32) (σ : St) {z : (Int64 × Int32) ⊕ Int64} (hz : fX2_weigh_j132 l1 l2 l3 l5 l7 σ = some z) {Q : Option Value → St → Prop} (K : ((Int64 × Int32) ⊕ Int64) → Prop) (hback : ∀ a : Int64 × Int32, K (.inl a) → AX G mX2_weigh 1 21 6 [(0, .ref (G.2.2.1 15)), (1, .int l1), (2, .int l2), (3, .int l3), (4, .ref (G.2.2.1 7)), (5, .long a.1), (7, .int a.2)] [] σ Q) (hk : K z) : AX G mX2_weigh 1 21 132 [(0, .ref (G.2.2.1 15)), (1, .int l1), (2, .int l2), (3, .int l3), (4, .ref (G.2.2.1 7)), (5, .long l5), (7, .int l7)] [] σ Q := by
  unfold fX2_weigh_j132 at hz
  refine AX.iinc (v := l7 + 1) (ls' := [(0, .ref (G.2.2.1 15)), (1, .int l1), (2, .int l2), (3, .int l3), (4, .ref (G.2.2.1 7)), (5, .long l5), (7, .int (l7 + 1))]) 6 dX2_weigh_132 rfl (Nat.le_of_ble_eq_true rfl) (congrArg (l7 + ·) ic_1) rfl ?_
  refine AX.goto (tgt := 6) dX2_weigh_135 rfl ?_
  exact AX.sub (ls' := [(0, .ref (G.2.2.1 15)), (1, .int l1), (2, .int l2), (3, .int l3), (4, .ref (G.2.2.1 7)), (5, .long l5), (7, .int (l7 + 1))]) [0, 1, 2, 3, 4, 5, 6] rfl (hback (l5, l7 + 1) (kz (P := K) hz hk))
noncomputable def fX2_weigh_j125 (l1 : Int32) (l2 : Int32) (l3 : Int32) (l7 : Int32) (t0 : Int64) (t2 : Int32) (σ : St) : Option ((Int64 × Int32) ⊕ Int64) :=
  (fX6_valueOf t2 σ).bind fun q1 => ltb (t0 * q1.toInt64) fun x2 => fX2_weigh_j132 l1 l2 l3 x2 l7 σ
theorem wfX2_weigh_j125 {G : ag_G} (l1 : Int32) (l2 : Int32) (l3 : Int32) (l7 : Int32) (t0 : Int64) (t2 : Int32) (σ : St) {z : (Int64 × Int32) ⊕ Int64} (hz : fX2_weigh_j125 l1 l2 l3 l7 t0 t2 σ = some z) {Q : Option Value → St → Prop} (K : ((Int64 × Int32) ⊕ Int64) → Prop) (hback : ∀ a : Int64 × Int32, K (.inl a) → AX G mX2_weigh 1 21 6 [(0, .ref (G.2.2.1 15)), (1, .int l1), (2, .int l2), (3, .int l3), (4, .ref (G.2.2.1 7)), (5, .long a.1), (7, .int a.2)] [] σ Q) (hk : K z) : AX G mX2_weigh 1 21 125 [(0, .ref (G.2.2.1 15)), (1, .int l1), (2, .int l2), (3, .int l3), (4, .ref (G.2.2.1 7)), (7, .int l7)] [.int t2, .ref (G.2.2.1 7), .long t0] σ Q := by
  unfold fX2_weigh_j125 at hz
  obtain ⟨q1, hq1, hz⟩ := obind hz
  refine AX.callVw (r := 7) (As := [.int t2]) (rest := [.long t0]) (w := some (.int q1)) (st' := [.int q1, .long t0]) dX2_weigh_125 mlRX2_25 ylX6_valueOf yvX6_valueOf rfl rfl rfl (Nat.le_of_ble_eq_true rfl) ⟨Nat.le_of_ble_eq_true rfl, Nat.le_of_ble_eq_true rfl⟩ (xX6_valueOf t2 σ hq1) rfl ?_
  refine AX.i2l dX2_weigh_128 ?_
  refine AX.lmul dX2_weigh_129 ?_
  obtain ⟨x2, hx2, hz⟩ := ltb_e hz
  refine AX.topL hx2 ?_
  refine AX.lstore (ls' := [(0, .ref (G.2.2.1 15)), (1, .int l1), (2, .int l2), (3, .int l3), (4, .ref (G.2.2.1 7)), (5, .long x2), (7, .int l7)]) dX2_weigh_130 (Nat.le_of_ble_eq_true rfl) rfl ?_
  exact AX.sub (ls' := [(0, .ref (G.2.2.1 15)), (1, .int l1), (2, .int l2), (3, .int l3), (4, .ref (G.2.2.1 7)), (5, .long x2), (7, .int l7)]) [0, 1, 2, 3, 4, 5, 6] rfl (wfX2_weigh_j132 l1 l2 l3 x2 l7 σ hz K hback hk)
noncomputable def fX2_weigh_j79 (l1 : Int32) (l2 : Int32) (l3 : Int32) (l7 : Int32) (t0 : Int64) (t1 : Int64) (σ : St) : Option ((Int64 × Int32) ⊕ Int64) :=
  ltb (t0 * t1) fun x1 => fX2_weigh_j132 l1 l2 l3 x1 l7 σ
theorem wfX2_weigh_j79 {G : ag_G} (l1 : Int32) (l2 : Int32) (l3 : Int32) (l7 : Int32) (t0 : Int64) (t1 : Int64) (σ : St) {z : (Int64 × Int32) ⊕ Int64} (hz : fX2_weigh_j79 l1 l2 l3 l7 t0 t1 σ = some z) {Q : Option Value → St → Prop} (K : ((Int64 × Int32) ⊕ Int64) → Prop) (hback : ∀ a : Int64 × Int32, K (.inl a) → AX G mX2_weigh 1 21 6 [(0, .ref (G.2.2.1 15)), (1, .int l1), (2, .int l2), (3, .int l3), (4, .ref (G.2.2.1 7)), (5, .long a.1), (7, .int a.2)] [] σ Q) (hk : K z) : AX G mX2_weigh 1 21 79 [(0, .ref (G.2.2.1 15)), (1, .int l1), (2, .int l2), (3, .int l3), (4, .ref (G.2.2.1 7)), (7, .int l7)] [.long t1, .long t0] σ Q := by
  unfold fX2_weigh_j79 at hz
  refine AX.lmul dX2_weigh_79 ?_
  obtain ⟨x1, hx1, hz⟩ := ltb_e hz
  refine AX.topL hx1 ?_
  refine AX.lstore (ls' := [(0, .ref (G.2.2.1 15)), (1, .int l1), (2, .int l2), (3, .int l3), (4, .ref (G.2.2.1 7)), (5, .long x1), (7, .int l7)]) dX2_weigh_80 (Nat.le_of_ble_eq_true rfl) rfl ?_
  refine AX.goto (tgt := 132) dX2_weigh_82 rfl ?_
  exact AX.sub (ls' := [(0, .ref (G.2.2.1 15)), (1, .int l1), (2, .int l2), (3, .int l3), (4, .ref (G.2.2.1 7)), (5, .long x1), (7, .int l7)]) [0, 1, 2, 3, 4, 5, 6] rfl (wfX2_weigh_j132 l1 l2 l3 x1 l7 σ hz K hback hk)
noncomputable def fX2_weigh_b6 (l1 : Int32) (l2 : Int32) (l3 : Int32) (l5 : Int64) (l7 : Int32) (σ : St) : Option ((Int64 × Int32) ⊕ Int64) :=
  if (σ.1 15 3) ≤ l7 then some (.inr l5) else if (4 : Int32) ≤ l7 then some (.inr l5) else if inb l7 4 = true then if (σ.1 16 l7.toNatClampNeg) = l1 then if (σ.1 17 l7.toNatClampNeg) = (-1 : Int32) then (fX6_valueOf (3 : Int32) σ).bind fun q10 => if (σ.1 18 l7.toNatClampNeg) = l2 then fX2_weigh_j79 l1 l2 l3 l7 l5 q10.toInt64 σ else fX2_weigh_j79 l1 l2 l3 l7 l5 (((16 : Int32) - q10).toInt64) σ else if l3 = (-1 : Int32) then (fX6_valueOf (2 : Int32) σ).bind fun q8 => ltb (l5 * q8.toInt64) fun x9 => fX2_weigh_j132 l1 l2 l3 x9 l7 σ else if l3 = (σ.1 17 l7.toNatClampNeg) then fX2_weigh_j125 l1 l2 l3 l7 l5 0 σ else fX2_weigh_j125 l1 l2 l3 l7 l5 1 σ else fX2_weigh_j132 l1 l2 l3 l5 l7 σ else none
theorem wfX2_weigh_b6 {G : ag_G} (l1 : Int32) (l2 : Int32) (l3 : Int32) (l5 : Int64) (l7 : Int32) (σ : St) {z : (Int64 × Int32) ⊕ Int64} (hz : fX2_weigh_b6 l1 l2 l3 l5 l7 σ = some z) {Q : Option Value → St → Prop} (K : ((Int64 × Int32) ⊕ Int64) → Prop) (hback : ∀ a : Int64 × Int32, K (.inl a) → AX G mX2_weigh 1 21 6 [(0, .ref (G.2.2.1 15)), (1, .int l1), (2, .int l2), (3, .int l3), (4, .ref (G.2.2.1 7)), (5, .long a.1), (7, .int a.2)] [] σ Q) (hexit0 : ∀ a : Int64, K (.inr a) → AX G mX2_weigh 1 21 138 [(5, .long a)] [] σ Q) (hk : K z) : AX G mX2_weigh 1 21 6 [(0, .ref (G.2.2.1 15)), (1, .int l1), (2, .int l2), (3, .int l3), (4, .ref (G.2.2.1 7)), (5, .long l5), (7, .int l7)] [] σ Q := by
  unfold fX2_weigh_b6 at hz
  refine AX.iload dX2_weigh_6 6 rfl ?_
  refine AX.aload_n dX2_weigh_8 0 rfl rfl ?_
  refine AX.getIE (v := σ.1 15 3) dX2_weigh_9 flRX2_21 rfl rfl rfl ?_
  refine AX.icmp_ge (tgt := 138) dX2_weigh_12 rfl (fun c1 => ?_) (fun c1 => ?_)
  · replace hz := (if_pos c1).symm.trans hz
    exact AX.sub (ls' := [(5, .long l5)]) [5] rfl (hexit0 l5 (kz (P := K) hz hk))
  · replace hz := (if_neg c1).symm.trans hz
    refine AX.iload dX2_weigh_15 6 rfl ?_
    refine AX.iconst dX2_weigh_17 ic_4 ?_
    refine AX.icmp_ge (tgt := 138) dX2_weigh_18 rfl (fun c2 => ?_) (fun c2 => ?_)
    · replace hz := (if_pos c2).symm.trans hz
      exact AX.sub (ls' := [(5, .long l5)]) [5] rfl (hexit0 l5 (kz (P := K) hz hk))
    · replace hz := (if_neg c2).symm.trans hz
      refine AX.aload_n dX2_weigh_21 0 rfl rfl ?_
      refine AX.getR dX2_weigh_22 flRX2_11 rfl rfl ?_
      refine AX.iload dX2_weigh_25 6 rfl ?_
      obtain ⟨b3, hz⟩ := ite_n hz
      refine AX.ialdE (v := σ.1 16 l7.toNatClampNeg) dX2_weigh_27 rfl b3 rfl ?_
      refine AX.iload_n dX2_weigh_28 1 rfl rfl ?_
      refine AX.icmp_eq (tgt := 35) dX2_weigh_29 rfl (fun c4 => ?_) (fun c4 => ?_)
      · replace hz := (if_pos c4).symm.trans hz
        refine AX.aload_n dX2_weigh_35 0 rfl rfl ?_
        refine AX.getR dX2_weigh_36 flRX2_15 rfl rfl ?_
        refine AX.iload dX2_weigh_39 6 rfl ?_
        refine AX.ialdE (v := σ.1 17 l7.toNatClampNeg) dX2_weigh_41 rfl b3 rfl ?_
        refine AX.iconst dX2_weigh_42 ic_m1 ?_
        refine AX.icmp_ne (tgt := 85) dX2_weigh_43 rfl (fun c5 => ?_) (fun c5 => ?_)
        · replace hz := (if_neg c5).symm.trans hz
          refine AX.iload_n dX2_weigh_85 3 rfl rfl ?_
          refine AX.iconst dX2_weigh_86 ic_m1 ?_
          refine AX.icmp_ne (tgt := 105) dX2_weigh_87 rfl (fun c6 => ?_) (fun c6 => ?_)
          · replace hz := (if_neg c6).symm.trans hz
            refine AX.lload dX2_weigh_105 5 rfl ?_
            refine AX.aload dX2_weigh_107 4 rfl ?_
            refine AX.iload_n dX2_weigh_109 3 rfl rfl ?_
            refine AX.aload_n dX2_weigh_110 0 rfl rfl ?_
            refine AX.getR dX2_weigh_111 flRX2_15 rfl rfl ?_
            refine AX.iload dX2_weigh_114 6 rfl ?_
            refine AX.ialdE (v := σ.1 17 l7.toNatClampNeg) dX2_weigh_116 rfl b3 rfl ?_
            refine AX.icmp_ne (tgt := 124) dX2_weigh_117 rfl (fun c7 => ?_) (fun c7 => ?_)
            · replace hz := (if_neg c7).symm.trans hz
              refine AX.iconst dX2_weigh_124 ic_1 ?_
              exact AX.sub (ls' := [(0, .ref (G.2.2.1 15)), (1, .int l1), (2, .int l2), (3, .int l3), (4, .ref (G.2.2.1 7)), (7, .int l7)]) [0, 1, 2, 3, 4, 6] rfl (wfX2_weigh_j125 l1 l2 l3 l7 l5 1 σ hz K hback hk)
            · replace hz := (if_pos c7).symm.trans hz
              refine AX.iconst dX2_weigh_120 ic_0 ?_
              refine AX.goto (tgt := 125) dX2_weigh_121 rfl ?_
              exact AX.sub (ls' := [(0, .ref (G.2.2.1 15)), (1, .int l1), (2, .int l2), (3, .int l3), (4, .ref (G.2.2.1 7)), (7, .int l7)]) [0, 1, 2, 3, 4, 6] rfl (wfX2_weigh_j125 l1 l2 l3 l7 l5 0 σ hz K hback hk)
          · replace hz := (if_pos c6).symm.trans hz
            refine AX.lload dX2_weigh_90 5 rfl ?_
            refine AX.aload dX2_weigh_92 4 rfl ?_
            refine AX.iconst dX2_weigh_94 ic_2 ?_
            obtain ⟨q8, hq8, hz⟩ := obind hz
            refine AX.callVw (r := 7) (As := [.int 2]) (rest := [.long l5]) (w := some (.int q8)) (st' := [.int q8, .long l5]) dX2_weigh_95 mlRX2_25 ylX6_valueOf yvX6_valueOf rfl rfl rfl (Nat.le_of_ble_eq_true rfl) ⟨Nat.le_of_ble_eq_true rfl, Nat.le_of_ble_eq_true rfl⟩ (xX6_valueOf (2 : Int32) σ hq8) rfl ?_
            refine AX.i2l dX2_weigh_98 ?_
            refine AX.lmul dX2_weigh_99 ?_
            obtain ⟨x9, hx9, hz⟩ := ltb_e hz
            refine AX.topL hx9 ?_
            refine AX.lstore (ls' := [(0, .ref (G.2.2.1 15)), (1, .int l1), (2, .int l2), (3, .int l3), (4, .ref (G.2.2.1 7)), (5, .long x9), (7, .int l7)]) dX2_weigh_100 (Nat.le_of_ble_eq_true rfl) rfl ?_
            refine AX.goto (tgt := 132) dX2_weigh_102 rfl ?_
            exact AX.sub (ls' := [(0, .ref (G.2.2.1 15)), (1, .int l1), (2, .int l2), (3, .int l3), (4, .ref (G.2.2.1 7)), (5, .long x9), (7, .int l7)]) [0, 1, 2, 3, 4, 5, 6] rfl (wfX2_weigh_j132 l1 l2 l3 x9 l7 σ hz K hback hk)
        · replace hz := (if_pos c5).symm.trans hz
          refine AX.aload dX2_weigh_46 4 rfl ?_
          refine AX.iconst dX2_weigh_48 ic_3 ?_
          obtain ⟨q10, hq10, hz⟩ := obind hz
          refine AX.callVw (r := 7) (As := [.int 3]) (rest := []) (w := some (.int q10)) (st' := [.int q10]) dX2_weigh_49 mlRX2_25 ylX6_valueOf yvX6_valueOf rfl rfl rfl (Nat.le_of_ble_eq_true rfl) ⟨Nat.le_of_ble_eq_true rfl, Nat.le_of_ble_eq_true rfl⟩ (xX6_valueOf (3 : Int32) σ hq10) rfl ?_
          refine AX.istore (ls' := [(0, .ref (G.2.2.1 15)), (1, .int l1), (2, .int l2), (3, .int l3), (4, .ref (G.2.2.1 7)), (5, .long l5), (7, .int l7), (8, .int q10)]) dX2_weigh_52 (Nat.le_of_ble_eq_true rfl) rfl ?_
          refine AX.lload dX2_weigh_54 5 rfl ?_
          refine AX.aload_n dX2_weigh_56 0 rfl rfl ?_
          refine AX.getR dX2_weigh_57 flRX2_18 rfl rfl ?_
          refine AX.iload dX2_weigh_60 6 rfl ?_
          refine AX.ialdE (v := σ.1 18 l7.toNatClampNeg) dX2_weigh_62 rfl b3 rfl ?_
          refine AX.iload_n dX2_weigh_63 2 rfl rfl ?_
          refine AX.icmp_ne (tgt := 73) dX2_weigh_64 rfl (fun c11 => ?_) (fun c11 => ?_)
          · replace hz := (if_neg c11).symm.trans hz
            refine AX.bipush dX2_weigh_73 bp_16 ?_
            refine AX.iload dX2_weigh_75 7 rfl ?_
            refine AX.isub dX2_weigh_77 ?_
            refine AX.i2l dX2_weigh_78 ?_
            exact AX.sub (ls' := [(0, .ref (G.2.2.1 15)), (1, .int l1), (2, .int l2), (3, .int l3), (4, .ref (G.2.2.1 7)), (7, .int l7)]) [0, 1, 2, 3, 4, 6] rfl (wfX2_weigh_j79 l1 l2 l3 l7 l5 (((16 : Int32) - q10).toInt64) σ hz K hback hk)
          · replace hz := (if_pos c11).symm.trans hz
            refine AX.iload dX2_weigh_67 7 rfl ?_
            refine AX.i2l dX2_weigh_69 ?_
            refine AX.goto (tgt := 79) dX2_weigh_70 rfl ?_
            exact AX.sub (ls' := [(0, .ref (G.2.2.1 15)), (1, .int l1), (2, .int l2), (3, .int l3), (4, .ref (G.2.2.1 7)), (7, .int l7)]) [0, 1, 2, 3, 4, 6] rfl (wfX2_weigh_j79 l1 l2 l3 l7 l5 q10.toInt64 σ hz K hback hk)
      · replace hz := (if_neg c4).symm.trans hz
        refine AX.goto (tgt := 132) dX2_weigh_32 rfl ?_
        exact AX.sub (ls' := [(0, .ref (G.2.2.1 15)), (1, .int l1), (2, .int l2), (3, .int l3), (4, .ref (G.2.2.1 7)), (5, .long l5), (7, .int l7)]) [0, 1, 2, 3, 4, 5, 6] rfl (wfX2_weigh_j132 l1 l2 l3 l5 l7 σ hz K hback hk)
noncomputable def fX2_weigh (p0 : Int32) (p1 : Int32) (p2 : Int32) (σ : St) : Option (Int64) :=
  (lpc (fun s => fX2_weigh_b6 p0 p1 p2 s.1 s.2 σ) (1, 0)).bind fun r1 => some r1
theorem wfX2_weigh {G : ag_G} (p0 : Int32) (p1 : Int32) (p2 : Int32) (σ : St) {z : Int64} (hz : fX2_weigh p0 p1 p2 σ = some z) {Q : Option Value → St → Prop} (hk : Q (some (.long z)) σ) : AX G mX2_weigh 1 21 0 [(0, .ref (G.2.2.1 15)), (1, .int p0), (2, .int p1), (3, .int p2), (4, .ref (G.2.2.1 7))] [] σ Q := by
  unfold fX2_weigh at hz
  refine AX.lconst dX2_weigh_0 lc_1 ?_
  refine AX.lstore (ls' := [(0, .ref (G.2.2.1 15)), (1, .int p0), (2, .int p1), (3, .int p2), (4, .ref (G.2.2.1 7)), (5, .long 1)]) dX2_weigh_1 (Nat.le_of_ble_eq_true rfl) rfl ?_
  refine AX.iconst dX2_weigh_3 ic_0 ?_
  refine AX.istore (ls' := [(0, .ref (G.2.2.1 15)), (1, .int p0), (2, .int p1), (3, .int p2), (4, .ref (G.2.2.1 7)), (5, .long 1), (7, .int 0)]) dX2_weigh_4 (Nat.le_of_ble_eq_true rfl) rfl ?_
  obtain ⟨r1, hr1, hz⟩ := obind hz
  refine AX.sub (ls' := [(0, .ref (G.2.2.1 15)), (1, .int p0), (2, .int p1), (3, .int p2), (4, .ref (G.2.2.1 7)), (5, .long 1), (7, .int 0)]) [0, 1, 2, 3, 4, 5, 6] rfl ?_
  refine lpc_ind (s := (1, 0)) (r := r1) (fun s => AX G mX2_weigh 1 21 6 [(0, .ref (G.2.2.1 15)), (1, .int p0), (2, .int p1), (3, .int p2), (4, .ref (G.2.2.1 7)), (5, .long s.1), (7, .int s.2)] [] σ Q) (fun a : Int64 => AX G mX2_weigh 1 21 138 [(5, .long a)] [] σ Q) hr1 (fun s z hb hK => wfX2_weigh_b6 p0 p1 p2 s.1 s.2 σ hb (Sum.elim (fun s => AX G mX2_weigh 1 21 6 [(0, .ref (G.2.2.1 15)), (1, .int p0), (2, .int p1), (3, .int p2), (4, .ref (G.2.2.1 7)), (5, .long s.1), (7, .int s.2)] [] σ Q) (fun a : Int64 => AX G mX2_weigh 1 21 138 [(5, .long a)] [] σ Q)) (fun _ h9 => h9) (fun _ h9 => h9) hK) ?_
  refine AX.lload dX2_weigh_138 0 rfl ?_
  exact AX.lreturn dX2_weigh_140 rfl (kz (P := fun z => Q (some (.long z)) σ) hz hk)
theorem xX2_weigh {G : ag_G} (p0 : Int32) (p1 : Int32) (p2 : Int32) (σ : St) {z : Int64} (hz : fX2_weigh p0 p1 p2 σ = some z) : AC G yX2_weigh mX2_weigh 1 21 [.ref (G.2.2.1 15), .int p0, .int p1, .int p2, .ref (G.2.2.1 7)] σ (fun v σ1 => v = some (.long z) ∧ σ1 = σ) := AC.of (plainFor_of_name (by decide)) rfl (Nat.le_of_ble_eq_true rfl) (wfX2_weigh p0 p1 p2 σ hz ⟨rfl, rfl⟩)
noncomputable def fX3_missedOf (r : Nat) (p0 : Int32) (σ : St) : Option (Int32) :=
  if isO r = true then (fX10_itemAt (r + 1) p0 σ).bind fun q1 => some q1 else none
theorem wfX3_missedOf {G : ag_G} (r : Nat) (p0 : Int32) (σ : St) {z : Int32} (hz : fX3_missedOf r p0 σ = some z) {Q : Option Value → St → Prop} (hk : Q (some (.int z)) σ) : AX G mX3_missedOf 1 21 0 [(0, .ref (G.2.2.1 r)), (1, .int p0)] [] σ Q := by
  unfold fX3_missedOf at hz
  obtain ⟨hrt, hz⟩ := ite_n hz
  refine AX.aload_n dX3_missedOf_0 0 rfl rfl ?_
  refine AX.getR dX3_missedOf_1 flRX3_7 (isO_tw hrt) rfl ?_
  refine AX.iload_n dX3_missedOf_4 1 rfl rfl ?_
  obtain ⟨q1, hq1, hz⟩ := obind hz
  refine AX.callSw (As := [.ref (G.2.2.1 (r + 1)), .int p0]) (rest := []) (w := some (.int q1)) (st' := [.int q1]) dX3_missedOf_5 mlRX3_16 ylX10_itemAt ysX10_itemAt rfl rfl (Nat.le_of_ble_eq_true rfl) ⟨Nat.le_of_ble_eq_true rfl, Nat.le_of_ble_eq_true rfl⟩ (xX10_itemAt (r + 1) p0 σ hq1) rfl ?_
  exact AX.ireturn dX3_missedOf_8 rfl (vp_nar_int _) (kz (P := fun z => Q (some (.int z)) σ) hz hk)
theorem xX3_missedOf {G : ag_G} (r : Nat) (p0 : Int32) (σ : St) {z : Int32} (hz : fX3_missedOf r p0 σ = some z) : AC G yX3_missedOf mX3_missedOf 1 21 [.ref (G.2.2.1 r), .int p0] σ (fun v σ1 => v = some (.int z) ∧ σ1 = σ) := AC.of (plainFor_of_name (by decide)) rfl (Nat.le_of_ble_eq_true rfl) (wfX3_missedOf r p0 σ hz ⟨rfl, rfl⟩)
noncomputable def fX3_doubledOf (r : Nat) (p0 : Int32) (σ : St) : Option (Int32) :=
  if isO r = true then (fX10_itemAt (r + 2) p0 σ).bind fun q1 => some q1 else none
theorem wfX3_doubledOf {G : ag_G} (r : Nat) (p0 : Int32) (σ : St) {z : Int32} (hz : fX3_doubledOf r p0 σ = some z) {Q : Option Value → St → Prop} (hk : Q (some (.int z)) σ) : AX G mX3_doubledOf 1 21 0 [(0, .ref (G.2.2.1 r)), (1, .int p0)] [] σ Q := by
  unfold fX3_doubledOf at hz
  obtain ⟨hrt, hz⟩ := ite_n hz
  refine AX.aload_n dX3_doubledOf_0 0 rfl rfl ?_
  refine AX.getR dX3_doubledOf_1 flRX3_13 (isO_tw hrt) rfl ?_
  refine AX.iload_n dX3_doubledOf_4 1 rfl rfl ?_
  obtain ⟨q1, hq1, hz⟩ := obind hz
  refine AX.callSw (As := [.ref (G.2.2.1 (r + 2)), .int p0]) (rest := []) (w := some (.int q1)) (st' := [.int q1]) dX3_doubledOf_5 mlRX3_16 ylX10_itemAt ysX10_itemAt rfl rfl (Nat.le_of_ble_eq_true rfl) ⟨Nat.le_of_ble_eq_true rfl, Nat.le_of_ble_eq_true rfl⟩ (xX10_itemAt (r + 2) p0 σ hq1) rfl ?_
  exact AX.ireturn dX3_doubledOf_8 rfl (vp_nar_int _) (kz (P := fun z => Q (some (.int z)) σ) hz hk)
theorem xX3_doubledOf {G : ag_G} (r : Nat) (p0 : Int32) (σ : St) {z : Int32} (hz : fX3_doubledOf r p0 σ = some z) : AC G yX3_doubledOf mX3_doubledOf 1 21 [.ref (G.2.2.1 r), .int p0] σ (fun v σ1 => v = some (.int z) ∧ σ1 = σ) := AC.of (plainFor_of_name (by decide)) rfl (Nat.le_of_ble_eq_true rfl) (wfX3_doubledOf r p0 σ hz ⟨rfl, rfl⟩)
noncomputable def fX3_become (r : Nat) (p0 : Int32) (p1 : Int32) (p2 : Int32) (σ : St) : Option (St) :=
  if isO r = true then if p0 < (0 : Int32) then some σ else if (3 : Int32) ≤ p0 then some σ else if (3 : Int32) ≤ p0 then some σ else if inb p0 3 = true then some (sI (sI σ (r + 1) p0.toNatClampNeg p1) (r + 2) p0.toNatClampNeg p2) else none else none
theorem wfX3_become {G : ag_G} (r : Nat) (p0 : Int32) (p1 : Int32) (p2 : Int32) (σ : St) {z : St} (hz : fX3_become r p0 p1 p2 σ = some z) {Q : Option Value → St → Prop} (hk : Q (none) z) : AX G mX3_become 0 0 0 [(0, .ref (G.2.2.1 r)), (1, .int p0), (2, .int p1), (3, .int p2)] [] σ Q := by
  unfold fX3_become at hz
  obtain ⟨hrt, hz⟩ := ite_n hz
  refine AX.iload_n dX3_become_0 1 rfl rfl ?_
  refine AX.if_lt (tgt := 36) dX3_become_1 rfl (fun c1 => ?_) (fun c1 => ?_)
  · replace hz := (if_pos c1).symm.trans hz
    exact AX.vreturn dX3_become_36 rfl (kz (P := fun z => Q (none) z) hz hk)
  · replace hz := (if_neg c1).symm.trans hz
    refine AX.iload_n dX3_become_4 1 rfl rfl ?_
    refine AX.aload_n dX3_become_5 0 rfl rfl ?_
    refine AX.getR dX3_become_6 flRX3_7 (isO_tw hrt) rfl ?_
    refine AX.alenR dX3_become_9 (wi_ri (isO_wi1 hrt)) ?_
    refine AX.icmp_ge (tgt := 36) dX3_become_10 rfl (fun c2 => ?_) (fun c2 => ?_)
    · replace hz := (if_pos c2).symm.trans hz
      exact AX.vreturn dX3_become_36 rfl (kz (P := fun z => Q (none) z) hz hk)
    · replace hz := (if_neg c2).symm.trans hz
      refine AX.iload_n dX3_become_13 1 rfl rfl ?_
      refine AX.aload_n dX3_become_14 0 rfl rfl ?_
      refine AX.getR dX3_become_15 flRX3_13 (isO_tw hrt) rfl ?_
      refine AX.alenR dX3_become_18 (wi_ri (isO_wi2 hrt)) ?_
      refine AX.icmp_ge (tgt := 36) dX3_become_19 rfl (fun c3 => ?_) (fun c3 => ?_)
      · replace hz := (if_pos c3).symm.trans hz
        exact AX.vreturn dX3_become_36 rfl (kz (P := fun z => Q (none) z) hz hk)
      · replace hz := (if_neg c3).symm.trans hz
        refine AX.aload_n dX3_become_22 0 rfl rfl ?_
        refine AX.getR dX3_become_23 flRX3_7 (isO_tw hrt) rfl ?_
        refine AX.iload_n dX3_become_26 1 rfl rfl ?_
        refine AX.iload_n dX3_become_27 2 rfl rfl ?_
        obtain ⟨b4, hz⟩ := ite_n hz
        refine AX.iast dX3_become_28 (isO_wi1 hrt) b4 ?_
        refine AX.aload_n dX3_become_29 0 rfl rfl ?_
        refine AX.getR dX3_become_30 flRX3_13 (isO_tw hrt) rfl ?_
        refine AX.iload_n dX3_become_33 1 rfl rfl ?_
        refine AX.iload_n dX3_become_34 3 rfl rfl ?_
        refine AX.iast dX3_become_35 (isO_wi2 hrt) b4 ?_
        exact AX.vreturn dX3_become_36 rfl (kz (P := fun z => Q (none) z) hz hk)
theorem xX3_become {G : ag_G} (r : Nat) (p0 : Int32) (p1 : Int32) (p2 : Int32) (σ : St) {z : St} (hz : fX3_become r p0 p1 p2 σ = some z) : AC G yX3_become mX3_become 0 0 [.ref (G.2.2.1 r), .int p0, .int p1, .int p2] σ (fun v σ1 => v = none ∧ σ1 = z) := AC.of (plainFor_of_name (by decide)) rfl (Nat.le_of_ble_eq_true rfl) (wfX3_become r p0 p1 p2 σ hz ⟨rfl, rfl⟩)
noncomputable def fX4_byteAt (p0 : Int32) (σ : St) : Option (Int32) :=
  if (σ.1 1 5) ≤ p0 then some (-1 : Int32) else (fX10_itemAt 2 p0 σ).bind fun q2 => some q2
theorem wfX4_byteAt {G : ag_G} (p0 : Int32) (σ : St) {z : Int32} (hz : fX4_byteAt p0 σ = some z) {Q : Option Value → St → Prop} (hk : Q (some (.int z)) σ) : AX G mX4_byteAt 1 21 0 [(0, .ref (G.2.2.1 1)), (1, .int p0)] [] σ Q := by
  unfold fX4_byteAt at hz
  refine AX.iload_n dX4_byteAt_0 1 rfl rfl ?_
  refine AX.aload_n dX4_byteAt_1 0 rfl rfl ?_
  refine AX.getIE (v := σ.1 1 5) dX4_byteAt_2 flRX4_27 rfl rfl rfl ?_
  refine AX.icmp_ge (tgt := 19) dX4_byteAt_5 rfl (fun c1 => ?_) (fun c1 => ?_)
  · replace hz := (if_pos c1).symm.trans hz
    refine AX.iconst dX4_byteAt_19 ic_m1 ?_
    exact AX.ireturn dX4_byteAt_20 rfl (vp_nar_int _) (kz (P := fun z => Q (some (.int z)) σ) hz hk)
  · replace hz := (if_neg c1).symm.trans hz
    refine AX.aload_n dX4_byteAt_8 0 rfl rfl ?_
    refine AX.getR dX4_byteAt_9 flRX4_11 rfl rfl ?_
    refine AX.iload_n dX4_byteAt_12 1 rfl rfl ?_
    obtain ⟨q2, hq2, hz⟩ := obind hz
    refine AX.callSw (As := [.ref (G.2.2.1 2), .int p0]) (rest := []) (w := some (.int q2)) (st' := [.int q2]) dX4_byteAt_13 mlRX4_56 ylX10_itemAt ysX10_itemAt rfl rfl (Nat.le_of_ble_eq_true rfl) ⟨Nat.le_of_ble_eq_true rfl, Nat.le_of_ble_eq_true rfl⟩ (xX10_itemAt 2 p0 σ hq2) rfl ?_
    refine AX.goto (tgt := 20) dX4_byteAt_16 rfl ?_
    exact AX.ireturn dX4_byteAt_20 rfl (vp_nar_int _) (kz (P := fun z => Q (some (.int z)) σ) hz hk)
theorem xX4_byteAt {G : ag_G} (p0 : Int32) (σ : St) {z : Int32} (hz : fX4_byteAt p0 σ = some z) : AC G yX4_byteAt mX4_byteAt 1 21 [.ref (G.2.2.1 1), .int p0] σ (fun v σ1 => v = some (.int z) ∧ σ1 = σ) := AC.of (plainFor_of_name (by decide)) rfl (Nat.le_of_ble_eq_true rfl) (wfX4_byteAt p0 σ hz ⟨rfl, rfl⟩)
noncomputable def fX10_within (p0 : Int32) (p1 : Int32) (p2 : Int32) : Option (Int32) :=
  if p0 < p1 then some (0 : Int32) else if p2 < p0 then some (0 : Int32) else some (1 : Int32)
theorem wfX10_within {G : ag_G} (p0 : Int32) (p1 : Int32) (p2 : Int32) (σ : St) {z : Int32} (hz : fX10_within p0 p1 p2 = some z) {Q : Option Value → St → Prop} (hk : Q (some (.int z)) σ) : AX G mX10_within 0 0 0 [(0, .int p0), (1, .int p1), (2, .int p2)] [] σ Q := by
  unfold fX10_within at hz
  refine AX.iload_n dX10_within_0 0 rfl rfl ?_
  refine AX.iload_n dX10_within_1 1 rfl rfl ?_
  refine AX.icmp_lt (tgt := 14) dX10_within_2 rfl (fun c1 => ?_) (fun c1 => ?_)
  · replace hz := (if_pos c1).symm.trans hz
    refine AX.iconst dX10_within_14 ic_0 ?_
    exact AX.ireturn dX10_within_15 rfl nb_0 (kz (P := fun z => Q (some (.int z)) σ) hz hk)
  · replace hz := (if_neg c1).symm.trans hz
    refine AX.iload_n dX10_within_5 0 rfl rfl ?_
    refine AX.iload_n dX10_within_6 2 rfl rfl ?_
    refine AX.icmp_gt (tgt := 14) dX10_within_7 rfl (fun c2 => ?_) (fun c2 => ?_)
    · replace hz := (if_pos c2).symm.trans hz
      refine AX.iconst dX10_within_14 ic_0 ?_
      exact AX.ireturn dX10_within_15 rfl nb_0 (kz (P := fun z => Q (some (.int z)) σ) hz hk)
    · replace hz := (if_neg c2).symm.trans hz
      refine AX.iconst dX10_within_10 ic_1 ?_
      refine AX.goto (tgt := 15) dX10_within_11 rfl ?_
      exact AX.ireturn dX10_within_15 rfl nb_1 (kz (P := fun z => Q (some (.int z)) σ) hz hk)
theorem xX10_within {G : ag_G} (p0 : Int32) (p1 : Int32) (p2 : Int32) (σ : St) {z : Int32} (hz : fX10_within p0 p1 p2 = some z) : AC G yX10_within mX10_within 0 0 [.int p0, .int p1, .int p2] σ (fun v σ1 => v = some (.int z) ∧ σ1 = σ) := AC.of (plainFor_of_name (by decide)) rfl (Nat.le_of_ble_eq_true rfl) (wfX10_within p0 p1 p2 σ hz ⟨rfl, rfl⟩)
noncomputable def fX4_faultAt (p0 : Int32) (σ : St) : Option (Int32 × St) :=
  some (p0, (sI σ 1 9 p0))
theorem wfX4_faultAt {G : ag_G} (p0 : Int32) (σ : St) {z : Int32 × St} (hz : fX4_faultAt p0 σ = some z) {Q : Option Value → St → Prop} (hk : Q (some (.int z.1)) z.2) : AX G mX4_faultAt 0 0 0 [(0, .ref (G.2.2.1 1)), (1, .int p0)] [] σ Q := by
  unfold fX4_faultAt at hz
  refine AX.aload_n dX4_faultAt_0 0 rfl rfl ?_
  refine AX.iload_n dX4_faultAt_1 1 rfl rfl ?_
  refine AX.putI dX4_faultAt_2 fpRX4_40 rfl rfl (vp_nar_int _) rfl ?_
  refine AX.iload_n dX4_faultAt_5 1 rfl rfl ?_
  exact AX.ireturn dX4_faultAt_6 rfl (vp_nar_int _) (kz (P := fun z => Q (some (.int z.1)) z.2) hz hk)
theorem xX4_faultAt {G : ag_G} (p0 : Int32) (σ : St) {z : Int32 × St} (hz : fX4_faultAt p0 σ = some z) : AC G yX4_faultAt mX4_faultAt 0 0 [.ref (G.2.2.1 1), .int p0] σ (fun v σ1 => v = some (.int z.1) ∧ σ1 = z.2) := AC.of (plainFor_of_name (by decide)) rfl (Nat.le_of_ble_eq_true rfl) (wfX4_faultAt p0 σ hz ⟨rfl, rfl⟩)
noncomputable def fJ9_max_7cf53 (p0 : Int32) (p1 : Int32) : Option (Int32) :=
  if p0 < p1 then some p1 else some p0
theorem wfJ9_max_7cf53 {G : ag_G} (p0 : Int32) (p1 : Int32) (σ : St) {z : Int32} (hz : fJ9_max_7cf53 p0 p1 = some z) {Q : Option Value → St → Prop} (hk : Q (some (.int z)) σ) : AX G mJ9_max_7cf53 0 0 0 [(0, .int p0), (1, .int p1)] [] σ Q := by
  unfold fJ9_max_7cf53 at hz
  refine AX.iload_n dJ9_max_7cf53_0 0 rfl rfl ?_
  refine AX.iload_n dJ9_max_7cf53_1 1 rfl rfl ?_
  refine AX.icmp_lt (tgt := 9) dJ9_max_7cf53_2 rfl (fun c1 => ?_) (fun c1 => ?_)
  · replace hz := (if_pos c1).symm.trans hz
    refine AX.iload_n dJ9_max_7cf53_9 1 rfl rfl ?_
    exact AX.ireturn dJ9_max_7cf53_10 rfl (vp_nar_int _) (kz (P := fun z => Q (some (.int z)) σ) hz hk)
  · replace hz := (if_neg c1).symm.trans hz
    refine AX.iload_n dJ9_max_7cf53_5 0 rfl rfl ?_
    refine AX.goto (tgt := 10) dJ9_max_7cf53_6 rfl ?_
    exact AX.ireturn dJ9_max_7cf53_10 rfl (vp_nar_int _) (kz (P := fun z => Q (some (.int z)) σ) hz hk)
theorem xJ9_max_7cf53 {G : ag_G} (p0 : Int32) (p1 : Int32) (σ : St) {z : Int32} (hz : fJ9_max_7cf53 p0 p1 = some z) : AC G yJ9_max_7cf53 mJ9_max_7cf53 0 0 [.int p0, .int p1] σ (fun v σ1 => v = some (.int z) ∧ σ1 = σ) := AC.of pf_max rfl (Nat.le_of_ble_eq_true rfl) (wfJ9_max_7cf53 p0 p1 σ hz ⟨rfl, rfl⟩)
noncomputable def fX4_addBars_b22 (l1 : Int32) (l2 : Int32) (l3 : Int32) (σ : St) : Option ((Int32 × St) ⊕ St) :=
  if ((σ.1 1 6) + l1) ≤ l3 then some (.inr σ) else if (99 : Int32) ≤ l3 then some (.inr σ) else if inb l3 99 = true then some (.inl (l3 + 1, (sI (sI (sI σ 3 l3.toNatClampNeg l2) 4 l3.toNatClampNeg (-1)) 5 l3.toNatClampNeg (-1)))) else none
theorem wfX4_addBars_b22 {G : ag_G} (l1 : Int32) (l2 : Int32) (l3 : Int32) (σ : St) {z : (Int32 × St) ⊕ St} (hz : fX4_addBars_b22 l1 l2 l3 σ = some z) {Q : Option Value → St → Prop} (K : ((Int32 × St) ⊕ St) → Prop) (hback : ∀ a : Int32 × St, K (.inl a) → AX G mX4_addBars 1 21 22 [(0, .ref (G.2.2.1 1)), (1, .int l1), (2, .int l2), (3, .int a.1)] [] a.2 Q) (hexit0 : ∀ a : St, K (.inr a) → AX G mX4_addBars 1 21 65 [(0, .ref (G.2.2.1 1)), (1, .int l1)] [] a Q) (hk : K z) : AX G mX4_addBars 1 21 22 [(0, .ref (G.2.2.1 1)), (1, .int l1), (2, .int l2), (3, .int l3)] [] σ Q := by
  unfold fX4_addBars_b22 at hz
  refine AX.iload_n dX4_addBars_22 3 rfl rfl ?_
  refine AX.aload_n dX4_addBars_23 0 rfl rfl ?_
  refine AX.getIE (v := σ.1 1 6) dX4_addBars_24 flRX4_31 rfl rfl rfl ?_
  refine AX.iload_n dX4_addBars_27 1 rfl rfl ?_
  refine AX.iadd dX4_addBars_28 ?_
  refine AX.icmp_ge (tgt := 65) dX4_addBars_29 rfl (fun c1 => ?_) (fun c1 => ?_)
  · replace hz := (if_pos c1).symm.trans hz
    exact AX.sub (ls' := [(0, .ref (G.2.2.1 1)), (1, .int l1)]) [0, 1] rfl (hexit0 σ (kz (P := K) hz hk))
  · replace hz := (if_neg c1).symm.trans hz
    refine AX.iload_n dX4_addBars_32 3 rfl rfl ?_
    refine AX.bipush dX4_addBars_33 bp_99 ?_
    refine AX.icmp_ge (tgt := 65) dX4_addBars_35 rfl (fun c2 => ?_) (fun c2 => ?_)
    · replace hz := (if_pos c2).symm.trans hz
      exact AX.sub (ls' := [(0, .ref (G.2.2.1 1)), (1, .int l1)]) [0, 1] rfl (hexit0 σ (kz (P := K) hz hk))
    · replace hz := (if_neg c2).symm.trans hz
      refine AX.aload_n dX4_addBars_38 0 rfl rfl ?_
      refine AX.getR dX4_addBars_39 flRX4_15 rfl rfl ?_
      refine AX.iload_n dX4_addBars_42 3 rfl rfl ?_
      refine AX.iload_n dX4_addBars_43 2 rfl rfl ?_
      obtain ⟨b3, hz⟩ := ite_n hz
      refine AX.iast dX4_addBars_44 rfl b3 ?_
      refine AX.aload_n dX4_addBars_45 0 rfl rfl ?_
      refine AX.getR dX4_addBars_46 flRX4_18 rfl rfl ?_
      refine AX.iload_n dX4_addBars_49 3 rfl rfl ?_
      refine AX.iconst dX4_addBars_50 ic_m1 ?_
      refine AX.iast dX4_addBars_51 rfl b3 ?_
      refine AX.aload_n dX4_addBars_52 0 rfl rfl ?_
      refine AX.getR dX4_addBars_53 flRX4_21 rfl rfl ?_
      refine AX.iload_n dX4_addBars_56 3 rfl rfl ?_
      refine AX.iconst dX4_addBars_57 ic_m1 ?_
      refine AX.iast dX4_addBars_58 rfl b3 ?_
      refine AX.iinc (v := l3 + 1) (ls' := [(0, .ref (G.2.2.1 1)), (1, .int l1), (2, .int l2), (3, .int (l3 + 1))]) 3 dX4_addBars_59 rfl (Nat.le_of_ble_eq_true rfl) (congrArg (l3 + ·) ic_1) rfl ?_
      refine AX.goto (tgt := 22) dX4_addBars_62 rfl ?_
      exact AX.sub (ls' := [(0, .ref (G.2.2.1 1)), (1, .int l1), (2, .int l2), (3, .int (l3 + 1))]) [0, 1, 2, 3] rfl (hback (l3 + 1, (sI (sI (sI σ 3 l3.toNatClampNeg l2) 4 l3.toNatClampNeg (-1)) 5 l3.toNatClampNeg (-1))) (kz (P := K) hz hk))
noncomputable def fX4_addBars (p0 : Int32) (p1 : Int32) (σ : St) : Option (Int32 × St) :=
  if ((σ.1 1 6) + p0) ≤ (99 : Int32) then (fJ9_max_7cf53 (0 : Int32) (σ.1 1 6)).bind fun q2 => (lpc (fun s => fX4_addBars_b22 p0 p1 s.1 s.2) (q2, σ)).bind fun r3 => some ((1 : Int32), (sI r3 1 6 ((r3.1 1 6) + p0))) else some ((0 : Int32), σ)
theorem wfX4_addBars {G : ag_G} (p0 : Int32) (p1 : Int32) (σ : St) {z : Int32 × St} (hz : fX4_addBars p0 p1 σ = some z) {Q : Option Value → St → Prop} (hk : Q (some (.int z.1)) z.2) : AX G mX4_addBars 1 21 0 [(0, .ref (G.2.2.1 1)), (1, .int p0), (2, .int p1)] [] σ Q := by
  unfold fX4_addBars at hz
  refine AX.aload_n dX4_addBars_0 0 rfl rfl ?_
  refine AX.getIE (v := σ.1 1 6) dX4_addBars_1 flRX4_31 rfl rfl rfl ?_
  refine AX.iload_n dX4_addBars_4 1 rfl rfl ?_
  refine AX.iadd dX4_addBars_5 ?_
  refine AX.bipush dX4_addBars_6 bp_99 ?_
  refine AX.icmp_le (tgt := 13) dX4_addBars_8 rfl (fun c1 => ?_) (fun c1 => ?_)
  · replace hz := (if_pos c1).symm.trans hz
    refine AX.iconst dX4_addBars_13 ic_0 ?_
    refine AX.aload_n dX4_addBars_14 0 rfl rfl ?_
    refine AX.getIE (v := σ.1 1 6) dX4_addBars_15 flRX4_31 rfl rfl rfl ?_
    obtain ⟨q2, hq2, hz⟩ := obind hz
    refine AX.callSw (As := [.int 0, .int (σ.1 1 6)]) (rest := []) (w := some (.int q2)) (st' := [.int q2]) dX4_addBars_18 mlRX4_46 ylJ9_max_7cf53 ysJ9_max_7cf53 rfl rfl (Nat.le_of_ble_eq_true rfl) ⟨Nat.le_of_ble_eq_true rfl, Nat.le_of_ble_eq_true rfl⟩ (xJ9_max_7cf53 (0 : Int32) (σ.1 1 6) σ hq2) rfl ?_
    refine AX.istore_n (ls' := [(0, .ref (G.2.2.1 1)), (1, .int p0), (2, .int p1), (3, .int q2)]) dX4_addBars_21 rfl (Nat.le_of_ble_eq_true rfl) rfl ?_
    obtain ⟨r3, hr3, hz⟩ := obind hz
    refine AX.sub (ls' := [(0, .ref (G.2.2.1 1)), (1, .int p0), (2, .int p1), (3, .int q2)]) [0, 1, 2, 3] rfl ?_
    refine lpc_ind (s := (q2, σ)) (r := r3) (fun s => AX G mX4_addBars 1 21 22 [(0, .ref (G.2.2.1 1)), (1, .int p0), (2, .int p1), (3, .int s.1)] [] s.2 Q) (fun a : St => AX G mX4_addBars 1 21 65 [(0, .ref (G.2.2.1 1)), (1, .int p0)] [] a Q) hr3 (fun s z hb hK => wfX4_addBars_b22 p0 p1 s.1 s.2 hb (Sum.elim (fun s => AX G mX4_addBars 1 21 22 [(0, .ref (G.2.2.1 1)), (1, .int p0), (2, .int p1), (3, .int s.1)] [] s.2 Q) (fun a : St => AX G mX4_addBars 1 21 65 [(0, .ref (G.2.2.1 1)), (1, .int p0)] [] a Q)) (fun _ h9 => h9) (fun _ h9 => h9) hK) ?_
    refine AX.aload_n dX4_addBars_65 0 rfl rfl ?_
    refine AX.dup dX4_addBars_66 rfl ?_
    refine AX.getIE (v := r3.1 1 6) dX4_addBars_67 flRX4_31 rfl rfl rfl ?_
    refine AX.iload_n dX4_addBars_70 1 rfl rfl ?_
    refine AX.iadd dX4_addBars_71 ?_
    refine AX.putI dX4_addBars_72 fpRX4_31 rfl rfl (vp_nar_int _) rfl ?_
    refine AX.iconst dX4_addBars_75 ic_1 ?_
    exact AX.ireturn dX4_addBars_76 rfl nb_1 (kz (P := fun z => Q (some (.int z.1)) z.2) hz hk)
  · replace hz := (if_neg c1).symm.trans hz
    refine AX.iconst dX4_addBars_11 ic_0 ?_
    exact AX.ireturn dX4_addBars_12 rfl nb_0 (kz (P := fun z => Q (some (.int z.1)) z.2) hz hk)
theorem xX4_addBars {G : ag_G} (p0 : Int32) (p1 : Int32) (σ : St) {z : Int32 × St} (hz : fX4_addBars p0 p1 σ = some z) : AC G yX4_addBars mX4_addBars 1 21 [.ref (G.2.2.1 1), .int p0, .int p1] σ (fun v σ1 => v = some (.int z.1) ∧ σ1 = z.2) := AC.of (plainFor_of_name (by decide)) rfl (Nat.le_of_ble_eq_true rfl) (wfX4_addBars p0 p1 σ hz ⟨rfl, rfl⟩)
noncomputable def fX4_passedPlain_j70 (l1 : Int32) (σ : St) : Option (Int32 × St) :=
  (fX4_faultAt (l1 + (2 : Int32)) σ).bind fun q1 => some (q1.1, q1.2)
theorem wfX4_passedPlain_j70 {G : ag_G} (l1 : Int32) (σ : St) {z : Int32 × St} (hz : fX4_passedPlain_j70 l1 σ = some z) {Q : Option Value → St → Prop} (hk : Q (some (.int z.1)) z.2) : AX G mX4_passedPlain 2 44 70 [(0, .ref (G.2.2.1 1)), (1, .int l1)] [] σ Q := by
  unfold fX4_passedPlain_j70 at hz
  refine AX.aload_n dX4_passedPlain_70 0 rfl rfl ?_
  refine AX.iload_n dX4_passedPlain_71 1 rfl rfl ?_
  refine AX.iconst dX4_passedPlain_72 ic_2 ?_
  refine AX.iadd dX4_passedPlain_73 ?_
  obtain ⟨q1, hq1, hz⟩ := obind hz
  refine AX.callVw (r := 1) (As := [.int (l1 + (2 : Int32))]) (rest := []) (w := some (.int q1.1)) (st' := [.int q1.1]) dX4_passedPlain_74 mlRX4_80 ylX4_faultAt yvX4_faultAt rfl rfl rfl (Nat.le_of_ble_eq_true rfl) ⟨Nat.le_of_ble_eq_true rfl, Nat.le_of_ble_eq_true rfl⟩ (xX4_faultAt (l1 + (2 : Int32)) σ hq1) rfl ?_
  exact AX.ireturn dX4_passedPlain_77 rfl (vp_nar_int _) (kz (P := fun z => Q (some (.int z.1)) z.2) hz hk)
noncomputable def fX4_passedPlain (p0 : Int32) (σ : St) : Option (Int32 × St) :=
  (fX4_byteAt (p0 + (1 : Int32)) σ).bind fun q1 => ltb (q1 - (48 : Int32)) fun x2 => (fX10_within x2 (0 : Int32) (9 : Int32)).bind fun q3 => if q3 = (0 : Int32) then (fX4_faultAt (p0 + (1 : Int32)) σ).bind fun q12 => some (q12.1, q12.2) else (fX4_byteAt (p0 + (2 : Int32)) σ).bind fun q5 => ltb (q5 - (48 : Int32)) fun x6 => (fX10_within x6 (0 : Int32) (9 : Int32)).bind fun q7 => if q7 = (0 : Int32) then fX4_passedPlain_j70 p0 σ else if (x2 + x6) = (0 : Int32) then fX4_passedPlain_j70 p0 σ else (fX4_addBars (((10 : Int32) * x2) + x6) (3 : Int32) σ).bind fun q10 => if q10.1 = (0 : Int32) then fX4_passedPlain_j70 p0 q10.2 else some ((p0 + (3 : Int32)), q10.2)
theorem wfX4_passedPlain {G : ag_G} (p0 : Int32) (σ : St) {z : Int32 × St} (hz : fX4_passedPlain p0 σ = some z) {Q : Option Value → St → Prop} (hk : Q (some (.int z.1)) z.2) : AX G mX4_passedPlain 2 44 0 [(0, .ref (G.2.2.1 1)), (1, .int p0)] [] σ Q := by
  unfold fX4_passedPlain at hz
  refine AX.aload_n dX4_passedPlain_0 0 rfl rfl ?_
  refine AX.iload_n dX4_passedPlain_1 1 rfl rfl ?_
  refine AX.iconst dX4_passedPlain_2 ic_1 ?_
  refine AX.iadd dX4_passedPlain_3 ?_
  obtain ⟨q1, hq1, hz⟩ := obind hz
  refine AX.callVw (r := 1) (As := [.int (p0 + (1 : Int32))]) (rest := []) (w := some (.int q1)) (st' := [.int q1]) dX4_passedPlain_4 mlRX4_60 ylX4_byteAt yvX4_byteAt rfl rfl rfl (Nat.le_of_ble_eq_true rfl) ⟨Nat.le_of_ble_eq_true rfl, Nat.le_of_ble_eq_true rfl⟩ (xX4_byteAt (p0 + (1 : Int32)) σ hq1) rfl ?_
  refine AX.bipush dX4_passedPlain_7 bp_48 ?_
  refine AX.isub dX4_passedPlain_9 ?_
  obtain ⟨x2, hx2, hz⟩ := ltb_e hz
  refine AX.topI hx2 ?_
  refine AX.istore_n (ls' := [(0, .ref (G.2.2.1 1)), (1, .int p0), (2, .int x2)]) dX4_passedPlain_10 rfl (Nat.le_of_ble_eq_true rfl) rfl ?_
  refine AX.iload_n dX4_passedPlain_11 2 rfl rfl ?_
  refine AX.iconst dX4_passedPlain_12 ic_0 ?_
  refine AX.bipush dX4_passedPlain_13 bp_9 ?_
  obtain ⟨q3, hq3, hz⟩ := obind hz
  refine AX.callSw (As := [.int x2, .int 0, .int 9]) (rest := []) (w := some (.int q3)) (st' := [.int q3]) dX4_passedPlain_15 mlRX4_83 ylX10_within ysX10_within rfl rfl (Nat.le_of_ble_eq_true rfl) ⟨Nat.le_of_ble_eq_true rfl, Nat.le_of_ble_eq_true rfl⟩ (xX10_within x2 (0 : Int32) (9 : Int32) σ hq3) rfl ?_
  refine AX.if_ne (tgt := 29) dX4_passedPlain_18 rfl (fun c4 => ?_) (fun c4 => ?_)
  · replace hz := (if_neg c4).symm.trans hz
    refine AX.aload_n dX4_passedPlain_29 0 rfl rfl ?_
    refine AX.iload_n dX4_passedPlain_30 1 rfl rfl ?_
    refine AX.iconst dX4_passedPlain_31 ic_2 ?_
    refine AX.iadd dX4_passedPlain_32 ?_
    obtain ⟨q5, hq5, hz⟩ := obind hz
    refine AX.callVw (r := 1) (As := [.int (p0 + (2 : Int32))]) (rest := []) (w := some (.int q5)) (st' := [.int q5]) dX4_passedPlain_33 mlRX4_60 ylX4_byteAt yvX4_byteAt rfl rfl rfl (Nat.le_of_ble_eq_true rfl) ⟨Nat.le_of_ble_eq_true rfl, Nat.le_of_ble_eq_true rfl⟩ (xX4_byteAt (p0 + (2 : Int32)) σ hq5) rfl ?_
    refine AX.bipush dX4_passedPlain_36 bp_48 ?_
    refine AX.isub dX4_passedPlain_38 ?_
    obtain ⟨x6, hx6, hz⟩ := ltb_e hz
    refine AX.topI hx6 ?_
    refine AX.istore_n (ls' := [(0, .ref (G.2.2.1 1)), (1, .int p0), (2, .int x2), (3, .int x6)]) dX4_passedPlain_39 rfl (Nat.le_of_ble_eq_true rfl) rfl ?_
    refine AX.iload_n dX4_passedPlain_40 3 rfl rfl ?_
    refine AX.iconst dX4_passedPlain_41 ic_0 ?_
    refine AX.bipush dX4_passedPlain_42 bp_9 ?_
    obtain ⟨q7, hq7, hz⟩ := obind hz
    refine AX.callSw (As := [.int x6, .int 0, .int 9]) (rest := []) (w := some (.int q7)) (st' := [.int q7]) dX4_passedPlain_44 mlRX4_83 ylX10_within ysX10_within rfl rfl (Nat.le_of_ble_eq_true rfl) ⟨Nat.le_of_ble_eq_true rfl, Nat.le_of_ble_eq_true rfl⟩ (xX10_within x6 (0 : Int32) (9 : Int32) σ hq7) rfl ?_
    refine AX.if_eq (tgt := 70) dX4_passedPlain_47 rfl (fun c8 => ?_) (fun c8 => ?_)
    · replace hz := (if_pos c8).symm.trans hz
      exact AX.sub (ls' := [(0, .ref (G.2.2.1 1)), (1, .int p0)]) [0, 1] rfl (wfX4_passedPlain_j70 p0 σ hz hk)
    · replace hz := (if_neg c8).symm.trans hz
      refine AX.iload_n dX4_passedPlain_50 2 rfl rfl ?_
      refine AX.iload_n dX4_passedPlain_51 3 rfl rfl ?_
      refine AX.iadd dX4_passedPlain_52 ?_
      refine AX.if_eq (tgt := 70) dX4_passedPlain_53 rfl (fun c9 => ?_) (fun c9 => ?_)
      · replace hz := (if_pos c9).symm.trans hz
        exact AX.sub (ls' := [(0, .ref (G.2.2.1 1)), (1, .int p0)]) [0, 1] rfl (wfX4_passedPlain_j70 p0 σ hz hk)
      · replace hz := (if_neg c9).symm.trans hz
        refine AX.aload_n dX4_passedPlain_56 0 rfl rfl ?_
        refine AX.bipush dX4_passedPlain_57 bp_10 ?_
        refine AX.iload_n dX4_passedPlain_59 2 rfl rfl ?_
        refine AX.imul dX4_passedPlain_60 ?_
        refine AX.iload_n dX4_passedPlain_61 3 rfl rfl ?_
        refine AX.iadd dX4_passedPlain_62 ?_
        refine AX.iconst dX4_passedPlain_63 ic_3 ?_
        obtain ⟨q10, hq10, hz⟩ := obind hz
        refine AX.callVw (r := 1) (As := [.int (((10 : Int32) * x2) + x6), .int 3]) (rest := []) (w := some (.int q10.1)) (st' := [.int q10.1]) dX4_passedPlain_64 mlRX4_76 ylX4_addBars yvX4_addBars rfl rfl rfl (Nat.le_of_ble_eq_true rfl) ⟨Nat.le_of_ble_eq_true rfl, Nat.le_of_ble_eq_true rfl⟩ (xX4_addBars (((10 : Int32) * x2) + x6) (3 : Int32) σ hq10) rfl ?_
        refine AX.if_ne (tgt := 78) dX4_passedPlain_67 rfl (fun c11 => ?_) (fun c11 => ?_)
        · replace hz := (if_neg c11).symm.trans hz
          refine AX.iload_n dX4_passedPlain_78 1 rfl rfl ?_
          refine AX.iconst dX4_passedPlain_79 ic_3 ?_
          refine AX.iadd dX4_passedPlain_80 ?_
          exact AX.ireturn dX4_passedPlain_81 rfl (vp_nar_int _) (kz (P := fun z => Q (some (.int z.1)) z.2) hz hk)
        · replace hz := (if_pos c11).symm.trans hz
          exact AX.sub (ls' := [(0, .ref (G.2.2.1 1)), (1, .int p0)]) [0, 1] rfl (wfX4_passedPlain_j70 p0 q10.2 hz hk)
  · replace hz := (if_pos c4).symm.trans hz
    refine AX.aload_n dX4_passedPlain_21 0 rfl rfl ?_
    refine AX.iload_n dX4_passedPlain_22 1 rfl rfl ?_
    refine AX.iconst dX4_passedPlain_23 ic_1 ?_
    refine AX.iadd dX4_passedPlain_24 ?_
    obtain ⟨q12, hq12, hz⟩ := obind hz
    refine AX.callVw (r := 1) (As := [.int (p0 + (1 : Int32))]) (rest := []) (w := some (.int q12.1)) (st' := [.int q12.1]) dX4_passedPlain_25 mlRX4_80 ylX4_faultAt yvX4_faultAt rfl rfl rfl (Nat.le_of_ble_eq_true rfl) ⟨Nat.le_of_ble_eq_true rfl, Nat.le_of_ble_eq_true rfl⟩ (xX4_faultAt (p0 + (1 : Int32)) σ hq12) rfl ?_
    exact AX.ireturn dX4_passedPlain_28 rfl (vp_nar_int _) (kz (P := fun z => Q (some (.int z.1)) z.2) hz hk)
theorem xX4_passedPlain {G : ag_G} (p0 : Int32) (σ : St) {z : Int32 × St} (hz : fX4_passedPlain p0 σ = some z) : AC G yX4_passedPlain mX4_passedPlain 2 44 [.ref (G.2.2.1 1), .int p0] σ (fun v σ1 => v = some (.int z.1) ∧ σ1 = z.2) := AC.of (plainFor_of_name (by decide)) rfl (Nat.le_of_ble_eq_true rfl) (wfX4_passedPlain p0 σ hz ⟨rfl, rfl⟩)
noncomputable def fX4_passedLoose_j18 (l1 : Int32) (σ : St) : Option (Int32 × St) :=
  (fX4_faultAt l1 σ).bind fun q1 => some (q1.1, q1.2)
theorem wfX4_passedLoose_j18 {G : ag_G} (l1 : Int32) (σ : St) {z : Int32 × St} (hz : fX4_passedLoose_j18 l1 σ = some z) {Q : Option Value → St → Prop} (hk : Q (some (.int z.1)) z.2) : AX G mX4_passedLoose 2 44 18 [(0, .ref (G.2.2.1 1)), (1, .int l1)] [] σ Q := by
  unfold fX4_passedLoose_j18 at hz
  refine AX.aload_n dX4_passedLoose_18 0 rfl rfl ?_
  refine AX.iload_n dX4_passedLoose_19 1 rfl rfl ?_
  obtain ⟨q1, hq1, hz⟩ := obind hz
  refine AX.callVw (r := 1) (As := [.int l1]) (rest := []) (w := some (.int q1.1)) (st' := [.int q1.1]) dX4_passedLoose_20 mlRX4_80 ylX4_faultAt yvX4_faultAt rfl rfl rfl (Nat.le_of_ble_eq_true rfl) ⟨Nat.le_of_ble_eq_true rfl, Nat.le_of_ble_eq_true rfl⟩ (xX4_faultAt l1 σ hq1) rfl ?_
  exact AX.ireturn dX4_passedLoose_23 rfl (vp_nar_int _) (kz (P := fun z => Q (some (.int z.1)) z.2) hz hk)
noncomputable def fX4_passedLoose (p0 : Int32) (p1 : Int32) (σ : St) : Option (Int32 × St) :=
  if (10 : Int32) ≤ (σ.1 1 7) then fX4_passedLoose_j18 p0 σ else (fX4_addBars (1 : Int32) p1 σ).bind fun q2 => if q2.1 = (0 : Int32) then fX4_passedLoose_j18 p0 q2.2 else some ((p0 + (1 : Int32)), (sI q2.2 1 7 ((q2.2.1 1 7) + (1 : Int32))))
theorem wfX4_passedLoose {G : ag_G} (p0 : Int32) (p1 : Int32) (σ : St) {z : Int32 × St} (hz : fX4_passedLoose p0 p1 σ = some z) {Q : Option Value → St → Prop} (hk : Q (some (.int z.1)) z.2) : AX G mX4_passedLoose 2 44 0 [(0, .ref (G.2.2.1 1)), (1, .int p0), (2, .int p1)] [] σ Q := by
  unfold fX4_passedLoose at hz
  refine AX.aload_n dX4_passedLoose_0 0 rfl rfl ?_
  refine AX.getIE (v := σ.1 1 7) dX4_passedLoose_1 flRX4_34 rfl rfl rfl ?_
  refine AX.bipush dX4_passedLoose_4 bp_10 ?_
  refine AX.icmp_ge (tgt := 18) dX4_passedLoose_6 rfl (fun c1 => ?_) (fun c1 => ?_)
  · replace hz := (if_pos c1).symm.trans hz
    exact AX.sub (ls' := [(0, .ref (G.2.2.1 1)), (1, .int p0)]) [0, 1] rfl (wfX4_passedLoose_j18 p0 σ hz hk)
  · replace hz := (if_neg c1).symm.trans hz
    refine AX.aload_n dX4_passedLoose_9 0 rfl rfl ?_
    refine AX.iconst dX4_passedLoose_10 ic_1 ?_
    refine AX.iload_n dX4_passedLoose_11 2 rfl rfl ?_
    obtain ⟨q2, hq2, hz⟩ := obind hz
    refine AX.callVw (r := 1) (As := [.int 1, .int p1]) (rest := []) (w := some (.int q2.1)) (st' := [.int q2.1]) dX4_passedLoose_12 mlRX4_76 ylX4_addBars yvX4_addBars rfl rfl rfl (Nat.le_of_ble_eq_true rfl) ⟨Nat.le_of_ble_eq_true rfl, Nat.le_of_ble_eq_true rfl⟩ (xX4_addBars (1 : Int32) p1 σ hq2) rfl ?_
    refine AX.if_ne (tgt := 24) dX4_passedLoose_15 rfl (fun c3 => ?_) (fun c3 => ?_)
    · replace hz := (if_neg c3).symm.trans hz
      refine AX.aload_n dX4_passedLoose_24 0 rfl rfl ?_
      refine AX.dup dX4_passedLoose_25 rfl ?_
      refine AX.getIE (v := q2.2.1 1 7) dX4_passedLoose_26 flRX4_34 rfl rfl rfl ?_
      refine AX.iconst dX4_passedLoose_29 ic_1 ?_
      refine AX.iadd dX4_passedLoose_30 ?_
      refine AX.putI dX4_passedLoose_31 fpRX4_34 rfl rfl (vp_nar_int _) rfl ?_
      refine AX.iload_n dX4_passedLoose_34 1 rfl rfl ?_
      refine AX.iconst dX4_passedLoose_35 ic_1 ?_
      refine AX.iadd dX4_passedLoose_36 ?_
      exact AX.ireturn dX4_passedLoose_37 rfl (vp_nar_int _) (kz (P := fun z => Q (some (.int z.1)) z.2) hz hk)
    · replace hz := (if_pos c3).symm.trans hz
      exact AX.sub (ls' := [(0, .ref (G.2.2.1 1)), (1, .int p0)]) [0, 1] rfl (wfX4_passedLoose_j18 p0 q2.2 hz hk)
theorem xX4_passedLoose {G : ag_G} (p0 : Int32) (p1 : Int32) (σ : St) {z : Int32 × St} (hz : fX4_passedLoose p0 p1 σ = some z) : AC G yX4_passedLoose mX4_passedLoose 2 44 [.ref (G.2.2.1 1), .int p0, .int p1] σ (fun v σ1 => v = some (.int z.1) ∧ σ1 = z.2) := AC.of (plainFor_of_name (by decide)) rfl (Nat.le_of_ble_eq_true rfl) (wfX4_passedLoose p0 p1 σ hz ⟨rfl, rfl⟩)
noncomputable def fX4_passedCue_j30 (l1 : Int32) (σ : St) : Option (Int32 × St) :=
  (fX4_faultAt l1 σ).bind fun q1 => some (q1.1, q1.2)
theorem wfX4_passedCue_j30 {G : ag_G} (l1 : Int32) (σ : St) {z : Int32 × St} (hz : fX4_passedCue_j30 l1 σ = some z) {Q : Option Value → St → Prop} (hk : Q (some (.int z.1)) z.2) : AX G mX4_passedCue 2 44 30 [(0, .ref (G.2.2.1 1)), (1, .int l1)] [] σ Q := by
  unfold fX4_passedCue_j30 at hz
  refine AX.aload_n dX4_passedCue_30 0 rfl rfl ?_
  refine AX.iload_n dX4_passedCue_31 1 rfl rfl ?_
  obtain ⟨q1, hq1, hz⟩ := obind hz
  refine AX.callVw (r := 1) (As := [.int l1]) (rest := []) (w := some (.int q1.1)) (st' := [.int q1.1]) dX4_passedCue_32 mlRX4_80 ylX4_faultAt yvX4_faultAt rfl rfl rfl (Nat.le_of_ble_eq_true rfl) ⟨Nat.le_of_ble_eq_true rfl, Nat.le_of_ble_eq_true rfl⟩ (xX4_faultAt l1 σ hq1) rfl ?_
  exact AX.ireturn dX4_passedCue_35 rfl (vp_nar_int _) (kz (P := fun z => Q (some (.int z.1)) z.2) hz hk)
noncomputable def fX4_passedCue_j66 (l1 : Int32) (σ : St) : Option (Int32 × St) :=
  (fX4_faultAt (l1 + (1 : Int32)) σ).bind fun q1 => some (q1.1, q1.2)
theorem wfX4_passedCue_j66 {G : ag_G} (l1 : Int32) (σ : St) {z : Int32 × St} (hz : fX4_passedCue_j66 l1 σ = some z) {Q : Option Value → St → Prop} (hk : Q (some (.int z.1)) z.2) : AX G mX4_passedCue 2 44 66 [(0, .ref (G.2.2.1 1)), (1, .int l1)] [] σ Q := by
  unfold fX4_passedCue_j66 at hz
  refine AX.aload_n dX4_passedCue_66 0 rfl rfl ?_
  refine AX.iload_n dX4_passedCue_67 1 rfl rfl ?_
  refine AX.iconst dX4_passedCue_68 ic_1 ?_
  refine AX.iadd dX4_passedCue_69 ?_
  obtain ⟨q1, hq1, hz⟩ := obind hz
  refine AX.callVw (r := 1) (As := [.int (l1 + (1 : Int32))]) (rest := []) (w := some (.int q1.1)) (st' := [.int q1.1]) dX4_passedCue_70 mlRX4_80 ylX4_faultAt yvX4_faultAt rfl rfl rfl (Nat.le_of_ble_eq_true rfl) ⟨Nat.le_of_ble_eq_true rfl, Nat.le_of_ble_eq_true rfl⟩ (xX4_faultAt (l1 + (1 : Int32)) σ hq1) rfl ?_
  exact AX.ireturn dX4_passedCue_73 rfl (vp_nar_int _) (kz (P := fun z => Q (some (.int z.1)) z.2) hz hk)
noncomputable def fX4_passedCue (p0 : Int32) (σ : St) : Option (Int32 × St) :=
  ltb (σ.1 1 6) fun x1 => if (σ.1 1 8) < (0 : Int32) then fX4_passedCue_j30 p0 σ else if (6 : Int32) ≤ (σ.1 1 8) then fX4_passedCue_j30 p0 σ else (fX4_addBars (1 : Int32) (4 : Int32) σ).bind fun q4 => if q4.1 = (0 : Int32) then fX4_passedCue_j30 p0 q4.2 else (fX4_byteAt (p0 + (1 : Int32)) q4.2).bind fun q6 => ltb (q6 - (97 : Int32)) fun x7 => (fX10_within x7 (0 : Int32) (3 : Int32)).bind fun q8 => if q8 = (0 : Int32) then fX4_passedCue_j66 p0 q4.2 else (fX10_within x1 (0 : Int32) (98 : Int32)).bind fun q10 => if q10 = (0 : Int32) then fX4_passedCue_j66 p0 q4.2 else if inb x1 99 = true then if inb (q4.2.1 1 8) 6 = true then some ((p0 + (2 : Int32)), (sI (sI (sI (sI q4.2 4 x1.toNatClampNeg (q4.2.1 1 8)) 5 x1.toNatClampNeg x7) 6 ((q4.2.1 1 8).toNatClampNeg) x1) 1 8 ((q4.2.1 1 8) + (1 : Int32)))) else none else none
theorem wfX4_passedCue {G : ag_G} (p0 : Int32) (σ : St) {z : Int32 × St} (hz : fX4_passedCue p0 σ = some z) {Q : Option Value → St → Prop} (hk : Q (some (.int z.1)) z.2) : AX G mX4_passedCue 2 44 0 [(0, .ref (G.2.2.1 1)), (1, .int p0)] [] σ Q := by
  unfold fX4_passedCue at hz
  refine AX.aload_n dX4_passedCue_0 0 rfl rfl ?_
  refine AX.getIE (v := σ.1 1 6) dX4_passedCue_1 flRX4_31 rfl rfl rfl ?_
  obtain ⟨x1, hx1, hz⟩ := ltb_e hz
  refine AX.topI hx1 ?_
  refine AX.istore_n (ls' := [(0, .ref (G.2.2.1 1)), (1, .int p0), (2, .int x1)]) dX4_passedCue_4 rfl (Nat.le_of_ble_eq_true rfl) rfl ?_
  refine AX.aload_n dX4_passedCue_5 0 rfl rfl ?_
  refine AX.getIE (v := σ.1 1 8) dX4_passedCue_6 flRX4_37 rfl rfl rfl ?_
  refine AX.if_lt (tgt := 30) dX4_passedCue_9 rfl (fun c2 => ?_) (fun c2 => ?_)
  · replace hz := (if_pos c2).symm.trans hz
    exact AX.sub (ls' := [(0, .ref (G.2.2.1 1)), (1, .int p0)]) [0, 1] rfl (wfX4_passedCue_j30 p0 σ hz hk)
  · replace hz := (if_neg c2).symm.trans hz
    refine AX.aload_n dX4_passedCue_12 0 rfl rfl ?_
    refine AX.getIE (v := σ.1 1 8) dX4_passedCue_13 flRX4_37 rfl rfl rfl ?_
    refine AX.bipush dX4_passedCue_16 bp_6 ?_
    refine AX.icmp_ge (tgt := 30) dX4_passedCue_18 rfl (fun c3 => ?_) (fun c3 => ?_)
    · replace hz := (if_pos c3).symm.trans hz
      exact AX.sub (ls' := [(0, .ref (G.2.2.1 1)), (1, .int p0)]) [0, 1] rfl (wfX4_passedCue_j30 p0 σ hz hk)
    · replace hz := (if_neg c3).symm.trans hz
      refine AX.aload_n dX4_passedCue_21 0 rfl rfl ?_
      refine AX.iconst dX4_passedCue_22 ic_1 ?_
      refine AX.iconst dX4_passedCue_23 ic_4 ?_
      obtain ⟨q4, hq4, hz⟩ := obind hz
      refine AX.callVw (r := 1) (As := [.int 1, .int 4]) (rest := []) (w := some (.int q4.1)) (st' := [.int q4.1]) dX4_passedCue_24 mlRX4_76 ylX4_addBars yvX4_addBars rfl rfl rfl (Nat.le_of_ble_eq_true rfl) ⟨Nat.le_of_ble_eq_true rfl, Nat.le_of_ble_eq_true rfl⟩ (xX4_addBars (1 : Int32) (4 : Int32) σ hq4) rfl ?_
      refine AX.if_ne (tgt := 36) dX4_passedCue_27 rfl (fun c5 => ?_) (fun c5 => ?_)
      · replace hz := (if_neg c5).symm.trans hz
        refine AX.aload_n dX4_passedCue_36 0 rfl rfl ?_
        refine AX.iload_n dX4_passedCue_37 1 rfl rfl ?_
        refine AX.iconst dX4_passedCue_38 ic_1 ?_
        refine AX.iadd dX4_passedCue_39 ?_
        obtain ⟨q6, hq6, hz⟩ := obind hz
        refine AX.callVw (r := 1) (As := [.int (p0 + (1 : Int32))]) (rest := []) (w := some (.int q6)) (st' := [.int q6]) dX4_passedCue_40 mlRX4_60 ylX4_byteAt yvX4_byteAt rfl rfl rfl (Nat.le_of_ble_eq_true rfl) ⟨Nat.le_of_ble_eq_true rfl, Nat.le_of_ble_eq_true rfl⟩ (xX4_byteAt (p0 + (1 : Int32)) q4.2 hq6) rfl ?_
        refine AX.bipush dX4_passedCue_43 bp_97 ?_
        refine AX.isub dX4_passedCue_45 ?_
        obtain ⟨x7, hx7, hz⟩ := ltb_e hz
        refine AX.topI hx7 ?_
        refine AX.istore_n (ls' := [(0, .ref (G.2.2.1 1)), (1, .int p0), (2, .int x1), (3, .int x7)]) dX4_passedCue_46 rfl (Nat.le_of_ble_eq_true rfl) rfl ?_
        refine AX.iload_n dX4_passedCue_47 3 rfl rfl ?_
        refine AX.iconst dX4_passedCue_48 ic_0 ?_
        refine AX.iconst dX4_passedCue_49 ic_3 ?_
        obtain ⟨q8, hq8, hz⟩ := obind hz
        refine AX.callSw (As := [.int x7, .int 0, .int 3]) (rest := []) (w := some (.int q8)) (st' := [.int q8]) dX4_passedCue_50 mlRX4_83 ylX10_within ysX10_within rfl rfl (Nat.le_of_ble_eq_true rfl) ⟨Nat.le_of_ble_eq_true rfl, Nat.le_of_ble_eq_true rfl⟩ (xX10_within x7 (0 : Int32) (3 : Int32) q4.2 hq8) rfl ?_
        refine AX.if_eq (tgt := 66) dX4_passedCue_53 rfl (fun c9 => ?_) (fun c9 => ?_)
        · replace hz := (if_pos c9).symm.trans hz
          exact AX.sub (ls' := [(0, .ref (G.2.2.1 1)), (1, .int p0)]) [0, 1] rfl (wfX4_passedCue_j66 p0 q4.2 hz hk)
        · replace hz := (if_neg c9).symm.trans hz
          refine AX.iload_n dX4_passedCue_56 2 rfl rfl ?_
          refine AX.iconst dX4_passedCue_57 ic_0 ?_
          refine AX.bipush dX4_passedCue_58 bp_98 ?_
          obtain ⟨q10, hq10, hz⟩ := obind hz
          refine AX.callSw (As := [.int x1, .int 0, .int 98]) (rest := []) (w := some (.int q10)) (st' := [.int q10]) dX4_passedCue_60 mlRX4_83 ylX10_within ysX10_within rfl rfl (Nat.le_of_ble_eq_true rfl) ⟨Nat.le_of_ble_eq_true rfl, Nat.le_of_ble_eq_true rfl⟩ (xX10_within x1 (0 : Int32) (98 : Int32) q4.2 hq10) rfl ?_
          refine AX.if_ne (tgt := 74) dX4_passedCue_63 rfl (fun c11 => ?_) (fun c11 => ?_)
          · replace hz := (if_neg c11).symm.trans hz
            refine AX.aload_n dX4_passedCue_74 0 rfl rfl ?_
            refine AX.getR dX4_passedCue_75 flRX4_18 rfl rfl ?_
            refine AX.iload_n dX4_passedCue_78 2 rfl rfl ?_
            refine AX.aload_n dX4_passedCue_79 0 rfl rfl ?_
            refine AX.getIE (v := q4.2.1 1 8) dX4_passedCue_80 flRX4_37 rfl rfl rfl ?_
            obtain ⟨b12, hz⟩ := ite_n hz
            refine AX.iast dX4_passedCue_83 rfl b12 ?_
            refine AX.aload_n dX4_passedCue_84 0 rfl rfl ?_
            refine AX.getR dX4_passedCue_85 flRX4_21 rfl rfl ?_
            refine AX.iload_n dX4_passedCue_88 2 rfl rfl ?_
            refine AX.iload_n dX4_passedCue_89 3 rfl rfl ?_
            refine AX.iast dX4_passedCue_90 rfl b12 ?_
            refine AX.aload_n dX4_passedCue_91 0 rfl rfl ?_
            refine AX.getR dX4_passedCue_92 flRX4_24 rfl rfl ?_
            refine AX.aload_n dX4_passedCue_95 0 rfl rfl ?_
            refine AX.getIE (v := q4.2.1 1 8) dX4_passedCue_96 flRX4_37 rfl rfl rfl ?_
            refine AX.iload_n dX4_passedCue_99 2 rfl rfl ?_
            obtain ⟨b13, hz⟩ := ite_n hz
            refine AX.iast dX4_passedCue_100 rfl b13 ?_
            refine AX.aload_n dX4_passedCue_101 0 rfl rfl ?_
            refine AX.dup dX4_passedCue_102 rfl ?_
            refine AX.getIE (v := q4.2.1 1 8) dX4_passedCue_103 flRX4_37 rfl rfl rfl ?_
            refine AX.iconst dX4_passedCue_106 ic_1 ?_
            refine AX.iadd dX4_passedCue_107 ?_
            refine AX.putI dX4_passedCue_108 fpRX4_37 rfl rfl (vp_nar_int _) rfl ?_
            refine AX.iload_n dX4_passedCue_111 1 rfl rfl ?_
            refine AX.iconst dX4_passedCue_112 ic_2 ?_
            refine AX.iadd dX4_passedCue_113 ?_
            exact AX.ireturn dX4_passedCue_114 rfl (vp_nar_int _) (kz (P := fun z => Q (some (.int z.1)) z.2) hz hk)
          · replace hz := (if_pos c11).symm.trans hz
            exact AX.sub (ls' := [(0, .ref (G.2.2.1 1)), (1, .int p0)]) [0, 1] rfl (wfX4_passedCue_j66 p0 q4.2 hz hk)
      · replace hz := (if_pos c5).symm.trans hz
        exact AX.sub (ls' := [(0, .ref (G.2.2.1 1)), (1, .int p0)]) [0, 1] rfl (wfX4_passedCue_j30 p0 q4.2 hz hk)
theorem xX4_passedCue {G : ag_G} (p0 : Int32) (σ : St) {z : Int32 × St} (hz : fX4_passedCue p0 σ = some z) : AC G yX4_passedCue mX4_passedCue 2 44 [.ref (G.2.2.1 1), .int p0] σ (fun v σ1 => v = some (.int z.1) ∧ σ1 = z.2) := AC.of (plainFor_of_name (by decide)) rfl (Nat.le_of_ble_eq_true rfl) (wfX4_passedCue p0 σ hz ⟨rfl, rfl⟩)
noncomputable def fX4_passed (p0 : Int32) (σ : St) : Option (Int32 × St) :=
  (fX4_byteAt p0 σ).bind fun q1 => if q1 = 99 then (fX4_passedCue p0 σ).bind fun q2 => some (q2.1, q2.2) else if q1 = 100 then (fX4_passedLoose p0 (0 : Int32) σ).bind fun q3 => some (q3.1, q3.2) else if q1 = 109 then (fX4_passedLoose p0 (2 : Int32) σ).bind fun q4 => some (q4.1, q4.2) else if q1 = 112 then (fX4_passedPlain p0 σ).bind fun q5 => some (q5.1, q5.2) else if q1 = 119 then (fX4_passedLoose p0 (1 : Int32) σ).bind fun q6 => some (q6.1, q6.2) else if q1 = 120 then (fX4_addBars (1 : Int32) (5 : Int32) σ).bind fun q7 => if q7.1 = (0 : Int32) then (fX4_faultAt p0 q7.2).bind fun q9 => some (q9.1, q9.2) else some ((p0 + (1 : Int32)), q7.2) else (fX4_faultAt p0 σ).bind fun q10 => some (q10.1, q10.2)
theorem wfX4_passed {G : ag_G} (p0 : Int32) (σ : St) {z : Int32 × St} (hz : fX4_passed p0 σ = some z) {Q : Option Value → St → Prop} (hk : Q (some (.int z.1)) z.2) : AX G mX4_passed 3 67 0 [(0, .ref (G.2.2.1 1)), (1, .int p0)] [] σ Q := by
  unfold fX4_passed at hz
  refine AX.aload_n dX4_passed_0 0 rfl rfl ?_
  refine AX.iload_n dX4_passed_1 1 rfl rfl ?_
  obtain ⟨q1, hq1, hz⟩ := obind hz
  refine AX.callVw (r := 1) (As := [.int p0]) (rest := []) (w := some (.int q1)) (st' := [.int q1]) dX4_passed_2 mlRX4_60 ylX4_byteAt yvX4_byteAt rfl rfl rfl (Nat.le_of_ble_eq_true rfl) ⟨Nat.le_of_ble_eq_true rfl, Nat.le_of_ble_eq_true rfl⟩ (xX4_byteAt p0 σ hq1) rfl ?_
  by_cases c99 : q1 = 99
  · replace hz := (if_pos c99).symm.trans hz
    refine AX.lookup (tgt := 91) (off := 86) dX4_passed_5 (by decide) (by rw [c99]; rfl) rfl ?_
    refine AX.aload_n dX4_passed_91 0 rfl rfl ?_
    refine AX.iload_n dX4_passed_92 1 rfl rfl ?_
    obtain ⟨q2, hq2, hz⟩ := obind hz
    refine AX.callVw (r := 1) (As := [.int p0]) (rest := []) (w := some (.int q2.1)) (st' := [.int q2.1]) dX4_passed_93 mlRX4_73 ylX4_passedCue yvX4_passedCue rfl rfl rfl (Nat.le_of_ble_eq_true rfl) ⟨Nat.le_of_ble_eq_true rfl, Nat.le_of_ble_eq_true rfl⟩ (xX4_passedCue p0 σ hq2) rfl ?_
    exact AX.ireturn dX4_passed_96 rfl (vp_nar_int _) (kz (P := fun z => Q (some (.int z.1)) z.2) hz hk)
  · replace hz := (if_neg c99).symm.trans hz
    by_cases c100 : q1 = 100
    · replace hz := (if_pos c100).symm.trans hz
      refine AX.lookup (tgt := 70) (off := 65) dX4_passed_5 (by decide) (by rw [c100]; rfl) rfl ?_
      refine AX.aload_n dX4_passed_70 0 rfl rfl ?_
      refine AX.iload_n dX4_passed_71 1 rfl rfl ?_
      refine AX.iconst dX4_passed_72 ic_0 ?_
      obtain ⟨q3, hq3, hz⟩ := obind hz
      refine AX.callVw (r := 1) (As := [.int p0, .int 0]) (rest := []) (w := some (.int q3.1)) (st' := [.int q3.1]) dX4_passed_73 mlRX4_70 ylX4_passedLoose yvX4_passedLoose rfl rfl rfl (Nat.le_of_ble_eq_true rfl) ⟨Nat.le_of_ble_eq_true rfl, Nat.le_of_ble_eq_true rfl⟩ (xX4_passedLoose p0 (0 : Int32) σ hq3) rfl ?_
      exact AX.ireturn dX4_passed_76 rfl (vp_nar_int _) (kz (P := fun z => Q (some (.int z.1)) z.2) hz hk)
    · replace hz := (if_neg c100).symm.trans hz
      by_cases c109 : q1 = 109
      · replace hz := (if_pos c109).symm.trans hz
        refine AX.lookup (tgt := 84) (off := 79) dX4_passed_5 (by decide) (by rw [c109]; rfl) rfl ?_
        refine AX.aload_n dX4_passed_84 0 rfl rfl ?_
        refine AX.iload_n dX4_passed_85 1 rfl rfl ?_
        refine AX.iconst dX4_passed_86 ic_2 ?_
        obtain ⟨q4, hq4, hz⟩ := obind hz
        refine AX.callVw (r := 1) (As := [.int p0, .int 2]) (rest := []) (w := some (.int q4.1)) (st' := [.int q4.1]) dX4_passed_87 mlRX4_70 ylX4_passedLoose yvX4_passedLoose rfl rfl rfl (Nat.le_of_ble_eq_true rfl) ⟨Nat.le_of_ble_eq_true rfl, Nat.le_of_ble_eq_true rfl⟩ (xX4_passedLoose p0 (2 : Int32) σ hq4) rfl ?_
        exact AX.ireturn dX4_passed_90 rfl (vp_nar_int _) (kz (P := fun z => Q (some (.int z.1)) z.2) hz hk)
      · replace hz := (if_neg c109).symm.trans hz
        by_cases c112 : q1 = 112
        · replace hz := (if_pos c112).symm.trans hz
          refine AX.lookup (tgt := 64) (off := 59) dX4_passed_5 (by decide) (by rw [c112]; rfl) rfl ?_
          refine AX.aload_n dX4_passed_64 0 rfl rfl ?_
          refine AX.iload_n dX4_passed_65 1 rfl rfl ?_
          obtain ⟨q5, hq5, hz⟩ := obind hz
          refine AX.callVw (r := 1) (As := [.int p0]) (rest := []) (w := some (.int q5.1)) (st' := [.int q5.1]) dX4_passed_66 mlRX4_67 ylX4_passedPlain yvX4_passedPlain rfl rfl rfl (Nat.le_of_ble_eq_true rfl) ⟨Nat.le_of_ble_eq_true rfl, Nat.le_of_ble_eq_true rfl⟩ (xX4_passedPlain p0 σ hq5) rfl ?_
          exact AX.ireturn dX4_passed_69 rfl (vp_nar_int _) (kz (P := fun z => Q (some (.int z.1)) z.2) hz hk)
        · replace hz := (if_neg c112).symm.trans hz
          by_cases c119 : q1 = 119
          · replace hz := (if_pos c119).symm.trans hz
            refine AX.lookup (tgt := 77) (off := 72) dX4_passed_5 (by decide) (by rw [c119]; rfl) rfl ?_
            refine AX.aload_n dX4_passed_77 0 rfl rfl ?_
            refine AX.iload_n dX4_passed_78 1 rfl rfl ?_
            refine AX.iconst dX4_passed_79 ic_1 ?_
            obtain ⟨q6, hq6, hz⟩ := obind hz
            refine AX.callVw (r := 1) (As := [.int p0, .int 1]) (rest := []) (w := some (.int q6.1)) (st' := [.int q6.1]) dX4_passed_80 mlRX4_70 ylX4_passedLoose yvX4_passedLoose rfl rfl rfl (Nat.le_of_ble_eq_true rfl) ⟨Nat.le_of_ble_eq_true rfl, Nat.le_of_ble_eq_true rfl⟩ (xX4_passedLoose p0 (1 : Int32) σ hq6) rfl ?_
            exact AX.ireturn dX4_passed_83 rfl (vp_nar_int _) (kz (P := fun z => Q (some (.int z.1)) z.2) hz hk)
          · replace hz := (if_neg c119).symm.trans hz
            by_cases c120 : q1 = 120
            · replace hz := (if_pos c120).symm.trans hz
              refine AX.lookup (tgt := 97) (off := 92) dX4_passed_5 (by decide) (by rw [c120]; rfl) rfl ?_
              refine AX.aload_n dX4_passed_97 0 rfl rfl ?_
              refine AX.iconst dX4_passed_98 ic_1 ?_
              refine AX.iconst dX4_passed_99 ic_5 ?_
              obtain ⟨q7, hq7, hz⟩ := obind hz
              refine AX.callVw (r := 1) (As := [.int 1, .int 5]) (rest := []) (w := some (.int q7.1)) (st' := [.int q7.1]) dX4_passed_100 mlRX4_76 ylX4_addBars yvX4_addBars rfl rfl rfl (Nat.le_of_ble_eq_true rfl) ⟨Nat.le_of_ble_eq_true rfl, Nat.le_of_ble_eq_true rfl⟩ (xX4_addBars (1 : Int32) (5 : Int32) σ hq7) rfl ?_
              refine AX.if_eq (tgt := 112) dX4_passed_103 rfl (fun c8 => ?_) (fun c8 => ?_)
              · replace hz := (if_pos c8).symm.trans hz
                refine AX.aload_n dX4_passed_112 0 rfl rfl ?_
                refine AX.iload_n dX4_passed_113 1 rfl rfl ?_
                obtain ⟨q9, hq9, hz⟩ := obind hz
                refine AX.callVw (r := 1) (As := [.int p0]) (rest := []) (w := some (.int q9.1)) (st' := [.int q9.1]) dX4_passed_114 mlRX4_80 ylX4_faultAt yvX4_faultAt rfl rfl rfl (Nat.le_of_ble_eq_true rfl) ⟨Nat.le_of_ble_eq_true rfl, Nat.le_of_ble_eq_true rfl⟩ (xX4_faultAt p0 q7.2 hq9) rfl ?_
                exact AX.ireturn dX4_passed_117 rfl (vp_nar_int _) (kz (P := fun z => Q (some (.int z.1)) z.2) hz hk)
              · replace hz := (if_neg c8).symm.trans hz
                refine AX.iload_n dX4_passed_106 1 rfl rfl ?_
                refine AX.iconst dX4_passed_107 ic_1 ?_
                refine AX.iadd dX4_passed_108 ?_
                refine AX.goto (tgt := 117) dX4_passed_109 rfl ?_
                exact AX.ireturn dX4_passed_117 rfl (vp_nar_int _) (kz (P := fun z => Q (some (.int z.1)) z.2) hz hk)
            · replace hz := (if_neg c120).symm.trans hz
              refine AX.lookup (tgt := 118) (off := 113) dX4_passed_5 (by decide) (by show Op.lookupswitch.offset [(99, 86), (100, 65), (109, 79), (112, 59), (119, 72), (120, 92)] 113 (q1).toInt = 113; rw [lv_osw (a := 99) c99 rfl, lv_osw (a := 100) c100 rfl, lv_osw (a := 109) c109 rfl, lv_osw (a := 112) c112 rfl, lv_osw (a := 119) c119 rfl, lv_osw (a := 120) c120 rfl]; rfl) rfl ?_
              refine AX.aload_n dX4_passed_118 0 rfl rfl ?_
              refine AX.iload_n dX4_passed_119 1 rfl rfl ?_
              obtain ⟨q10, hq10, hz⟩ := obind hz
              refine AX.callVw (r := 1) (As := [.int p0]) (rest := []) (w := some (.int q10.1)) (st' := [.int q10.1]) dX4_passed_120 mlRX4_80 ylX4_faultAt yvX4_faultAt rfl rfl rfl (Nat.le_of_ble_eq_true rfl) ⟨Nat.le_of_ble_eq_true rfl, Nat.le_of_ble_eq_true rfl⟩ (xX4_faultAt p0 σ hq10) rfl ?_
              exact AX.ireturn dX4_passed_123 rfl (vp_nar_int _) (kz (P := fun z => Q (some (.int z.1)) z.2) hz hk)
theorem xX4_passed {G : ag_G} (p0 : Int32) (σ : St) {z : Int32 × St} (hz : fX4_passed p0 σ = some z) : AC G yX4_passed mX4_passed 3 67 [.ref (G.2.2.1 1), .int p0] σ (fun v σ1 => v = some (.int z.1) ∧ σ1 = z.2) := AC.of (plainFor_of_name (by decide)) rfl (Nat.le_of_ble_eq_true rfl) (wfX4_passed p0 σ hz ⟨rfl, rfl⟩)
noncomputable def fX4_understand_j70 (l1 : Int32) (l3 : Int32) (t0 : Int32) (σ : St) : Option ((Int32 × Int32 × Int32 × St) ⊕ (Int32 × St)) :=
  (fX4_passed l1 σ).bind fun q1 => some (.inl (q1.1, t0, l3 + 1, q1.2))
theorem wfX4_understand_j70 {G : ag_G} (l1 : Int32) (l3 : Int32) (t0 : Int32) (σ : St) {z : (Int32 × Int32 × Int32 × St) ⊕ (Int32 × St)} (hz : fX4_understand_j70 l1 l3 t0 σ = some z) {Q : Option Value → St → Prop} (K : ((Int32 × Int32 × Int32 × St) ⊕ (Int32 × St)) → Prop) (hback : ∀ a : Int32 × Int32 × Int32 × St, K (.inl a) → AX G mX4_understand 4 88 37 [(0, .ref (G.2.2.1 1)), (1, .int a.1), (2, .int a.2.1), (3, .int a.2.2.1)] [] a.2.2.2 Q) (hk : K z) : AX G mX4_understand 4 88 70 [(0, .ref (G.2.2.1 1)), (1, .int l1), (3, .int l3)] [.int t0] σ Q := by
  unfold fX4_understand_j70 at hz
  refine AX.istore_n (ls' := [(0, .ref (G.2.2.1 1)), (1, .int l1), (2, .int t0), (3, .int l3)]) dX4_understand_70 rfl (Nat.le_of_ble_eq_true rfl) rfl ?_
  refine AX.aload_n dX4_understand_71 0 rfl rfl ?_
  refine AX.iload_n dX4_understand_72 1 rfl rfl ?_
  obtain ⟨q1, hq1, hz⟩ := obind hz
  refine AX.callVw (r := 1) (As := [.int l1]) (rest := []) (w := some (.int q1.1)) (st' := [.int q1.1]) dX4_understand_73 mlRX4_64 ylX4_passed yvX4_passed rfl rfl rfl (Nat.le_of_ble_eq_true rfl) ⟨Nat.le_of_ble_eq_true rfl, Nat.le_of_ble_eq_true rfl⟩ (xX4_passed l1 σ hq1) rfl ?_
  refine AX.istore_n (ls' := [(0, .ref (G.2.2.1 1)), (1, .int q1.1), (2, .int t0), (3, .int l3)]) dX4_understand_76 rfl (Nat.le_of_ble_eq_true rfl) rfl ?_
  refine AX.iinc (v := l3 + 1) (ls' := [(0, .ref (G.2.2.1 1)), (1, .int q1.1), (2, .int t0), (3, .int (l3 + 1))]) 3 dX4_understand_77 rfl (Nat.le_of_ble_eq_true rfl) (congrArg (l3 + ·) ic_1) rfl ?_
  refine AX.goto (tgt := 37) dX4_understand_80 rfl ?_
  exact AX.sub (ls' := [(0, .ref (G.2.2.1 1)), (1, .int q1.1), (2, .int t0), (3, .int (l3 + 1))]) [0, 1, 2, 3] rfl (hback (q1.1, t0, l3 + 1, q1.2) (kz (P := K) hz hk))
noncomputable def fX4_understand_b37 (l1 : Int32) (l2 : Int32) (l3 : Int32) (σ : St) : Option ((Int32 × Int32 × Int32 × St) ⊕ (Int32 × St)) :=
  if (60 : Int32) < l3 then some (.inr (l1, σ)) else if l2 = (0 : Int32) then some (.inr (l1, σ)) else if (σ.1 1 9) = (-1 : Int32) then (fX4_byteAt l1 σ).bind fun q4 => if q4 = (120 : Int32) then fX4_understand_j70 l1 l3 0 σ else fX4_understand_j70 l1 l3 1 σ else some (.inr (l1, σ))
theorem wfX4_understand_b37 {G : ag_G} (l1 : Int32) (l2 : Int32) (l3 : Int32) (σ : St) {z : (Int32 × Int32 × Int32 × St) ⊕ (Int32 × St)} (hz : fX4_understand_b37 l1 l2 l3 σ = some z) {Q : Option Value → St → Prop} (K : ((Int32 × Int32 × Int32 × St) ⊕ (Int32 × St)) → Prop) (hback : ∀ a : Int32 × Int32 × Int32 × St, K (.inl a) → AX G mX4_understand 4 88 37 [(0, .ref (G.2.2.1 1)), (1, .int a.1), (2, .int a.2.1), (3, .int a.2.2.1)] [] a.2.2.2 Q) (hexit0 : ∀ a : Int32 × St, K (.inr a) → AX G mX4_understand 4 88 83 [(0, .ref (G.2.2.1 1)), (1, .int a.1)] [] a.2 Q) (hk : K z) : AX G mX4_understand 4 88 37 [(0, .ref (G.2.2.1 1)), (1, .int l1), (2, .int l2), (3, .int l3)] [] σ Q := by
  unfold fX4_understand_b37 at hz
  refine AX.iload_n dX4_understand_37 3 rfl rfl ?_
  refine AX.bipush dX4_understand_38 bp_60 ?_
  refine AX.icmp_gt (tgt := 83) dX4_understand_40 rfl (fun c1 => ?_) (fun c1 => ?_)
  · replace hz := (if_pos c1).symm.trans hz
    exact AX.sub (ls' := [(0, .ref (G.2.2.1 1)), (1, .int l1)]) [0, 1] rfl (hexit0 (l1, σ) (kz (P := K) hz hk))
  · replace hz := (if_neg c1).symm.trans hz
    refine AX.iload_n dX4_understand_43 2 rfl rfl ?_
    refine AX.if_eq (tgt := 83) dX4_understand_44 rfl (fun c2 => ?_) (fun c2 => ?_)
    · replace hz := (if_pos c2).symm.trans hz
      exact AX.sub (ls' := [(0, .ref (G.2.2.1 1)), (1, .int l1)]) [0, 1] rfl (hexit0 (l1, σ) (kz (P := K) hz hk))
    · replace hz := (if_neg c2).symm.trans hz
      refine AX.aload_n dX4_understand_47 0 rfl rfl ?_
      refine AX.getIE (v := σ.1 1 9) dX4_understand_48 flRX4_40 rfl rfl rfl ?_
      refine AX.iconst dX4_understand_51 ic_m1 ?_
      refine AX.icmp_ne (tgt := 83) dX4_understand_52 rfl (fun c3 => ?_) (fun c3 => ?_)
      · replace hz := (if_neg c3).symm.trans hz
        exact AX.sub (ls' := [(0, .ref (G.2.2.1 1)), (1, .int l1)]) [0, 1] rfl (hexit0 (l1, σ) (kz (P := K) hz hk))
      · replace hz := (if_pos c3).symm.trans hz
        refine AX.aload_n dX4_understand_55 0 rfl rfl ?_
        refine AX.iload_n dX4_understand_56 1 rfl rfl ?_
        obtain ⟨q4, hq4, hz⟩ := obind hz
        refine AX.callVw (r := 1) (As := [.int l1]) (rest := []) (w := some (.int q4)) (st' := [.int q4]) dX4_understand_57 mlRX4_60 ylX4_byteAt yvX4_byteAt rfl rfl rfl (Nat.le_of_ble_eq_true rfl) ⟨Nat.le_of_ble_eq_true rfl, Nat.le_of_ble_eq_true rfl⟩ (xX4_byteAt l1 σ hq4) rfl ?_
        refine AX.bipush dX4_understand_60 bp_120 ?_
        refine AX.icmp_eq (tgt := 69) dX4_understand_62 rfl (fun c5 => ?_) (fun c5 => ?_)
        · replace hz := (if_pos c5).symm.trans hz
          refine AX.iconst dX4_understand_69 ic_0 ?_
          exact AX.sub (ls' := [(0, .ref (G.2.2.1 1)), (1, .int l1), (3, .int l3)]) [0, 1, 3] rfl (wfX4_understand_j70 l1 l3 0 σ hz K hback hk)
        · replace hz := (if_neg c5).symm.trans hz
          refine AX.iconst dX4_understand_65 ic_1 ?_
          refine AX.goto (tgt := 70) dX4_understand_66 rfl ?_
          exact AX.sub (ls' := [(0, .ref (G.2.2.1 1)), (1, .int l1), (3, .int l3)]) [0, 1, 3] rfl (wfX4_understand_j70 l1 l3 1 σ hz K hback hk)
noncomputable def fX4_understand_j104  (σ : St) : Option (St) :=
  if (σ.1 1 9) = (-1 : Int32) then some σ else some (sI (sI (sI σ 1 6 0) 1 7 0) 1 8 0)
theorem wfX4_understand_j104 {G : ag_G}  (σ : St) {z : St} (hz : fX4_understand_j104  σ = some z) {Q : Option Value → St → Prop} (hk : Q (none) z) : AX G mX4_understand 4 88 104 [(0, .ref (G.2.2.1 1))] [] σ Q := by
  unfold fX4_understand_j104 at hz
  refine AX.aload_n dX4_understand_104 0 rfl rfl ?_
  refine AX.getIE (v := σ.1 1 9) dX4_understand_105 flRX4_40 rfl rfl rfl ?_
  refine AX.iconst dX4_understand_108 ic_m1 ?_
  refine AX.icmp_eq (tgt := 127) dX4_understand_109 rfl (fun c1 => ?_) (fun c1 => ?_)
  · replace hz := (if_pos c1).symm.trans hz
    exact AX.vreturn dX4_understand_127 rfl (kz (P := fun z => Q (none) z) hz hk)
  · replace hz := (if_neg c1).symm.trans hz
    refine AX.aload_n dX4_understand_112 0 rfl rfl ?_
    refine AX.iconst dX4_understand_113 ic_0 ?_
    refine AX.putI dX4_understand_114 fpRX4_31 rfl rfl (vp_nar_int _) rfl ?_
    refine AX.aload_n dX4_understand_117 0 rfl rfl ?_
    refine AX.iconst dX4_understand_118 ic_0 ?_
    refine AX.putI dX4_understand_119 fpRX4_34 rfl rfl (vp_nar_int _) rfl ?_
    refine AX.aload_n dX4_understand_122 0 rfl rfl ?_
    refine AX.iconst dX4_understand_123 ic_0 ?_
    refine AX.putI dX4_understand_124 fpRX4_37 rfl rfl (vp_nar_int _) rfl ?_
    exact AX.vreturn dX4_understand_127 rfl (kz (P := fun z => Q (none) z) hz hk)
noncomputable def fX4_understand_j34 (l1 : Int32) (t0 : Int32) (σ : St) : Option (St) :=
  (lpc (fun s => fX4_understand_b37  s.1 s.2.1 s.2.2.1 s.2.2.2) (l1, t0, 0, σ)).bind fun r1 => if (r1.2.1 1 9) = (-1 : Int32) then if (r1.2.1 1 5) ≤ r1.1 then fX4_understand_j104  r1.2 else fX4_understand_j104  (sI r1.2 1 9 r1.1) else fX4_understand_j104  r1.2
theorem wfX4_understand_j34 {G : ag_G} (l1 : Int32) (t0 : Int32) (σ : St) {z : St} (hz : fX4_understand_j34 l1 t0 σ = some z) {Q : Option Value → St → Prop} (hk : Q (none) z) : AX G mX4_understand 4 88 34 [(0, .ref (G.2.2.1 1)), (1, .int l1)] [.int t0] σ Q := by
  unfold fX4_understand_j34 at hz
  refine AX.istore_n (ls' := [(0, .ref (G.2.2.1 1)), (1, .int l1), (2, .int t0)]) dX4_understand_34 rfl (Nat.le_of_ble_eq_true rfl) rfl ?_
  refine AX.iconst dX4_understand_35 ic_0 ?_
  refine AX.istore_n (ls' := [(0, .ref (G.2.2.1 1)), (1, .int l1), (2, .int t0), (3, .int 0)]) dX4_understand_36 rfl (Nat.le_of_ble_eq_true rfl) rfl ?_
  obtain ⟨r1, hr1, hz⟩ := obind hz
  refine AX.sub (ls' := [(0, .ref (G.2.2.1 1)), (1, .int l1), (2, .int t0), (3, .int 0)]) [0, 1, 2, 3] rfl ?_
  refine lpc_ind (s := (l1, t0, 0, σ)) (r := r1) (fun s => AX G mX4_understand 4 88 37 [(0, .ref (G.2.2.1 1)), (1, .int s.1), (2, .int s.2.1), (3, .int s.2.2.1)] [] s.2.2.2 Q) (fun a : Int32 × St => AX G mX4_understand 4 88 83 [(0, .ref (G.2.2.1 1)), (1, .int a.1)] [] a.2 Q) hr1 (fun s z hb hK => wfX4_understand_b37  s.1 s.2.1 s.2.2.1 s.2.2.2 hb (Sum.elim (fun s => AX G mX4_understand 4 88 37 [(0, .ref (G.2.2.1 1)), (1, .int s.1), (2, .int s.2.1), (3, .int s.2.2.1)] [] s.2.2.2 Q) (fun a : Int32 × St => AX G mX4_understand 4 88 83 [(0, .ref (G.2.2.1 1)), (1, .int a.1)] [] a.2 Q)) (fun _ h9 => h9) (fun _ h9 => h9) hK) ?_
  refine AX.aload_n dX4_understand_83 0 rfl rfl ?_
  refine AX.getIE (v := r1.2.1 1 9) dX4_understand_84 flRX4_40 rfl rfl rfl ?_
  refine AX.iconst dX4_understand_87 ic_m1 ?_
  refine AX.icmp_ne (tgt := 104) dX4_understand_88 rfl (fun c2 => ?_) (fun c2 => ?_)
  · replace hz := (if_neg c2).symm.trans hz
    exact AX.sub (ls' := [(0, .ref (G.2.2.1 1))]) [0] rfl (wfX4_understand_j104  r1.2 hz hk)
  · replace hz := (if_pos c2).symm.trans hz
    refine AX.iload_n dX4_understand_91 1 rfl rfl ?_
    refine AX.aload_n dX4_understand_92 0 rfl rfl ?_
    refine AX.getIE (v := r1.2.1 1 5) dX4_understand_93 flRX4_27 rfl rfl rfl ?_
    refine AX.icmp_ge (tgt := 104) dX4_understand_96 rfl (fun c3 => ?_) (fun c3 => ?_)
    · replace hz := (if_pos c3).symm.trans hz
      exact AX.sub (ls' := [(0, .ref (G.2.2.1 1))]) [0] rfl (wfX4_understand_j104  r1.2 hz hk)
    · replace hz := (if_neg c3).symm.trans hz
      refine AX.aload_n dX4_understand_99 0 rfl rfl ?_
      refine AX.iload_n dX4_understand_100 1 rfl rfl ?_
      refine AX.putI dX4_understand_101 fpRX4_40 rfl rfl (vp_nar_int _) rfl ?_
      exact AX.sub (ls' := [(0, .ref (G.2.2.1 1))]) [0] rfl (wfX4_understand_j104  (sI r1.2 1 9 r1.1) hz hk)
noncomputable def fX4_understand  (σ : St) : Option (St) :=
  if (σ.1 1 5) ≤ (0 : Int32) then fX4_understand_j34 0 0 (sI (sI (sI (sI σ 1 6 0) 1 7 0) 1 8 0) 1 9 (-1)) else fX4_understand_j34 0 1 (sI (sI (sI (sI σ 1 6 0) 1 7 0) 1 8 0) 1 9 (-1))
theorem wfX4_understand {G : ag_G}  (σ : St) {z : St} (hz : fX4_understand  σ = some z) {Q : Option Value → St → Prop} (hk : Q (none) z) : AX G mX4_understand 4 88 0 [(0, .ref (G.2.2.1 1))] [] σ Q := by
  unfold fX4_understand at hz
  refine AX.aload_n dX4_understand_0 0 rfl rfl ?_
  refine AX.iconst dX4_understand_1 ic_0 ?_
  refine AX.putI dX4_understand_2 fpRX4_31 rfl rfl (vp_nar_int _) rfl ?_
  refine AX.aload_n dX4_understand_5 0 rfl rfl ?_
  refine AX.iconst dX4_understand_6 ic_0 ?_
  refine AX.putI dX4_understand_7 fpRX4_34 rfl rfl (vp_nar_int _) rfl ?_
  refine AX.aload_n dX4_understand_10 0 rfl rfl ?_
  refine AX.iconst dX4_understand_11 ic_0 ?_
  refine AX.putI dX4_understand_12 fpRX4_37 rfl rfl (vp_nar_int _) rfl ?_
  refine AX.aload_n dX4_understand_15 0 rfl rfl ?_
  refine AX.iconst dX4_understand_16 ic_m1 ?_
  refine AX.putI dX4_understand_17 fpRX4_40 rfl rfl (vp_nar_int _) rfl ?_
  refine AX.iconst dX4_understand_20 ic_0 ?_
  refine AX.istore_n (ls' := [(0, .ref (G.2.2.1 1)), (1, .int 0)]) dX4_understand_21 rfl (Nat.le_of_ble_eq_true rfl) rfl ?_
  refine AX.aload_n dX4_understand_22 0 rfl rfl ?_
  refine AX.getIE (v := σ.1 1 5) dX4_understand_23 flRX4_27 rfl rfl rfl ?_
  refine AX.if_le (tgt := 33) dX4_understand_26 rfl (fun c1 => ?_) (fun c1 => ?_)
  · replace hz := (if_pos c1).symm.trans hz
    refine AX.iconst dX4_understand_33 ic_0 ?_
    exact AX.sub (ls' := [(0, .ref (G.2.2.1 1)), (1, .int 0)]) [0, 1] rfl (wfX4_understand_j34 0 0 (sI (sI (sI (sI σ 1 6 0) 1 7 0) 1 8 0) 1 9 (-1)) hz hk)
  · replace hz := (if_neg c1).symm.trans hz
    refine AX.iconst dX4_understand_29 ic_1 ?_
    refine AX.goto (tgt := 34) dX4_understand_30 rfl ?_
    exact AX.sub (ls' := [(0, .ref (G.2.2.1 1)), (1, .int 0)]) [0, 1] rfl (wfX4_understand_j34 0 1 (sI (sI (sI (sI σ 1 6 0) 1 7 0) 1 8 0) 1 9 (-1)) hz hk)
theorem xX4_understand {G : ag_G}  (σ : St) {z : St} (hz : fX4_understand  σ = some z) : AC G yX4_understand mX4_understand 4 88 [.ref (G.2.2.1 1)] σ (fun v σ1 => v = none ∧ σ1 = z) := AC.of (plainFor_of_name (by decide)) rfl (Nat.le_of_ble_eq_true rfl) (wfX4_understand  σ hz ⟨rfl, rfl⟩)
noncomputable def fX4_append (p0 : Int32) (σ : St) : Option (Int32 × St) :=
  if (σ.1 1 5) < (0 : Int32) then some ((0 : Int32), σ) else if (σ.1 1 5) < (60 : Int32) then if inb (σ.1 1 5) 60 = true then (fX4_understand  (sI (sI σ 2 ((σ.1 1 5).toNatClampNeg) p0) 1 5 ((σ.1 1 5) + (1 : Int32)))).bind fun q4 => some ((1 : Int32), q4) else none else some ((0 : Int32), σ)
theorem wfX4_append {G : ag_G} (p0 : Int32) (σ : St) {z : Int32 × St} (hz : fX4_append p0 σ = some z) {Q : Option Value → St → Prop} (hk : Q (some (.int z.1)) z.2) : AX G mX4_append 5 111 0 [(0, .ref (G.2.2.1 1)), (1, .int p0)] [] σ Q := by
  unfold fX4_append at hz
  refine AX.aload_n dX4_append_0 0 rfl rfl ?_
  refine AX.getIE (v := σ.1 1 5) dX4_append_1 flRX4_27 rfl rfl rfl ?_
  refine AX.if_lt (tgt := 16) dX4_append_4 rfl (fun c1 => ?_) (fun c1 => ?_)
  · replace hz := (if_pos c1).symm.trans hz
    refine AX.iconst dX4_append_16 ic_0 ?_
    exact AX.ireturn dX4_append_17 rfl nb_0 (kz (P := fun z => Q (some (.int z.1)) z.2) hz hk)
  · replace hz := (if_neg c1).symm.trans hz
    refine AX.aload_n dX4_append_7 0 rfl rfl ?_
    refine AX.getIE (v := σ.1 1 5) dX4_append_8 flRX4_27 rfl rfl rfl ?_
    refine AX.bipush dX4_append_11 bp_60 ?_
    refine AX.icmp_lt (tgt := 18) dX4_append_13 rfl (fun c2 => ?_) (fun c2 => ?_)
    · replace hz := (if_pos c2).symm.trans hz
      refine AX.aload_n dX4_append_18 0 rfl rfl ?_
      refine AX.getR dX4_append_19 flRX4_11 rfl rfl ?_
      refine AX.aload_n dX4_append_22 0 rfl rfl ?_
      refine AX.getIE (v := σ.1 1 5) dX4_append_23 flRX4_27 rfl rfl rfl ?_
      refine AX.iload_n dX4_append_26 1 rfl rfl ?_
      obtain ⟨b3, hz⟩ := ite_n hz
      refine AX.iast dX4_append_27 rfl b3 ?_
      refine AX.aload_n dX4_append_28 0 rfl rfl ?_
      refine AX.dup dX4_append_29 rfl ?_
      refine AX.getIE (v := σ.1 1 5) dX4_append_30 flRX4_27 rfl rfl rfl ?_
      refine AX.iconst dX4_append_33 ic_1 ?_
      refine AX.iadd dX4_append_34 ?_
      refine AX.putI dX4_append_35 fpRX4_27 rfl rfl (vp_nar_int _) rfl ?_
      refine AX.aload_n dX4_append_38 0 rfl rfl ?_
      obtain ⟨q4, hq4, hz⟩ := obind hz
      refine AX.callVw (r := 1) (As := []) (rest := []) (w := none) (st' := []) dX4_append_39 mlRX4_43 ylX4_understand yvX4_understand rfl rfl rfl (Nat.le_of_ble_eq_true rfl) ⟨Nat.le_of_ble_eq_true rfl, Nat.le_of_ble_eq_true rfl⟩ (xX4_understand  (sI (sI σ 2 ((σ.1 1 5).toNatClampNeg) p0) 1 5 ((σ.1 1 5) + (1 : Int32))) hq4) rfl ?_
      refine AX.iconst dX4_append_42 ic_1 ?_
      exact AX.ireturn dX4_append_43 rfl nb_1 (kz (P := fun z => Q (some (.int z.1)) z.2) hz hk)
    · replace hz := (if_neg c2).symm.trans hz
      refine AX.iconst dX4_append_16 ic_0 ?_
      exact AX.ireturn dX4_append_17 rfl nb_0 (kz (P := fun z => Q (some (.int z.1)) z.2) hz hk)
theorem xX4_append {G : ag_G} (p0 : Int32) (σ : St) {z : Int32 × St} (hz : fX4_append p0 σ = some z) : AC G yX4_append mX4_append 5 111 [.ref (G.2.2.1 1), .int p0] σ (fun v σ1 => v = some (.int z.1) ∧ σ1 = z.2) := AC.of (plainFor_of_name (by decide)) rfl (Nat.le_of_ble_eq_true rfl) (wfX4_append p0 σ hz ⟨rfl, rfl⟩)
noncomputable def fX4_shorten (p0 : Int32) (σ : St) : Option (St) :=
  (fJ9_max_7cf53 (0 : Int32) ((σ.1 1 5) - p0)).bind fun q1 => (fX4_understand  (sI σ 1 5 q1)).bind fun q2 => some q2
theorem wfX4_shorten {G : ag_G} (p0 : Int32) (σ : St) {z : St} (hz : fX4_shorten p0 σ = some z) {Q : Option Value → St → Prop} (hk : Q (none) z) : AX G mX4_shorten 5 111 0 [(0, .ref (G.2.2.1 1)), (1, .int p0)] [] σ Q := by
  unfold fX4_shorten at hz
  refine AX.aload_n dX4_shorten_0 0 rfl rfl ?_
  refine AX.iconst dX4_shorten_1 ic_0 ?_
  refine AX.aload_n dX4_shorten_2 0 rfl rfl ?_
  refine AX.getIE (v := σ.1 1 5) dX4_shorten_3 flRX4_27 rfl rfl rfl ?_
  refine AX.iload_n dX4_shorten_6 1 rfl rfl ?_
  refine AX.isub dX4_shorten_7 ?_
  obtain ⟨q1, hq1, hz⟩ := obind hz
  refine AX.callSw (As := [.int 0, .int ((σ.1 1 5) - p0)]) (rest := [.ref (G.2.2.1 1)]) (w := some (.int q1)) (st' := [.int q1, .ref (G.2.2.1 1)]) dX4_shorten_8 mlRX4_46 ylJ9_max_7cf53 ysJ9_max_7cf53 rfl rfl (Nat.le_of_ble_eq_true rfl) ⟨Nat.le_of_ble_eq_true rfl, Nat.le_of_ble_eq_true rfl⟩ (xJ9_max_7cf53 (0 : Int32) ((σ.1 1 5) - p0) σ hq1) rfl ?_
  refine AX.putI dX4_shorten_11 fpRX4_27 rfl rfl (vp_nar_int _) rfl ?_
  refine AX.aload_n dX4_shorten_14 0 rfl rfl ?_
  obtain ⟨q2, hq2, hz⟩ := obind hz
  refine AX.callVw (r := 1) (As := []) (rest := []) (w := none) (st' := []) dX4_shorten_15 mlRX4_43 ylX4_understand yvX4_understand rfl rfl rfl (Nat.le_of_ble_eq_true rfl) ⟨Nat.le_of_ble_eq_true rfl, Nat.le_of_ble_eq_true rfl⟩ (xX4_understand  (sI σ 1 5 q1) hq2) rfl ?_
  exact AX.vreturn dX4_shorten_18 rfl (kz (P := fun z => Q (none) z) hz hk)
theorem xX4_shorten {G : ag_G} (p0 : Int32) (σ : St) {z : St} (hz : fX4_shorten p0 σ = some z) : AC G yX4_shorten mX4_shorten 5 111 [.ref (G.2.2.1 1), .int p0] σ (fun v σ1 => v = none ∧ σ1 = z) := AC.of (plainFor_of_name (by decide)) rfl (Nat.le_of_ble_eq_true rfl) (wfX4_shorten p0 σ hz ⟨rfl, rfl⟩)
noncomputable def fX4_hasBar (p0 : Int32) (σ : St) : Option (Int32) :=
  if p0 < (0 : Int32) then some (0 : Int32) else if (σ.1 1 6) ≤ p0 then some (0 : Int32) else some (1 : Int32)
theorem wfX4_hasBar {G : ag_G} (p0 : Int32) (σ : St) {z : Int32} (hz : fX4_hasBar p0 σ = some z) {Q : Option Value → St → Prop} (hk : Q (some (.int z)) σ) : AX G mX4_hasBar 0 0 0 [(0, .ref (G.2.2.1 1)), (1, .int p0)] [] σ Q := by
  unfold fX4_hasBar at hz
  refine AX.iload_n dX4_hasBar_0 1 rfl rfl ?_
  refine AX.if_lt (tgt := 16) dX4_hasBar_1 rfl (fun c1 => ?_) (fun c1 => ?_)
  · replace hz := (if_pos c1).symm.trans hz
    refine AX.iconst dX4_hasBar_16 ic_0 ?_
    exact AX.ireturn dX4_hasBar_17 rfl nb_0 (kz (P := fun z => Q (some (.int z)) σ) hz hk)
  · replace hz := (if_neg c1).symm.trans hz
    refine AX.iload_n dX4_hasBar_4 1 rfl rfl ?_
    refine AX.aload_n dX4_hasBar_5 0 rfl rfl ?_
    refine AX.getIE (v := σ.1 1 6) dX4_hasBar_6 flRX4_31 rfl rfl rfl ?_
    refine AX.icmp_ge (tgt := 16) dX4_hasBar_9 rfl (fun c2 => ?_) (fun c2 => ?_)
    · replace hz := (if_pos c2).symm.trans hz
      refine AX.iconst dX4_hasBar_16 ic_0 ?_
      exact AX.ireturn dX4_hasBar_17 rfl nb_0 (kz (P := fun z => Q (some (.int z)) σ) hz hk)
    · replace hz := (if_neg c2).symm.trans hz
      refine AX.iconst dX4_hasBar_12 ic_1 ?_
      refine AX.goto (tgt := 17) dX4_hasBar_13 rfl ?_
      exact AX.ireturn dX4_hasBar_17 rfl nb_1 (kz (P := fun z => Q (some (.int z)) σ) hz hk)
theorem xX4_hasBar {G : ag_G} (p0 : Int32) (σ : St) {z : Int32} (hz : fX4_hasBar p0 σ = some z) : AC G yX4_hasBar mX4_hasBar 0 0 [.ref (G.2.2.1 1), .int p0] σ (fun v σ1 => v = some (.int z) ∧ σ1 = σ) := AC.of (plainFor_of_name (by decide)) rfl (Nat.le_of_ble_eq_true rfl) (wfX4_hasBar p0 σ hz ⟨rfl, rfl⟩)
noncomputable def fX4_isLoose (p0 : Int32) (σ : St) : Option (Int32) :=
  (fX4_hasBar p0 σ).bind fun q1 => if q1 = (0 : Int32) then some (0 : Int32) else (fX10_itemAt 3 p0 σ).bind fun q3 => if (2 : Int32) < q3 then some (0 : Int32) else some (1 : Int32)
theorem wfX4_isLoose {G : ag_G} (p0 : Int32) (σ : St) {z : Int32} (hz : fX4_isLoose p0 σ = some z) {Q : Option Value → St → Prop} (hk : Q (some (.int z)) σ) : AX G mX4_isLoose 1 21 0 [(0, .ref (G.2.2.1 1)), (1, .int p0)] [] σ Q := by
  unfold fX4_isLoose at hz
  refine AX.aload_n dX4_isLoose_0 0 rfl rfl ?_
  refine AX.iload_n dX4_isLoose_1 1 rfl rfl ?_
  obtain ⟨q1, hq1, hz⟩ := obind hz
  refine AX.callVw (r := 1) (As := [.int p0]) (rest := []) (w := some (.int q1)) (st' := [.int q1]) dX4_isLoose_2 mlRX4_52 ylX4_hasBar yvX4_hasBar rfl rfl rfl (Nat.le_of_ble_eq_true rfl) ⟨Nat.le_of_ble_eq_true rfl, Nat.le_of_ble_eq_true rfl⟩ (xX4_hasBar p0 σ hq1) rfl ?_
  refine AX.if_eq (tgt := 24) dX4_isLoose_5 rfl (fun c2 => ?_) (fun c2 => ?_)
  · replace hz := (if_pos c2).symm.trans hz
    refine AX.iconst dX4_isLoose_24 ic_0 ?_
    exact AX.ireturn dX4_isLoose_25 rfl nb_0 (kz (P := fun z => Q (some (.int z)) σ) hz hk)
  · replace hz := (if_neg c2).symm.trans hz
    refine AX.aload_n dX4_isLoose_8 0 rfl rfl ?_
    refine AX.getR dX4_isLoose_9 flRX4_15 rfl rfl ?_
    refine AX.iload_n dX4_isLoose_12 1 rfl rfl ?_
    obtain ⟨q3, hq3, hz⟩ := obind hz
    refine AX.callSw (As := [.ref (G.2.2.1 3), .int p0]) (rest := []) (w := some (.int q3)) (st' := [.int q3]) dX4_isLoose_13 mlRX4_56 ylX10_itemAt ysX10_itemAt rfl rfl (Nat.le_of_ble_eq_true rfl) ⟨Nat.le_of_ble_eq_true rfl, Nat.le_of_ble_eq_true rfl⟩ (xX10_itemAt 3 p0 σ hq3) rfl ?_
    refine AX.iconst dX4_isLoose_16 ic_2 ?_
    refine AX.icmp_gt (tgt := 24) dX4_isLoose_17 rfl (fun c4 => ?_) (fun c4 => ?_)
    · replace hz := (if_pos c4).symm.trans hz
      refine AX.iconst dX4_isLoose_24 ic_0 ?_
      exact AX.ireturn dX4_isLoose_25 rfl nb_0 (kz (P := fun z => Q (some (.int z)) σ) hz hk)
    · replace hz := (if_neg c4).symm.trans hz
      refine AX.iconst dX4_isLoose_20 ic_1 ?_
      refine AX.goto (tgt := 25) dX4_isLoose_21 rfl ?_
      exact AX.ireturn dX4_isLoose_25 rfl nb_1 (kz (P := fun z => Q (some (.int z)) σ) hz hk)
theorem xX4_isLoose {G : ag_G} (p0 : Int32) (σ : St) {z : Int32} (hz : fX4_isLoose p0 σ = some z) : AC G yX4_isLoose mX4_isLoose 1 21 [.ref (G.2.2.1 1), .int p0] σ (fun v σ1 => v = some (.int z) ∧ σ1 = σ) := AC.of (plainFor_of_name (by decide)) rfl (Nat.le_of_ble_eq_true rfl) (wfX4_isLoose p0 σ hz ⟨rfl, rfl⟩)
noncomputable def fX4_kindOf (p0 : Int32) (σ : St) : Option (Int32) :=
  (fX10_itemAt 3 p0 σ).bind fun q1 => some q1
theorem wfX4_kindOf {G : ag_G} (p0 : Int32) (σ : St) {z : Int32} (hz : fX4_kindOf p0 σ = some z) {Q : Option Value → St → Prop} (hk : Q (some (.int z)) σ) : AX G mX4_kindOf 1 21 0 [(0, .ref (G.2.2.1 1)), (1, .int p0)] [] σ Q := by
  unfold fX4_kindOf at hz
  refine AX.aload_n dX4_kindOf_0 0 rfl rfl ?_
  refine AX.getR dX4_kindOf_1 flRX4_15 rfl rfl ?_
  refine AX.iload_n dX4_kindOf_4 1 rfl rfl ?_
  obtain ⟨q1, hq1, hz⟩ := obind hz
  refine AX.callSw (As := [.ref (G.2.2.1 3), .int p0]) (rest := []) (w := some (.int q1)) (st' := [.int q1]) dX4_kindOf_5 mlRX4_56 ylX10_itemAt ysX10_itemAt rfl rfl (Nat.le_of_ble_eq_true rfl) ⟨Nat.le_of_ble_eq_true rfl, Nat.le_of_ble_eq_true rfl⟩ (xX10_itemAt 3 p0 σ hq1) rfl ?_
  exact AX.ireturn dX4_kindOf_8 rfl (vp_nar_int _) (kz (P := fun z => Q (some (.int z)) σ) hz hk)
theorem xX4_kindOf {G : ag_G} (p0 : Int32) (σ : St) {z : Int32} (hz : fX4_kindOf p0 σ = some z) : AC G yX4_kindOf mX4_kindOf 1 21 [.ref (G.2.2.1 1), .int p0] σ (fun v σ1 => v = some (.int z) ∧ σ1 = σ) := AC.of (plainFor_of_name (by decide)) rfl (Nat.le_of_ble_eq_true rfl) (wfX4_kindOf p0 σ hz ⟨rfl, rfl⟩)
noncomputable def fX4_cueIn (p0 : Int32) (σ : St) : Option (Int32) :=
  (fX4_hasBar p0 σ).bind fun q1 => if q1 = (0 : Int32) then some (-1 : Int32) else (fX10_itemAt 4 p0 σ).bind fun q3 => some q3
theorem wfX4_cueIn {G : ag_G} (p0 : Int32) (σ : St) {z : Int32} (hz : fX4_cueIn p0 σ = some z) {Q : Option Value → St → Prop} (hk : Q (some (.int z)) σ) : AX G mX4_cueIn 1 21 0 [(0, .ref (G.2.2.1 1)), (1, .int p0)] [] σ Q := by
  unfold fX4_cueIn at hz
  refine AX.aload_n dX4_cueIn_0 0 rfl rfl ?_
  refine AX.iload_n dX4_cueIn_1 1 rfl rfl ?_
  obtain ⟨q1, hq1, hz⟩ := obind hz
  refine AX.callVw (r := 1) (As := [.int p0]) (rest := []) (w := some (.int q1)) (st' := [.int q1]) dX4_cueIn_2 mlRX4_52 ylX4_hasBar yvX4_hasBar rfl rfl rfl (Nat.le_of_ble_eq_true rfl) ⟨Nat.le_of_ble_eq_true rfl, Nat.le_of_ble_eq_true rfl⟩ (xX4_hasBar p0 σ hq1) rfl ?_
  refine AX.if_eq (tgt := 19) dX4_cueIn_5 rfl (fun c2 => ?_) (fun c2 => ?_)
  · replace hz := (if_pos c2).symm.trans hz
    refine AX.iconst dX4_cueIn_19 ic_m1 ?_
    exact AX.ireturn dX4_cueIn_20 rfl (vp_nar_int _) (kz (P := fun z => Q (some (.int z)) σ) hz hk)
  · replace hz := (if_neg c2).symm.trans hz
    refine AX.aload_n dX4_cueIn_8 0 rfl rfl ?_
    refine AX.getR dX4_cueIn_9 flRX4_18 rfl rfl ?_
    refine AX.iload_n dX4_cueIn_12 1 rfl rfl ?_
    obtain ⟨q3, hq3, hz⟩ := obind hz
    refine AX.callSw (As := [.ref (G.2.2.1 4), .int p0]) (rest := []) (w := some (.int q3)) (st' := [.int q3]) dX4_cueIn_13 mlRX4_56 ylX10_itemAt ysX10_itemAt rfl rfl (Nat.le_of_ble_eq_true rfl) ⟨Nat.le_of_ble_eq_true rfl, Nat.le_of_ble_eq_true rfl⟩ (xX10_itemAt 4 p0 σ hq3) rfl ?_
    refine AX.goto (tgt := 20) dX4_cueIn_16 rfl ?_
    exact AX.ireturn dX4_cueIn_20 rfl (vp_nar_int _) (kz (P := fun z => Q (some (.int z)) σ) hz hk)
theorem xX4_cueIn {G : ag_G} (p0 : Int32) (σ : St) {z : Int32} (hz : fX4_cueIn p0 σ = some z) : AC G yX4_cueIn mX4_cueIn 1 21 [.ref (G.2.2.1 1), .int p0] σ (fun v σ1 => v = some (.int z) ∧ σ1 = σ) := AC.of (plainFor_of_name (by decide)) rfl (Nat.le_of_ble_eq_true rfl) (wfX4_cueIn p0 σ hz ⟨rfl, rfl⟩)
noncomputable def fX4_tuneOf (p0 : Int32) (σ : St) : Option (Int32) :=
  (fX4_hasBar p0 σ).bind fun q1 => if q1 = (0 : Int32) then some (-1 : Int32) else (fX10_itemAt 5 p0 σ).bind fun q3 => some q3
theorem wfX4_tuneOf {G : ag_G} (p0 : Int32) (σ : St) {z : Int32} (hz : fX4_tuneOf p0 σ = some z) {Q : Option Value → St → Prop} (hk : Q (some (.int z)) σ) : AX G mX4_tuneOf 1 21 0 [(0, .ref (G.2.2.1 1)), (1, .int p0)] [] σ Q := by
  unfold fX4_tuneOf at hz
  refine AX.aload_n dX4_tuneOf_0 0 rfl rfl ?_
  refine AX.iload_n dX4_tuneOf_1 1 rfl rfl ?_
  obtain ⟨q1, hq1, hz⟩ := obind hz
  refine AX.callVw (r := 1) (As := [.int p0]) (rest := []) (w := some (.int q1)) (st' := [.int q1]) dX4_tuneOf_2 mlRX4_52 ylX4_hasBar yvX4_hasBar rfl rfl rfl (Nat.le_of_ble_eq_true rfl) ⟨Nat.le_of_ble_eq_true rfl, Nat.le_of_ble_eq_true rfl⟩ (xX4_hasBar p0 σ hq1) rfl ?_
  refine AX.if_eq (tgt := 19) dX4_tuneOf_5 rfl (fun c2 => ?_) (fun c2 => ?_)
  · replace hz := (if_pos c2).symm.trans hz
    refine AX.iconst dX4_tuneOf_19 ic_m1 ?_
    exact AX.ireturn dX4_tuneOf_20 rfl (vp_nar_int _) (kz (P := fun z => Q (some (.int z)) σ) hz hk)
  · replace hz := (if_neg c2).symm.trans hz
    refine AX.aload_n dX4_tuneOf_8 0 rfl rfl ?_
    refine AX.getR dX4_tuneOf_9 flRX4_21 rfl rfl ?_
    refine AX.iload_n dX4_tuneOf_12 1 rfl rfl ?_
    obtain ⟨q3, hq3, hz⟩ := obind hz
    refine AX.callSw (As := [.ref (G.2.2.1 5), .int p0]) (rest := []) (w := some (.int q3)) (st' := [.int q3]) dX4_tuneOf_13 mlRX4_56 ylX10_itemAt ysX10_itemAt rfl rfl (Nat.le_of_ble_eq_true rfl) ⟨Nat.le_of_ble_eq_true rfl, Nat.le_of_ble_eq_true rfl⟩ (xX10_itemAt 5 p0 σ hq3) rfl ?_
    refine AX.goto (tgt := 20) dX4_tuneOf_16 rfl ?_
    exact AX.ireturn dX4_tuneOf_20 rfl (vp_nar_int _) (kz (P := fun z => Q (some (.int z)) σ) hz hk)
theorem xX4_tuneOf {G : ag_G} (p0 : Int32) (σ : St) {z : Int32} (hz : fX4_tuneOf p0 σ = some z) : AC G yX4_tuneOf mX4_tuneOf 1 21 [.ref (G.2.2.1 1), .int p0] σ (fun v σ1 => v = some (.int z) ∧ σ1 = σ) := AC.of (plainFor_of_name (by decide)) rfl (Nat.le_of_ble_eq_true rfl) (wfX4_tuneOf p0 σ hz ⟨rfl, rfl⟩)
noncomputable def fX4_barOf (p0 : Int32) (σ : St) : Option (Int32) :=
  (fX10_itemAt 6 p0 σ).bind fun q1 => some q1
theorem wfX4_barOf {G : ag_G} (p0 : Int32) (σ : St) {z : Int32} (hz : fX4_barOf p0 σ = some z) {Q : Option Value → St → Prop} (hk : Q (some (.int z)) σ) : AX G mX4_barOf 1 21 0 [(0, .ref (G.2.2.1 1)), (1, .int p0)] [] σ Q := by
  unfold fX4_barOf at hz
  refine AX.aload_n dX4_barOf_0 0 rfl rfl ?_
  refine AX.getR dX4_barOf_1 flRX4_24 rfl rfl ?_
  refine AX.iload_n dX4_barOf_4 1 rfl rfl ?_
  obtain ⟨q1, hq1, hz⟩ := obind hz
  refine AX.callSw (As := [.ref (G.2.2.1 6), .int p0]) (rest := []) (w := some (.int q1)) (st' := [.int q1]) dX4_barOf_5 mlRX4_56 ylX10_itemAt ysX10_itemAt rfl rfl (Nat.le_of_ble_eq_true rfl) ⟨Nat.le_of_ble_eq_true rfl, Nat.le_of_ble_eq_true rfl⟩ (xX10_itemAt 6 p0 σ hq1) rfl ?_
  exact AX.ireturn dX4_barOf_8 rfl (vp_nar_int _) (kz (P := fun z => Q (some (.int z)) σ) hz hk)
theorem xX4_barOf {G : ag_G} (p0 : Int32) (σ : St) {z : Int32} (hz : fX4_barOf p0 σ = some z) : AC G yX4_barOf mX4_barOf 1 21 [.ref (G.2.2.1 1), .int p0] σ (fun v σ1 => v = some (.int z) ∧ σ1 = σ) := AC.of (plainFor_of_name (by decide)) rfl (Nat.le_of_ble_eq_true rfl) (wfX4_barOf p0 σ hz ⟨rfl, rfl⟩)
noncomputable def fX5_append_b49 (l1 : Int32) (l3 : Int32) (l4 : Int32) (σ : St) : Option ((Int32 × Int32 × St) ⊕ (Int32 × St)) :=
  if l4 ≤ (0 : Int32) then some (.inr (l3, σ)) else if inb (l4 - (1 : Int32)) 8 = true then (fX10_itemAt 28 (σ.1 30 ((l4 - (1 : Int32)).toNatClampNeg)) σ).bind fun q3 => if q3 ≤ l1 then some (.inr (l3, σ)) else if inb l4 8 = true then ltb (l4 - (1 : Int32)) fun x6 => some (.inl (x6, l4 + (-1), (sI σ 30 l4.toNatClampNeg (σ.1 30 ((l4 - (1 : Int32)).toNatClampNeg))))) else none else none
theorem wfX5_append_b49 {G : ag_G} (l1 : Int32) (l3 : Int32) (l4 : Int32) (σ : St) {z : (Int32 × Int32 × St) ⊕ (Int32 × St)} (hz : fX5_append_b49 l1 l3 l4 σ = some z) {Q : Option Value → St → Prop} (K : ((Int32 × Int32 × St) ⊕ (Int32 × St)) → Prop) (hback : ∀ a : Int32 × Int32 × St, K (.inl a) → AX G mX5_append 1 21 49 [(0, .ref (G.2.2.1 27)), (1, .int l1), (3, .int a.1), (4, .int a.2.1)] [] a.2.2 Q) (hexit0 : ∀ a : Int32 × St, K (.inr a) → AX G mX5_append 1 21 101 [(0, .ref (G.2.2.1 27)), (3, .int a.1)] [] a.2 Q) (hk : K z) : AX G mX5_append 1 21 49 [(0, .ref (G.2.2.1 27)), (1, .int l1), (3, .int l3), (4, .int l4)] [] σ Q := by
  unfold fX5_append_b49 at hz
  refine AX.iload dX5_append_49 3 rfl ?_
  refine AX.if_le (tgt := 101) dX5_append_51 rfl (fun c1 => ?_) (fun c1 => ?_)
  · replace hz := (if_pos c1).symm.trans hz
    exact AX.sub (ls' := [(0, .ref (G.2.2.1 27)), (3, .int l3)]) [0, 2] rfl (hexit0 (l3, σ) (kz (P := K) hz hk))
  · replace hz := (if_neg c1).symm.trans hz
    refine AX.aload_n dX5_append_54 0 rfl rfl ?_
    refine AX.getR dX5_append_55 flRX5_11 rfl rfl ?_
    refine AX.aload_n dX5_append_58 0 rfl rfl ?_
    refine AX.getR dX5_append_59 flRX5_18 rfl rfl ?_
    refine AX.iload dX5_append_62 3 rfl ?_
    refine AX.iconst dX5_append_64 ic_1 ?_
    refine AX.isub dX5_append_65 ?_
    obtain ⟨b2, hz⟩ := ite_n hz
    refine AX.ialdE (v := σ.1 30 ((l4 - (1 : Int32)).toNatClampNeg)) dX5_append_66 rfl b2 rfl ?_
    obtain ⟨q3, hq3, hz⟩ := obind hz
    refine AX.callSw (As := [.ref (G.2.2.1 28), .int (σ.1 30 ((l4 - (1 : Int32)).toNatClampNeg))]) (rest := []) (w := some (.int q3)) (st' := [.int q3]) dX5_append_67 mlRX5_28 ylX10_itemAt ysX10_itemAt rfl rfl (Nat.le_of_ble_eq_true rfl) ⟨Nat.le_of_ble_eq_true rfl, Nat.le_of_ble_eq_true rfl⟩ (xX10_itemAt 28 (σ.1 30 ((l4 - (1 : Int32)).toNatClampNeg)) σ hq3) rfl ?_
    refine AX.iload_n dX5_append_70 1 rfl rfl ?_
    refine AX.icmp_le (tgt := 101) dX5_append_71 rfl (fun c4 => ?_) (fun c4 => ?_)
    · replace hz := (if_pos c4).symm.trans hz
      exact AX.sub (ls' := [(0, .ref (G.2.2.1 27)), (3, .int l3)]) [0, 2] rfl (hexit0 (l3, σ) (kz (P := K) hz hk))
    · replace hz := (if_neg c4).symm.trans hz
      refine AX.aload_n dX5_append_74 0 rfl rfl ?_
      refine AX.getR dX5_append_75 flRX5_18 rfl rfl ?_
      refine AX.iload dX5_append_78 3 rfl ?_
      refine AX.aload_n dX5_append_80 0 rfl rfl ?_
      refine AX.getR dX5_append_81 flRX5_18 rfl rfl ?_
      refine AX.iload dX5_append_84 3 rfl ?_
      refine AX.iconst dX5_append_86 ic_1 ?_
      refine AX.isub dX5_append_87 ?_
      refine AX.ialdE (v := σ.1 30 ((l4 - (1 : Int32)).toNatClampNeg)) dX5_append_88 rfl b2 rfl ?_
      obtain ⟨b5, hz⟩ := ite_n hz
      refine AX.iast dX5_append_89 rfl b5 ?_
      refine AX.iload dX5_append_90 3 rfl ?_
      refine AX.iconst dX5_append_92 ic_1 ?_
      refine AX.isub dX5_append_93 ?_
      obtain ⟨x6, hx6, hz⟩ := ltb_e hz
      refine AX.topI hx6 ?_
      refine AX.istore_n (ls' := [(0, .ref (G.2.2.1 27)), (1, .int l1), (3, .int x6), (4, .int l4)]) dX5_append_94 rfl (Nat.le_of_ble_eq_true rfl) rfl ?_
      refine AX.iinc (v := l4 + (-1)) (ls' := [(0, .ref (G.2.2.1 27)), (1, .int l1), (3, .int x6), (4, .int (l4 + (-1)))]) 3 dX5_append_95 rfl (Nat.le_of_ble_eq_true rfl) (congrArg (l4 + ·) ic_m1) rfl ?_
      refine AX.goto (tgt := 49) dX5_append_98 rfl ?_
      exact AX.sub (ls' := [(0, .ref (G.2.2.1 27)), (1, .int l1), (3, .int x6), (4, .int (l4 + (-1)))]) [0, 1, 2, 3] rfl (hback (x6, l4 + (-1), (sI σ 30 l4.toNatClampNeg (σ.1 30 ((l4 - (1 : Int32)).toNatClampNeg)))) (kz (P := K) hz hk))
noncomputable def fX5_append (p0 : Int32) (p1 : Int32) (σ : St) : Option (Int32 × St) :=
  if (σ.1 27 4) < (0 : Int32) then some ((0 : Int32), σ) else if (σ.1 27 4) < (8 : Int32) then if inb (σ.1 27 4) 8 = true then ltb (σ.1 27 4) fun x4 => ltb (σ.1 27 4) fun x5 => (lpc (fun s => fX5_append_b49 p0 s.1 s.2.1 s.2.2) (x4, x5, (sI (sI σ 28 ((σ.1 27 4).toNatClampNeg) p0) 29 ((σ.1 27 4).toNatClampNeg) p1))).bind fun r6 => if inb r6.1 8 = true then some ((1 : Int32), (sI (sI r6.2 30 r6.1.toNatClampNeg (r6.2.1 27 4)) 27 4 ((r6.2.1 27 4) + (1 : Int32)))) else none else none else some ((0 : Int32), σ)
theorem wfX5_append {G : ag_G} (p0 : Int32) (p1 : Int32) (σ : St) {z : Int32 × St} (hz : fX5_append p0 p1 σ = some z) {Q : Option Value → St → Prop} (hk : Q (some (.int z.1)) z.2) : AX G mX5_append 1 21 0 [(0, .ref (G.2.2.1 27)), (1, .int p0), (2, .int p1)] [] σ Q := by
  unfold fX5_append at hz
  refine AX.aload_n dX5_append_0 0 rfl rfl ?_
  refine AX.getIE (v := σ.1 27 4) dX5_append_1 flRX5_24 rfl rfl rfl ?_
  refine AX.if_lt (tgt := 16) dX5_append_4 rfl (fun c1 => ?_) (fun c1 => ?_)
  · replace hz := (if_pos c1).symm.trans hz
    refine AX.iconst dX5_append_16 ic_0 ?_
    exact AX.ireturn dX5_append_17 rfl nb_0 (kz (P := fun z => Q (some (.int z.1)) z.2) hz hk)
  · replace hz := (if_neg c1).symm.trans hz
    refine AX.aload_n dX5_append_7 0 rfl rfl ?_
    refine AX.getIE (v := σ.1 27 4) dX5_append_8 flRX5_24 rfl rfl rfl ?_
    refine AX.bipush dX5_append_11 bp_8 ?_
    refine AX.icmp_lt (tgt := 18) dX5_append_13 rfl (fun c2 => ?_) (fun c2 => ?_)
    · replace hz := (if_pos c2).symm.trans hz
      refine AX.aload_n dX5_append_18 0 rfl rfl ?_
      refine AX.getR dX5_append_19 flRX5_11 rfl rfl ?_
      refine AX.aload_n dX5_append_22 0 rfl rfl ?_
      refine AX.getIE (v := σ.1 27 4) dX5_append_23 flRX5_24 rfl rfl rfl ?_
      refine AX.iload_n dX5_append_26 1 rfl rfl ?_
      obtain ⟨b3, hz⟩ := ite_n hz
      refine AX.iast dX5_append_27 rfl b3 ?_
      refine AX.aload_n dX5_append_28 0 rfl rfl ?_
      refine AX.getR dX5_append_29 flRX5_15 rfl rfl ?_
      refine AX.aload_n dX5_append_32 0 rfl rfl ?_
      refine AX.getIE (v := σ.1 27 4) dX5_append_33 flRX5_24 rfl rfl rfl ?_
      refine AX.iload_n dX5_append_36 2 rfl rfl ?_
      refine AX.iast dX5_append_37 rfl b3 ?_
      refine AX.aload_n dX5_append_38 0 rfl rfl ?_
      refine AX.getIE (v := σ.1 27 4) dX5_append_39 flRX5_24 rfl rfl rfl ?_
      obtain ⟨x4, hx4, hz⟩ := ltb_e hz
      refine AX.topI hx4 ?_
      refine AX.istore_n (ls' := [(0, .ref (G.2.2.1 27)), (1, .int p0), (2, .int p1), (3, .int x4)]) dX5_append_42 rfl (Nat.le_of_ble_eq_true rfl) rfl ?_
      refine AX.aload_n dX5_append_43 0 rfl rfl ?_
      refine AX.getIE (v := σ.1 27 4) dX5_append_44 flRX5_24 rfl rfl rfl ?_
      obtain ⟨x5, hx5, hz⟩ := ltb_e hz
      refine AX.topI hx5 ?_
      refine AX.istore (ls' := [(0, .ref (G.2.2.1 27)), (1, .int p0), (2, .int p1), (3, .int x4), (4, .int x5)]) dX5_append_47 (Nat.le_of_ble_eq_true rfl) rfl ?_
      obtain ⟨r6, hr6, hz⟩ := obind hz
      refine AX.sub (ls' := [(0, .ref (G.2.2.1 27)), (1, .int p0), (3, .int x4), (4, .int x5)]) [0, 1, 3, 4] rfl ?_
      refine lpc_ind (s := (x4, x5, (sI (sI σ 28 ((σ.1 27 4).toNatClampNeg) p0) 29 ((σ.1 27 4).toNatClampNeg) p1))) (r := r6) (fun s => AX G mX5_append 1 21 49 [(0, .ref (G.2.2.1 27)), (1, .int p0), (3, .int s.1), (4, .int s.2.1)] [] s.2.2 Q) (fun a : Int32 × St => AX G mX5_append 1 21 101 [(0, .ref (G.2.2.1 27)), (3, .int a.1)] [] a.2 Q) hr6 (fun s z hb hK => wfX5_append_b49 p0 s.1 s.2.1 s.2.2 hb (Sum.elim (fun s => AX G mX5_append 1 21 49 [(0, .ref (G.2.2.1 27)), (1, .int p0), (3, .int s.1), (4, .int s.2.1)] [] s.2.2 Q) (fun a : Int32 × St => AX G mX5_append 1 21 101 [(0, .ref (G.2.2.1 27)), (3, .int a.1)] [] a.2 Q)) (fun _ h9 => h9) (fun _ h9 => h9) hK) ?_
      refine AX.aload_n dX5_append_101 0 rfl rfl ?_
      refine AX.getR dX5_append_102 flRX5_18 rfl rfl ?_
      refine AX.iload_n dX5_append_105 1 rfl rfl ?_
      refine AX.aload_n dX5_append_106 0 rfl rfl ?_
      refine AX.getIE (v := r6.2.1 27 4) dX5_append_107 flRX5_24 rfl rfl rfl ?_
      obtain ⟨b7, hz⟩ := ite_n hz
      refine AX.iast dX5_append_110 rfl b7 ?_
      refine AX.aload_n dX5_append_111 0 rfl rfl ?_
      refine AX.dup dX5_append_112 rfl ?_
      refine AX.getIE (v := r6.2.1 27 4) dX5_append_113 flRX5_24 rfl rfl rfl ?_
      refine AX.iconst dX5_append_116 ic_1 ?_
      refine AX.iadd dX5_append_117 ?_
      refine AX.putI dX5_append_118 fpRX5_24 rfl rfl (vp_nar_int _) rfl ?_
      refine AX.iconst dX5_append_121 ic_1 ?_
      exact AX.ireturn dX5_append_122 rfl nb_1 (kz (P := fun z => Q (some (.int z.1)) z.2) hz hk)
    · replace hz := (if_neg c2).symm.trans hz
      refine AX.iconst dX5_append_16 ic_0 ?_
      exact AX.ireturn dX5_append_17 rfl nb_0 (kz (P := fun z => Q (some (.int z.1)) z.2) hz hk)
theorem xX5_append {G : ag_G} (p0 : Int32) (p1 : Int32) (σ : St) {z : Int32 × St} (hz : fX5_append p0 p1 σ = some z) : AC G yX5_append mX5_append 1 21 [.ref (G.2.2.1 27), .int p0, .int p1] σ (fun v σ1 => v = some (.int z.1) ∧ σ1 = z.2) := AC.of (plainFor_of_name (by decide)) rfl (Nat.le_of_ble_eq_true rfl) (wfX5_append p0 p1 σ hz ⟨rfl, rfl⟩)
noncomputable def fJ7_fill_53178_b5 (l0 : Nat) (l1 : Int32) (l3 : Int32) (l2 : Int32) (σ : St) : Option ((Int32 × St) ⊕ St) :=
  (wi l0).bind fun n0 => if l3 ≤ l2 then some (.inr σ) else if inb l2 n0 = true then some (.inl (l2 + 1, (sI σ l0 l2.toNatClampNeg l1))) else none
theorem wfJ7_fill_53178_b5 {G : ag_G} (l0 : Nat) (l1 : Int32) (l3 : Int32) (l2 : Int32) (σ : St) {z : (Int32 × St) ⊕ St} (hz : fJ7_fill_53178_b5 l0 l1 l3 l2 σ = some z) {Q : Option Value → St → Prop} (K : ((Int32 × St) ⊕ St) → Prop) (hback : ∀ a : Int32 × St, K (.inl a) → AX G mJ7_fill_53178 0 0 5 [(0, .ref (G.2.2.1 l0)), (1, .int l1), (2, .int a.1), (3, .int l3)] [] a.2 Q) (hexit0 : ∀ a : St, K (.inr a) → AX G mJ7_fill_53178 0 0 20 [] [] a Q) (hk : K z) : AX G mJ7_fill_53178 0 0 5 [(0, .ref (G.2.2.1 l0)), (1, .int l1), (2, .int l2), (3, .int l3)] [] σ Q := by
  unfold fJ7_fill_53178_b5 at hz
  obtain ⟨n0, hn0, hz⟩ := obind hz
  refine AX.iload_n dJ7_fill_53178_5 2 rfl rfl ?_
  refine AX.iload_n dJ7_fill_53178_6 3 rfl rfl ?_
  refine AX.icmp_ge (tgt := 20) dJ7_fill_53178_7 rfl (fun c1 => ?_) (fun c1 => ?_)
  · replace hz := (if_pos c1).symm.trans hz
    exact AX.sub (ls' := []) [] rfl (hexit0 σ (kz (P := K) hz hk))
  · replace hz := (if_neg c1).symm.trans hz
    refine AX.aload_n dJ7_fill_53178_10 0 rfl rfl ?_
    refine AX.iload_n dJ7_fill_53178_11 2 rfl rfl ?_
    refine AX.iload_n dJ7_fill_53178_12 1 rfl rfl ?_
    obtain ⟨b2, hz⟩ := ite_n hz
    refine AX.iast dJ7_fill_53178_13 hn0 b2 ?_
    refine AX.iinc (v := l2 + 1) (ls' := [(0, .ref (G.2.2.1 l0)), (1, .int l1), (2, .int (l2 + 1)), (3, .int l3)]) 2 dJ7_fill_53178_14 rfl (Nat.le_of_ble_eq_true rfl) (congrArg (l2 + ·) ic_1) rfl ?_
    refine AX.goto (tgt := 5) dJ7_fill_53178_17 rfl ?_
    exact AX.sub (ls' := [(0, .ref (G.2.2.1 l0)), (1, .int l1), (2, .int (l2 + 1)), (3, .int l3)]) [0, 1, 2, 3] rfl (hback (l2 + 1, (sI σ l0 l2.toNatClampNeg l1)) (kz (P := K) hz hk))
noncomputable def fJ7_fill_53178 (p0 : Nat) (p1 : Int32) (σ : St) : Option (St) :=
  (wi p0).bind fun n0 => ltb (Int32.ofNat n0) fun x1 => (lpc (fun s => fJ7_fill_53178_b5 p0 p1 x1 s.1 s.2) (0, σ)).bind fun r2 => some r2
theorem wfJ7_fill_53178 {G : ag_G} (p0 : Nat) (p1 : Int32) (σ : St) {z : St} (hz : fJ7_fill_53178 p0 p1 σ = some z) {Q : Option Value → St → Prop} (hk : Q (none) z) : AX G mJ7_fill_53178 0 0 0 [(0, .ref (G.2.2.1 p0)), (1, .int p1)] [] σ Q := by
  unfold fJ7_fill_53178 at hz
  obtain ⟨n0, hn0, hz⟩ := obind hz
  refine AX.iconst dJ7_fill_53178_0 ic_0 ?_
  refine AX.istore_n (ls' := [(0, .ref (G.2.2.1 p0)), (1, .int p1), (2, .int 0)]) dJ7_fill_53178_1 rfl (Nat.le_of_ble_eq_true rfl) rfl ?_
  refine AX.aload_n dJ7_fill_53178_2 0 rfl rfl ?_
  refine AX.alenR dJ7_fill_53178_3 (wi_ri hn0) ?_
  obtain ⟨x1, hx1, hz⟩ := ltb_e hz
  refine AX.topI hx1 ?_
  refine AX.istore_n (ls' := [(0, .ref (G.2.2.1 p0)), (1, .int p1), (2, .int 0), (3, .int x1)]) dJ7_fill_53178_4 rfl (Nat.le_of_ble_eq_true rfl) rfl ?_
  obtain ⟨r2, hr2, hz⟩ := obind hz
  refine AX.sub (ls' := [(0, .ref (G.2.2.1 p0)), (1, .int p1), (2, .int 0), (3, .int x1)]) [0, 1, 2, 3] rfl ?_
  refine lpc_ind (s := (0, σ)) (r := r2) (fun s => AX G mJ7_fill_53178 0 0 5 [(0, .ref (G.2.2.1 p0)), (1, .int p1), (2, .int s.1), (3, .int x1)] [] s.2 Q) (fun a : St => AX G mJ7_fill_53178 0 0 20 [] [] a Q) hr2 (fun s z hb hK => wfJ7_fill_53178_b5 p0 p1 x1 s.1 s.2 hb (Sum.elim (fun s => AX G mJ7_fill_53178 0 0 5 [(0, .ref (G.2.2.1 p0)), (1, .int p1), (2, .int s.1), (3, .int x1)] [] s.2 Q) (fun a : St => AX G mJ7_fill_53178 0 0 20 [] [] a Q)) (fun _ h9 => h9) (fun _ h9 => h9) hK) ?_
  exact AX.vreturn dJ7_fill_53178_20 rfl (kz (P := fun z => Q (none) z) hz hk)
theorem xJ7_fill_53178 {G : ag_G} (p0 : Nat) (p1 : Int32) (σ : St) {z : St} (hz : fJ7_fill_53178 p0 p1 σ = some z) : AC G yJ7_fill_53178 mJ7_fill_53178 0 0 [.ref (G.2.2.1 p0), .int p1] σ (fun v σ1 => v = none ∧ σ1 = z) := AC.of (plainFor_of_name (by decide)) rfl (Nat.le_of_ble_eq_true rfl) (wfJ7_fill_53178 p0 p1 σ hz ⟨rfl, rfl⟩)
noncomputable def fX5_plan_j116 (l1 : Int32) (l2 : Int32) (l3 : Int32) (l4 : Int32) (σ : St) : Option ((Int32 × Int32 × Int32 × St) ⊕ ((St) ⊕ (Int32 × St))) :=
  some (.inl (l2, l3, l4 + 1, σ))
theorem wfX5_plan_j116 {G : ag_G} (l1 : Int32) (l2 : Int32) (l3 : Int32) (l4 : Int32) (σ : St) {z : (Int32 × Int32 × Int32 × St) ⊕ ((St) ⊕ (Int32 × St))} (hz : fX5_plan_j116 l1 l2 l3 l4 σ = some z) {Q : Option Value → St → Prop} (K : ((Int32 × Int32 × Int32 × St) ⊕ ((St) ⊕ (Int32 × St))) → Prop) (hback : ∀ a : Int32 × Int32 × Int32 × St, K (.inl a) → AX G mX5_plan 1 23 15 [(0, .ref (G.2.2.1 27)), (1, .int l1), (2, .int a.1), (3, .int a.2.1), (4, .int a.2.2.1)] [] a.2.2.2 Q) (hk : K z) : AX G mX5_plan 1 23 116 [(0, .ref (G.2.2.1 27)), (1, .int l1), (2, .int l2), (3, .int l3), (4, .int l4)] [] σ Q := by
  unfold fX5_plan_j116 at hz
  refine AX.iinc (v := l4 + 1) (ls' := [(0, .ref (G.2.2.1 27)), (1, .int l1), (2, .int l2), (3, .int l3), (4, .int (l4 + 1))]) 4 dX5_plan_116 rfl (Nat.le_of_ble_eq_true rfl) (congrArg (l4 + ·) ic_1) rfl ?_
  refine AX.goto (tgt := 15) dX5_plan_119 rfl ?_
  exact AX.sub (ls' := [(0, .ref (G.2.2.1 27)), (1, .int l1), (2, .int l2), (3, .int l3), (4, .int (l4 + 1))]) [0, 1, 2, 3, 4] rfl (hback (l2, l3, l4 + 1, σ) (kz (P := K) hz hk))
noncomputable def fX5_plan_b15 (l1 : Int32) (l2 : Int32) (l3 : Int32) (l4 : Int32) (σ : St) : Option ((Int32 × Int32 × Int32 × St) ⊕ ((St) ⊕ (Int32 × St))) :=
  if (σ.1 27 4) ≤ l4 then some (.inr (.inr (l3, σ))) else if (8 : Int32) ≤ l4 then some (.inr (.inr (l3, σ))) else if inb l4 8 = true then ltb (σ.1 30 l4.toNatClampNeg) fun x4 => (fX10_within x4 (0 : Int32) (7 : Int32)).bind fun q5 => if q5 = (0 : Int32) then fX5_plan_j116 l1 l2 l3 l4 σ else if ((l1 >>> (x4 &&& 31)) &&& (1 : Int32)) = (0 : Int32) then fX5_plan_j116 l1 l2 l3 l4 σ else if inb x4 8 = true then (fJ9_max_7cf53 l2 ((σ.1 28 x4.toNatClampNeg) - (3 : Int32))).bind fun q9 => if q9 < (σ.1 28 x4.toNatClampNeg) then ltb (q9 + (1 : Int32)) fun x11 => ltb (l3 + (σ.1 29 x4.toNatClampNeg)) fun x12 => fX5_plan_j116 l1 x11 x12 l4 (sI σ 31 x4.toNatClampNeg q9) else some (.inr (.inl σ)) else none else none
theorem wfX5_plan_b15 {G : ag_G} (l1 : Int32) (l2 : Int32) (l3 : Int32) (l4 : Int32) (σ : St) {z : (Int32 × Int32 × Int32 × St) ⊕ ((St) ⊕ (Int32 × St))} (hz : fX5_plan_b15 l1 l2 l3 l4 σ = some z) {Q : Option Value → St → Prop} (K : ((Int32 × Int32 × Int32 × St) ⊕ ((St) ⊕ (Int32 × St))) → Prop) (hback : ∀ a : Int32 × Int32 × Int32 × St, K (.inl a) → AX G mX5_plan 1 23 15 [(0, .ref (G.2.2.1 27)), (1, .int l1), (2, .int a.1), (3, .int a.2.1), (4, .int a.2.2.1)] [] a.2.2.2 Q) (hexit0 : ∀ a : St, K (.inr (.inl a)) → AX G mX5_plan 1 23 90 [] [] a Q) (hexit1 : ∀ a : Int32 × St, K (.inr (.inr a)) → AX G mX5_plan 1 23 122 [(3, .int a.1)] [] a.2 Q) (hk : K z) : AX G mX5_plan 1 23 15 [(0, .ref (G.2.2.1 27)), (1, .int l1), (2, .int l2), (3, .int l3), (4, .int l4)] [] σ Q := by
  unfold fX5_plan_b15 at hz
  refine AX.iload dX5_plan_15 4 rfl ?_
  refine AX.aload_n dX5_plan_17 0 rfl rfl ?_
  refine AX.getIE (v := σ.1 27 4) dX5_plan_18 flRX5_24 rfl rfl rfl ?_
  refine AX.icmp_ge (tgt := 122) dX5_plan_21 rfl (fun c1 => ?_) (fun c1 => ?_)
  · replace hz := (if_pos c1).symm.trans hz
    exact AX.sub (ls' := [(3, .int l3)]) [3] rfl (hexit1 (l3, σ) (kz (P := K) hz hk))
  · replace hz := (if_neg c1).symm.trans hz
    refine AX.iload dX5_plan_24 4 rfl ?_
    refine AX.bipush dX5_plan_26 bp_8 ?_
    refine AX.icmp_ge (tgt := 122) dX5_plan_28 rfl (fun c2 => ?_) (fun c2 => ?_)
    · replace hz := (if_pos c2).symm.trans hz
      exact AX.sub (ls' := [(3, .int l3)]) [3] rfl (hexit1 (l3, σ) (kz (P := K) hz hk))
    · replace hz := (if_neg c2).symm.trans hz
      refine AX.aload_n dX5_plan_31 0 rfl rfl ?_
      refine AX.getR dX5_plan_32 flRX5_18 rfl rfl ?_
      refine AX.iload dX5_plan_35 4 rfl ?_
      obtain ⟨b3, hz⟩ := ite_n hz
      refine AX.ialdE (v := σ.1 30 l4.toNatClampNeg) dX5_plan_37 rfl b3 rfl ?_
      obtain ⟨x4, hx4, hz⟩ := ltb_e hz
      refine AX.topI hx4 ?_
      refine AX.istore (ls' := [(0, .ref (G.2.2.1 27)), (1, .int l1), (2, .int l2), (3, .int l3), (4, .int l4), (5, .int x4)]) dX5_plan_38 (Nat.le_of_ble_eq_true rfl) rfl ?_
      refine AX.iload dX5_plan_40 5 rfl ?_
      refine AX.iconst dX5_plan_42 ic_0 ?_
      refine AX.bipush dX5_plan_43 bp_7 ?_
      obtain ⟨q5, hq5, hz⟩ := obind hz
      refine AX.callSw (As := [.int x4, .int 0, .int 7]) (rest := []) (w := some (.int q5)) (st' := [.int q5]) dX5_plan_45 mlRX5_42 ylX10_within ysX10_within rfl rfl (Nat.le_of_ble_eq_true rfl) ⟨Nat.le_of_ble_eq_true rfl, Nat.le_of_ble_eq_true rfl⟩ (xX10_within x4 (0 : Int32) (7 : Int32) σ hq5) rfl ?_
      refine AX.if_eq (tgt := 116) dX5_plan_48 rfl (fun c6 => ?_) (fun c6 => ?_)
      · replace hz := (if_pos c6).symm.trans hz
        exact AX.sub (ls' := [(0, .ref (G.2.2.1 27)), (1, .int l1), (2, .int l2), (3, .int l3), (4, .int l4)]) [0, 1, 2, 3, 4] rfl (wfX5_plan_j116 l1 l2 l3 l4 σ hz K hback hk)
      · replace hz := (if_neg c6).symm.trans hz
        refine AX.iload_n dX5_plan_51 1 rfl rfl ?_
        refine AX.iload dX5_plan_52 5 rfl ?_
        refine AX.ishr dX5_plan_54 ?_
        refine AX.iconst dX5_plan_55 ic_1 ?_
        refine AX.iand dX5_plan_56 ?_
        refine AX.if_ne (tgt := 63) dX5_plan_57 rfl (fun c7 => ?_) (fun c7 => ?_)
        · replace hz := (if_neg c7).symm.trans hz
          refine AX.iload_n dX5_plan_63 2 rfl rfl ?_
          refine AX.aload_n dX5_plan_64 0 rfl rfl ?_
          refine AX.getR dX5_plan_65 flRX5_11 rfl rfl ?_
          refine AX.iload dX5_plan_68 5 rfl ?_
          obtain ⟨b8, hz⟩ := ite_n hz
          refine AX.ialdE (v := σ.1 28 x4.toNatClampNeg) dX5_plan_70 rfl b8 rfl ?_
          refine AX.iconst dX5_plan_71 ic_3 ?_
          refine AX.isub dX5_plan_72 ?_
          obtain ⟨q9, hq9, hz⟩ := obind hz
          refine AX.callSw (As := [.int l2, .int ((σ.1 28 x4.toNatClampNeg) - (3 : Int32))]) (rest := []) (w := some (.int q9)) (st' := [.int q9]) dX5_plan_73 mlRX5_46 ylJ9_max_7cf53 ysJ9_max_7cf53 rfl rfl (Nat.le_of_ble_eq_true rfl) ⟨Nat.le_of_ble_eq_true rfl, Nat.le_of_ble_eq_true rfl⟩ (xJ9_max_7cf53 l2 ((σ.1 28 x4.toNatClampNeg) - (3 : Int32)) σ hq9) rfl ?_
          refine AX.istore (ls' := [(0, .ref (G.2.2.1 27)), (1, .int l1), (2, .int l2), (3, .int l3), (4, .int l4), (5, .int x4), (6, .int q9)]) dX5_plan_76 (Nat.le_of_ble_eq_true rfl) rfl ?_
          refine AX.iload dX5_plan_78 6 rfl ?_
          refine AX.aload_n dX5_plan_80 0 rfl rfl ?_
          refine AX.getR dX5_plan_81 flRX5_11 rfl rfl ?_
          refine AX.iload dX5_plan_84 5 rfl ?_
          refine AX.ialdE (v := σ.1 28 x4.toNatClampNeg) dX5_plan_86 rfl b8 rfl ?_
          refine AX.icmp_lt (tgt := 92) dX5_plan_87 rfl (fun c10 => ?_) (fun c10 => ?_)
          · replace hz := (if_pos c10).symm.trans hz
            refine AX.aload_n dX5_plan_92 0 rfl rfl ?_
            refine AX.getR dX5_plan_93 flRX5_21 rfl rfl ?_
            refine AX.iload dX5_plan_96 5 rfl ?_
            refine AX.iload dX5_plan_98 6 rfl ?_
            refine AX.iast dX5_plan_100 rfl b8 ?_
            refine AX.iload dX5_plan_101 6 rfl ?_
            refine AX.iconst dX5_plan_103 ic_1 ?_
            refine AX.iadd dX5_plan_104 ?_
            obtain ⟨x11, hx11, hz⟩ := ltb_e hz
            refine AX.topI hx11 ?_
            refine AX.istore_n (ls' := [(0, .ref (G.2.2.1 27)), (1, .int l1), (2, .int x11), (3, .int l3), (4, .int l4), (5, .int x4), (6, .int q9)]) dX5_plan_105 rfl (Nat.le_of_ble_eq_true rfl) rfl ?_
            refine AX.iload_n dX5_plan_106 3 rfl rfl ?_
            refine AX.aload_n dX5_plan_107 0 rfl rfl ?_
            refine AX.getR dX5_plan_108 flRX5_15 rfl rfl ?_
            refine AX.iload dX5_plan_111 5 rfl ?_
            refine AX.ialdE (v := σ.1 29 x4.toNatClampNeg) dX5_plan_113 rfl b8 rfl ?_
            refine AX.iadd dX5_plan_114 ?_
            obtain ⟨x12, hx12, hz⟩ := ltb_e hz
            refine AX.topI hx12 ?_
            refine AX.istore_n (ls' := [(0, .ref (G.2.2.1 27)), (1, .int l1), (2, .int x11), (3, .int x12), (4, .int l4), (5, .int x4), (6, .int q9)]) dX5_plan_115 rfl (Nat.le_of_ble_eq_true rfl) rfl ?_
            exact AX.sub (ls' := [(0, .ref (G.2.2.1 27)), (1, .int l1), (2, .int x11), (3, .int x12), (4, .int l4)]) [0, 1, 2, 3, 4] rfl (wfX5_plan_j116 l1 x11 x12 l4 (sI σ 31 x4.toNatClampNeg q9) hz K hback hk)
          · replace hz := (if_neg c10).symm.trans hz
            exact AX.sub (ls' := []) [] rfl (hexit0 σ (kz (P := K) hz hk))
        · replace hz := (if_pos c7).symm.trans hz
          refine AX.goto (tgt := 116) dX5_plan_60 rfl ?_
          exact AX.sub (ls' := [(0, .ref (G.2.2.1 27)), (1, .int l1), (2, .int l2), (3, .int l3), (4, .int l4)]) [0, 1, 2, 3, 4] rfl (wfX5_plan_j116 l1 l2 l3 l4 σ hz K hback hk)
noncomputable def fX5_plan (p0 : Int32) (σ : St) : Option (Int32 × St) :=
  (fJ7_fill_53178 31 (-1 : Int32) σ).bind fun q1 => (lpc (fun s => fX5_plan_b15 p0 s.1 s.2.1 s.2.2.1 s.2.2.2) (0, 0, 0, q1)).bind fun r2 => Sum.elim (fun r2_0 => some ((-1 : Int32), r2_0)) (fun r2_1 => some (r2_1.1, r2_1.2)) r2
theorem wfX5_plan {G : ag_G} (p0 : Int32) (σ : St) {z : Int32 × St} (hz : fX5_plan p0 σ = some z) {Q : Option Value → St → Prop} (hk : Q (some (.int z.1)) z.2) : AX G mX5_plan 1 23 0 [(0, .ref (G.2.2.1 27)), (1, .int p0)] [] σ Q := by
  unfold fX5_plan at hz
  refine AX.aload_n dX5_plan_0 0 rfl rfl ?_
  refine AX.getR dX5_plan_1 flRX5_21 rfl rfl ?_
  refine AX.iconst dX5_plan_4 ic_m1 ?_
  obtain ⟨q1, hq1, hz⟩ := obind hz
  refine AX.callSw (As := [.ref (G.2.2.1 31), .int (-1)]) (rest := []) (w := none) (st' := []) dX5_plan_5 mlRX5_36 ylJ7_fill_53178 ysJ7_fill_53178 rfl rfl (Nat.le_of_ble_eq_true rfl) ⟨Nat.le_of_ble_eq_true rfl, Nat.le_of_ble_eq_true rfl⟩ (xJ7_fill_53178 31 (-1 : Int32) σ hq1) rfl ?_
  refine AX.iconst dX5_plan_8 ic_0 ?_
  refine AX.istore_n (ls' := [(0, .ref (G.2.2.1 27)), (1, .int p0), (2, .int 0)]) dX5_plan_9 rfl (Nat.le_of_ble_eq_true rfl) rfl ?_
  refine AX.iconst dX5_plan_10 ic_0 ?_
  refine AX.istore_n (ls' := [(0, .ref (G.2.2.1 27)), (1, .int p0), (2, .int 0), (3, .int 0)]) dX5_plan_11 rfl (Nat.le_of_ble_eq_true rfl) rfl ?_
  refine AX.iconst dX5_plan_12 ic_0 ?_
  refine AX.istore (ls' := [(0, .ref (G.2.2.1 27)), (1, .int p0), (2, .int 0), (3, .int 0), (4, .int 0)]) dX5_plan_13 (Nat.le_of_ble_eq_true rfl) rfl ?_
  obtain ⟨r2, hr2, hz⟩ := obind hz
  refine AX.sub (ls' := [(0, .ref (G.2.2.1 27)), (1, .int p0), (2, .int 0), (3, .int 0), (4, .int 0)]) [0, 1, 2, 3, 4] rfl ?_
  refine lpc_ind (s := (0, 0, 0, q1)) (r := r2) (fun s => AX G mX5_plan 1 23 15 [(0, .ref (G.2.2.1 27)), (1, .int p0), (2, .int s.1), (3, .int s.2.1), (4, .int s.2.2.1)] [] s.2.2.2 Q) (Sum.elim (fun a : St => AX G mX5_plan 1 23 90 [] [] a Q) (fun a : Int32 × St => AX G mX5_plan 1 23 122 [(3, .int a.1)] [] a.2 Q)) hr2 (fun s z hb hK => wfX5_plan_b15 p0 s.1 s.2.1 s.2.2.1 s.2.2.2 hb (Sum.elim (fun s => AX G mX5_plan 1 23 15 [(0, .ref (G.2.2.1 27)), (1, .int p0), (2, .int s.1), (3, .int s.2.1), (4, .int s.2.2.1)] [] s.2.2.2 Q) (Sum.elim (fun a : St => AX G mX5_plan 1 23 90 [] [] a Q) (fun a : Int32 × St => AX G mX5_plan 1 23 122 [(3, .int a.1)] [] a.2 Q))) (fun _ h9 => h9) (fun _ h9 => h9) (fun _ h9 => h9) hK) ?_
  rcases r2 with r2_0 | r2_1
  · dsimp only [Sum.elim_inl, Sum.elim_inr] at hz ⊢
    refine AX.iconst dX5_plan_90 ic_m1 ?_
    exact AX.ireturn dX5_plan_91 rfl (vp_nar_int _) (kz (P := fun z => Q (some (.int z.1)) z.2) hz hk)
  · dsimp only [Sum.elim_inl, Sum.elim_inr] at hz ⊢
    refine AX.iload_n dX5_plan_122 0 rfl rfl ?_
    exact AX.ireturn dX5_plan_123 rfl (vp_nar_int _) (kz (P := fun z => Q (some (.int z.1)) z.2) hz hk)
theorem xX5_plan {G : ag_G} (p0 : Int32) (σ : St) {z : Int32 × St} (hz : fX5_plan p0 σ = some z) : AC G yX5_plan mX5_plan 1 23 [.ref (G.2.2.1 27), .int p0] σ (fun v σ1 => v = some (.int z.1) ∧ σ1 = z.2) := AC.of (plainFor_of_name (by decide)) rfl (Nat.le_of_ble_eq_true rfl) (wfX5_plan p0 σ hz ⟨rfl, rfl⟩)
noncomputable def fX5_bestBits_j34 (l1 : Int32) (l2 : Int32) (l3 : Int32) (σ : St) : Option ((Int32 × Int32 × Int32 × St) ⊕ (Int32 × St)) :=
  some (.inl (l1, l2, l3 + 1, σ))
theorem wfX5_bestBits_j34 {G : ag_G} (l1 : Int32) (l2 : Int32) (l3 : Int32) (σ : St) {z : (Int32 × Int32 × Int32 × St) ⊕ (Int32 × St)} (hz : fX5_bestBits_j34 l1 l2 l3 σ = some z) {Q : Option Value → St → Prop} (K : ((Int32 × Int32 × Int32 × St) ⊕ (Int32 × St)) → Prop) (hback : ∀ a : Int32 × Int32 × Int32 × St, K (.inl a) → AX G mX5_bestBits 2 49 6 [(0, .ref (G.2.2.1 27)), (1, .int a.1), (2, .int a.2.1), (3, .int a.2.2.1)] [] a.2.2.2 Q) (hk : K z) : AX G mX5_bestBits 2 49 34 [(0, .ref (G.2.2.1 27)), (1, .int l1), (2, .int l2), (3, .int l3)] [] σ Q := by
  unfold fX5_bestBits_j34 at hz
  refine AX.iinc (v := l3 + 1) (ls' := [(0, .ref (G.2.2.1 27)), (1, .int l1), (2, .int l2), (3, .int (l3 + 1))]) 3 dX5_bestBits_34 rfl (Nat.le_of_ble_eq_true rfl) (congrArg (l3 + ·) ic_1) rfl ?_
  refine AX.goto (tgt := 6) dX5_bestBits_37 rfl ?_
  exact AX.sub (ls' := [(0, .ref (G.2.2.1 27)), (1, .int l1), (2, .int l2), (3, .int (l3 + 1))]) [0, 1, 2, 3] rfl (hback (l1, l2, l3 + 1, σ) (kz (P := K) hz hk))
noncomputable def fX5_bestBits_b6 (l1 : Int32) (l2 : Int32) (l3 : Int32) (σ : St) : Option ((Int32 × Int32 × Int32 × St) ⊕ (Int32 × St)) :=
  if ((1 : Int32) <<< ((σ.1 27 4) &&& 31)) ≤ l3 then some (.inr (l1, σ)) else (fX5_plan l3 σ).bind fun q2 => if q2.1 ≤ l2 then fX5_bestBits_j34 l1 l2 l3 q2.2 else fX5_bestBits_j34 l3 q2.1 l3 q2.2
theorem wfX5_bestBits_b6 {G : ag_G} (l1 : Int32) (l2 : Int32) (l3 : Int32) (σ : St) {z : (Int32 × Int32 × Int32 × St) ⊕ (Int32 × St)} (hz : fX5_bestBits_b6 l1 l2 l3 σ = some z) {Q : Option Value → St → Prop} (K : ((Int32 × Int32 × Int32 × St) ⊕ (Int32 × St)) → Prop) (hback : ∀ a : Int32 × Int32 × Int32 × St, K (.inl a) → AX G mX5_bestBits 2 49 6 [(0, .ref (G.2.2.1 27)), (1, .int a.1), (2, .int a.2.1), (3, .int a.2.2.1)] [] a.2.2.2 Q) (hexit0 : ∀ a : Int32 × St, K (.inr a) → AX G mX5_bestBits 2 49 40 [(1, .int a.1)] [] a.2 Q) (hk : K z) : AX G mX5_bestBits 2 49 6 [(0, .ref (G.2.2.1 27)), (1, .int l1), (2, .int l2), (3, .int l3)] [] σ Q := by
  unfold fX5_bestBits_b6 at hz
  refine AX.iload_n dX5_bestBits_6 3 rfl rfl ?_
  refine AX.iconst dX5_bestBits_7 ic_1 ?_
  refine AX.aload_n dX5_bestBits_8 0 rfl rfl ?_
  refine AX.getIE (v := σ.1 27 4) dX5_bestBits_9 flRX5_24 rfl rfl rfl ?_
  refine AX.ishl dX5_bestBits_12 ?_
  refine AX.icmp_ge (tgt := 40) dX5_bestBits_13 rfl (fun c1 => ?_) (fun c1 => ?_)
  · replace hz := (if_pos c1).symm.trans hz
    exact AX.sub (ls' := [(1, .int l1)]) [1] rfl (hexit0 (l1, σ) (kz (P := K) hz hk))
  · replace hz := (if_neg c1).symm.trans hz
    refine AX.aload_n dX5_bestBits_16 0 rfl rfl ?_
    refine AX.iload_n dX5_bestBits_17 3 rfl rfl ?_
    obtain ⟨q2, hq2, hz⟩ := obind hz
    refine AX.callVw (r := 27) (As := [.int l3]) (rest := []) (w := some (.int q2.1)) (st' := [.int q2.1]) dX5_bestBits_18 mlRX5_32 ylX5_plan yvX5_plan rfl rfl rfl (Nat.le_of_ble_eq_true rfl) ⟨Nat.le_of_ble_eq_true rfl, Nat.le_of_ble_eq_true rfl⟩ (xX5_plan l3 σ hq2) rfl ?_
    refine AX.istore (ls' := [(0, .ref (G.2.2.1 27)), (1, .int l1), (2, .int l2), (3, .int l3), (4, .int q2.1)]) dX5_bestBits_21 (Nat.le_of_ble_eq_true rfl) rfl ?_
    refine AX.iload dX5_bestBits_23 4 rfl ?_
    refine AX.iload_n dX5_bestBits_25 2 rfl rfl ?_
    refine AX.icmp_le (tgt := 34) dX5_bestBits_26 rfl (fun c3 => ?_) (fun c3 => ?_)
    · replace hz := (if_pos c3).symm.trans hz
      exact AX.sub (ls' := [(0, .ref (G.2.2.1 27)), (1, .int l1), (2, .int l2), (3, .int l3)]) [0, 1, 2, 3] rfl (wfX5_bestBits_j34 l1 l2 l3 q2.2 hz K hback hk)
    · replace hz := (if_neg c3).symm.trans hz
      refine AX.iload dX5_bestBits_29 4 rfl ?_
      refine AX.istore_n (ls' := [(0, .ref (G.2.2.1 27)), (1, .int l1), (2, .int q2.1), (3, .int l3), (4, .int q2.1)]) dX5_bestBits_31 rfl (Nat.le_of_ble_eq_true rfl) rfl ?_
      refine AX.iload_n dX5_bestBits_32 3 rfl rfl ?_
      refine AX.istore_n (ls' := [(0, .ref (G.2.2.1 27)), (1, .int l3), (2, .int q2.1), (3, .int l3), (4, .int q2.1)]) dX5_bestBits_33 rfl (Nat.le_of_ble_eq_true rfl) rfl ?_
      exact AX.sub (ls' := [(0, .ref (G.2.2.1 27)), (1, .int l3), (2, .int q2.1), (3, .int l3)]) [0, 1, 2, 3] rfl (wfX5_bestBits_j34 l3 q2.1 l3 q2.2 hz K hback hk)
noncomputable def fX5_bestBits  (σ : St) : Option (Int32 × St) :=
  (lpc (fun s => fX5_bestBits_b6  s.1 s.2.1 s.2.2.1 s.2.2.2) (0, 0, 1, σ)).bind fun r1 => some (r1.1, r1.2)
theorem wfX5_bestBits {G : ag_G}  (σ : St) {z : Int32 × St} (hz : fX5_bestBits  σ = some z) {Q : Option Value → St → Prop} (hk : Q (some (.int z.1)) z.2) : AX G mX5_bestBits 2 49 0 [(0, .ref (G.2.2.1 27))] [] σ Q := by
  unfold fX5_bestBits at hz
  refine AX.iconst dX5_bestBits_0 ic_0 ?_
  refine AX.istore_n (ls' := [(0, .ref (G.2.2.1 27)), (1, .int 0)]) dX5_bestBits_1 rfl (Nat.le_of_ble_eq_true rfl) rfl ?_
  refine AX.iconst dX5_bestBits_2 ic_0 ?_
  refine AX.istore_n (ls' := [(0, .ref (G.2.2.1 27)), (1, .int 0), (2, .int 0)]) dX5_bestBits_3 rfl (Nat.le_of_ble_eq_true rfl) rfl ?_
  refine AX.iconst dX5_bestBits_4 ic_1 ?_
  refine AX.istore_n (ls' := [(0, .ref (G.2.2.1 27)), (1, .int 0), (2, .int 0), (3, .int 1)]) dX5_bestBits_5 rfl (Nat.le_of_ble_eq_true rfl) rfl ?_
  obtain ⟨r1, hr1, hz⟩ := obind hz
  refine AX.sub (ls' := [(0, .ref (G.2.2.1 27)), (1, .int 0), (2, .int 0), (3, .int 1)]) [0, 1, 2, 3] rfl ?_
  refine lpc_ind (s := (0, 0, 1, σ)) (r := r1) (fun s => AX G mX5_bestBits 2 49 6 [(0, .ref (G.2.2.1 27)), (1, .int s.1), (2, .int s.2.1), (3, .int s.2.2.1)] [] s.2.2.2 Q) (fun a : Int32 × St => AX G mX5_bestBits 2 49 40 [(1, .int a.1)] [] a.2 Q) hr1 (fun s z hb hK => wfX5_bestBits_b6  s.1 s.2.1 s.2.2.1 s.2.2.2 hb (Sum.elim (fun s => AX G mX5_bestBits 2 49 6 [(0, .ref (G.2.2.1 27)), (1, .int s.1), (2, .int s.2.1), (3, .int s.2.2.1)] [] s.2.2.2 Q) (fun a : Int32 × St => AX G mX5_bestBits 2 49 40 [(1, .int a.1)] [] a.2 Q)) (fun _ h9 => h9) (fun _ h9 => h9) hK) ?_
  refine AX.iload_n dX5_bestBits_40 0 rfl rfl ?_
  exact AX.ireturn dX5_bestBits_41 rfl (vp_nar_int _) (kz (P := fun z => Q (some (.int z.1)) z.2) hz hk)
theorem xX5_bestBits {G : ag_G}  (σ : St) {z : Int32 × St} (hz : fX5_bestBits  σ = some z) : AC G yX5_bestBits mX5_bestBits 2 49 [.ref (G.2.2.1 27)] σ (fun v σ1 => v = some (.int z.1) ∧ σ1 = z.2) := AC.of (plainFor_of_name (by decide)) rfl (Nat.le_of_ble_eq_true rfl) (wfX5_bestBits  σ hz ⟨rfl, rfl⟩)
noncomputable def fX5_lookedAtIn_b2 (l1 : Int32) (l2 : Int32) (σ : St) : Option ((Int32) ⊕ ((Int32) ⊕ (Unit))) :=
  if (σ.1 27 4) ≤ l2 then some (.inr (.inr ())) else if (8 : Int32) ≤ l2 then some (.inr (.inr ())) else if inb l2 8 = true then if (σ.1 31 l2.toNatClampNeg) = l1 then some (.inr (.inl l2)) else some (.inl (l2 + 1)) else none
theorem wfX5_lookedAtIn_b2 {G : ag_G} (l1 : Int32) (l2 : Int32) (σ : St) {z : (Int32) ⊕ ((Int32) ⊕ (Unit))} (hz : fX5_lookedAtIn_b2 l1 l2 σ = some z) {Q : Option Value → St → Prop} (K : ((Int32) ⊕ ((Int32) ⊕ (Unit))) → Prop) (hback : ∀ a : Int32, K (.inl a) → AX G mX5_lookedAtIn 0 0 2 [(0, .ref (G.2.2.1 27)), (1, .int l1), (2, .int a)] [] σ Q) (hexit0 : ∀ a : Int32, K (.inr (.inl a)) → AX G mX5_lookedAtIn 0 0 26 [(2, .int a)] [] σ Q) (hexit1 : ∀ a : Unit, K (.inr (.inr a)) → AX G mX5_lookedAtIn 0 0 34 [] [] σ Q) (hk : K z) : AX G mX5_lookedAtIn 0 0 2 [(0, .ref (G.2.2.1 27)), (1, .int l1), (2, .int l2)] [] σ Q := by
  unfold fX5_lookedAtIn_b2 at hz
  refine AX.iload_n dX5_lookedAtIn_2 2 rfl rfl ?_
  refine AX.aload_n dX5_lookedAtIn_3 0 rfl rfl ?_
  refine AX.getIE (v := σ.1 27 4) dX5_lookedAtIn_4 flRX5_24 rfl rfl rfl ?_
  refine AX.icmp_ge (tgt := 34) dX5_lookedAtIn_7 rfl (fun c1 => ?_) (fun c1 => ?_)
  · replace hz := (if_pos c1).symm.trans hz
    exact AX.sub (ls' := []) [] rfl (hexit1 () (kz (P := K) hz hk))
  · replace hz := (if_neg c1).symm.trans hz
    refine AX.iload_n dX5_lookedAtIn_10 2 rfl rfl ?_
    refine AX.bipush dX5_lookedAtIn_11 bp_8 ?_
    refine AX.icmp_ge (tgt := 34) dX5_lookedAtIn_13 rfl (fun c2 => ?_) (fun c2 => ?_)
    · replace hz := (if_pos c2).symm.trans hz
      exact AX.sub (ls' := []) [] rfl (hexit1 () (kz (P := K) hz hk))
    · replace hz := (if_neg c2).symm.trans hz
      refine AX.aload_n dX5_lookedAtIn_16 0 rfl rfl ?_
      refine AX.getR dX5_lookedAtIn_17 flRX5_21 rfl rfl ?_
      refine AX.iload_n dX5_lookedAtIn_20 2 rfl rfl ?_
      obtain ⟨b3, hz⟩ := ite_n hz
      refine AX.ialdE (v := σ.1 31 l2.toNatClampNeg) dX5_lookedAtIn_21 rfl b3 rfl ?_
      refine AX.iload_n dX5_lookedAtIn_22 1 rfl rfl ?_
      refine AX.icmp_ne (tgt := 28) dX5_lookedAtIn_23 rfl (fun c4 => ?_) (fun c4 => ?_)
      · replace hz := (if_neg c4).symm.trans hz
        refine AX.iinc (v := l2 + 1) (ls' := [(0, .ref (G.2.2.1 27)), (1, .int l1), (2, .int (l2 + 1))]) 2 dX5_lookedAtIn_28 rfl (Nat.le_of_ble_eq_true rfl) (congrArg (l2 + ·) ic_1) rfl ?_
        refine AX.goto (tgt := 2) dX5_lookedAtIn_31 rfl ?_
        exact AX.sub (ls' := [(0, .ref (G.2.2.1 27)), (1, .int l1), (2, .int (l2 + 1))]) [0, 1, 2] rfl (hback (l2 + 1) (kz (P := K) hz hk))
      · replace hz := (if_pos c4).symm.trans hz
        exact AX.sub (ls' := [(2, .int l2)]) [2] rfl (hexit0 l2 (kz (P := K) hz hk))
noncomputable def fX5_lookedAtIn (p0 : Int32) (σ : St) : Option (Int32) :=
  (lpc (fun s => fX5_lookedAtIn_b2 p0 s σ) 0).bind fun r1 => Sum.elim (fun r1_0 => some r1_0) (fun r1_1 => some (-1 : Int32)) r1
theorem wfX5_lookedAtIn {G : ag_G} (p0 : Int32) (σ : St) {z : Int32} (hz : fX5_lookedAtIn p0 σ = some z) {Q : Option Value → St → Prop} (hk : Q (some (.int z)) σ) : AX G mX5_lookedAtIn 0 0 0 [(0, .ref (G.2.2.1 27)), (1, .int p0)] [] σ Q := by
  unfold fX5_lookedAtIn at hz
  refine AX.iconst dX5_lookedAtIn_0 ic_0 ?_
  refine AX.istore_n (ls' := [(0, .ref (G.2.2.1 27)), (1, .int p0), (2, .int 0)]) dX5_lookedAtIn_1 rfl (Nat.le_of_ble_eq_true rfl) rfl ?_
  obtain ⟨r1, hr1, hz⟩ := obind hz
  refine AX.sub (ls' := [(0, .ref (G.2.2.1 27)), (1, .int p0), (2, .int 0)]) [0, 1, 2] rfl ?_
  refine lpc_ind (s := 0) (r := r1) (fun s => AX G mX5_lookedAtIn 0 0 2 [(0, .ref (G.2.2.1 27)), (1, .int p0), (2, .int s)] [] σ Q) (Sum.elim (fun a : Int32 => AX G mX5_lookedAtIn 0 0 26 [(2, .int a)] [] σ Q) (fun a : Unit => AX G mX5_lookedAtIn 0 0 34 [] [] σ Q)) hr1 (fun s z hb hK => wfX5_lookedAtIn_b2 p0 s σ hb (Sum.elim (fun s => AX G mX5_lookedAtIn 0 0 2 [(0, .ref (G.2.2.1 27)), (1, .int p0), (2, .int s)] [] σ Q) (Sum.elim (fun a : Int32 => AX G mX5_lookedAtIn 0 0 26 [(2, .int a)] [] σ Q) (fun a : Unit => AX G mX5_lookedAtIn 0 0 34 [] [] σ Q))) (fun _ h9 => h9) (fun _ h9 => h9) (fun _ h9 => h9) hK) ?_
  rcases r1 with r1_0 | r1_1
  · dsimp only [Sum.elim_inl, Sum.elim_inr] at hz ⊢
    refine AX.iload_n dX5_lookedAtIn_26 0 rfl rfl ?_
    exact AX.ireturn dX5_lookedAtIn_27 rfl (vp_nar_int _) (kz (P := fun z => Q (some (.int z)) σ) hz hk)
  · dsimp only [Sum.elim_inl, Sum.elim_inr] at hz ⊢
    refine AX.iconst dX5_lookedAtIn_34 ic_m1 ?_
    exact AX.ireturn dX5_lookedAtIn_35 rfl (vp_nar_int _) (kz (P := fun z => Q (some (.int z)) σ) hz hk)
theorem xX5_lookedAtIn {G : ag_G} (p0 : Int32) (σ : St) {z : Int32} (hz : fX5_lookedAtIn p0 σ = some z) : AC G yX5_lookedAtIn mX5_lookedAtIn 0 0 [.ref (G.2.2.1 27), .int p0] σ (fun v σ1 => v = some (.int z) ∧ σ1 = σ) := AC.of (plainFor_of_name (by decide)) rfl (Nat.le_of_ble_eq_true rfl) (wfX5_lookedAtIn p0 σ hz ⟨rfl, rfl⟩)
noncomputable def fX6_most (p0 : Int32) (σ : St) : Option (Int32) :=
  (fX10_itemAt 1001 p0 σ).bind fun q1 => some q1
theorem wfX6_most {G : ag_G} (p0 : Int32) (σ : St) {z : Int32} (hz : fX6_most p0 σ = some z) {Q : Option Value → St → Prop} (hk : Q (some (.int z)) σ) : AX G mX6_most 1 21 0 [(0, .int p0)] [] σ Q := by
  unfold fX6_most at hz
  refine AX.getsM dX6_most_0 fsRX6_13 ?_
  refine AX.iload_n dX6_most_3 0 rfl rfl ?_
  obtain ⟨q1, hq1, hz⟩ := obind hz
  refine AX.callSw (As := [.ref (G.2.2.1 1001), .int p0]) (rest := []) (w := some (.int q1)) (st' := [.int q1]) dX6_most_4 mlRX6_16 ylX10_itemAt ysX10_itemAt rfl rfl (Nat.le_of_ble_eq_true rfl) ⟨Nat.le_of_ble_eq_true rfl, Nat.le_of_ble_eq_true rfl⟩ (xX10_itemAt 1001 p0 σ hq1) rfl ?_
  exact AX.ireturn dX6_most_7 rfl (vp_nar_int _) (kz (P := fun z => Q (some (.int z)) σ) hz hk)
theorem xX6_most {G : ag_G} (p0 : Int32) (σ : St) {z : Int32} (hz : fX6_most p0 σ = some z) : AC G yX6_most mX6_most 1 21 [.int p0] σ (fun v σ1 => v = some (.int z) ∧ σ1 = σ) := AC.of (plainFor_of_name (by decide)) rfl (Nat.le_of_ble_eq_true rfl) (wfX6_most p0 σ hz ⟨rfl, rfl⟩)
noncomputable def fX6_become (p0 : Int32) (p1 : Int32) (σ : St) : Option (St) :=
  if p0 < (0 : Int32) then some σ else if (9 : Int32) ≤ p0 then some σ else if inb p0 9 = true then some (sI σ 8 p0.toNatClampNeg p1) else none
theorem wfX6_become {G : ag_G} (p0 : Int32) (p1 : Int32) (σ : St) {z : St} (hz : fX6_become p0 p1 σ = some z) {Q : Option Value → St → Prop} (hk : Q (none) z) : AX G mX6_become 0 0 0 [(0, .ref (G.2.2.1 7)), (1, .int p0), (2, .int p1)] [] σ Q := by
  unfold fX6_become at hz
  refine AX.iload_n dX6_become_0 1 rfl rfl ?_
  refine AX.if_lt (tgt := 20) dX6_become_1 rfl (fun c1 => ?_) (fun c1 => ?_)
  · replace hz := (if_pos c1).symm.trans hz
    exact AX.vreturn dX6_become_20 rfl (kz (P := fun z => Q (none) z) hz hk)
  · replace hz := (if_neg c1).symm.trans hz
    refine AX.iload_n dX6_become_4 1 rfl rfl ?_
    refine AX.aload_n dX6_become_5 0 rfl rfl ?_
    refine AX.getR dX6_become_6 flRX6_7 rfl rfl ?_
    refine AX.alenR dX6_become_9 rfl ?_
    refine AX.icmp_ge (tgt := 20) dX6_become_10 rfl (fun c2 => ?_) (fun c2 => ?_)
    · replace hz := (if_pos c2).symm.trans hz
      exact AX.vreturn dX6_become_20 rfl (kz (P := fun z => Q (none) z) hz hk)
    · replace hz := (if_neg c2).symm.trans hz
      refine AX.aload_n dX6_become_13 0 rfl rfl ?_
      refine AX.getR dX6_become_14 flRX6_7 rfl rfl ?_
      refine AX.iload_n dX6_become_17 1 rfl rfl ?_
      refine AX.iload_n dX6_become_18 2 rfl rfl ?_
      obtain ⟨b3, hz⟩ := ite_n hz
      refine AX.iast dX6_become_19 rfl b3 ?_
      exact AX.vreturn dX6_become_20 rfl (kz (P := fun z => Q (none) z) hz hk)
theorem xX6_become {G : ag_G} (p0 : Int32) (p1 : Int32) (σ : St) {z : St} (hz : fX6_become p0 p1 σ = some z) : AC G yX6_become mX6_become 0 0 [.ref (G.2.2.1 7), .int p0, .int p1] σ (fun v σ1 => v = none ∧ σ1 = z) := AC.of (plainFor_of_name (by decide)) rfl (Nat.le_of_ble_eq_true rfl) (wfX6_become p0 p1 σ hz ⟨rfl, rfl⟩)
noncomputable def fX7_renew (r : Nat) (p0 : Int32) (p1 : Int32) (σ : St) : Option (St) :=
  if isS r = true then (fJ7_fill_53178 (r + 1) (0 : Int32) σ).bind fun q1 => some (sI (sI (sI q1 r 1 0) r 2 p0) r 3 p1) else none
theorem wfX7_renew {G : ag_G} (r : Nat) (p0 : Int32) (p1 : Int32) (σ : St) {z : St} (hz : fX7_renew r p0 p1 σ = some z) {Q : Option Value → St → Prop} (hk : Q (none) z) : AX G mX7_renew 1 23 0 [(0, .ref (G.2.2.1 r)), (1, .int p0), (2, .int p1)] [] σ Q := by
  unfold fX7_renew at hz
  obtain ⟨hrt, hz⟩ := ite_n hz
  refine AX.aload_n dX7_renew_0 0 rfl rfl ?_
  refine AX.getR dX7_renew_1 flRX7_11 (isS_tw hrt) rfl ?_
  refine AX.iconst dX7_renew_4 ic_0 ?_
  obtain ⟨q1, hq1, hz⟩ := obind hz
  refine AX.callSw (As := [.ref (G.2.2.1 (r + 1)), .int 0]) (rest := []) (w := none) (st' := []) dX7_renew_5 mlRX7_26 ylJ7_fill_53178 ysJ7_fill_53178 rfl rfl (Nat.le_of_ble_eq_true rfl) ⟨Nat.le_of_ble_eq_true rfl, Nat.le_of_ble_eq_true rfl⟩ (xJ7_fill_53178 (r + 1) (0 : Int32) σ hq1) rfl ?_
  refine AX.aload_n dX7_renew_8 0 rfl rfl ?_
  refine AX.iconst dX7_renew_9 ic_0 ?_
  refine AX.putI dX7_renew_10 fpRX7_15 (isS_tw hrt) rfl nb_0 rfl ?_
  refine AX.aload_n dX7_renew_13 0 rfl rfl ?_
  refine AX.iload_n dX7_renew_14 1 rfl rfl ?_
  refine AX.putI dX7_renew_15 fpRX7_19 (isS_tw hrt) rfl (vp_nar_int _) rfl ?_
  refine AX.aload_n dX7_renew_18 0 rfl rfl ?_
  refine AX.iload_n dX7_renew_19 2 rfl rfl ?_
  refine AX.putI dX7_renew_20 fpRX7_23 (isS_tw hrt) rfl (vp_nar_int _) rfl ?_
  exact AX.vreturn dX7_renew_23 rfl (kz (P := fun z => Q (none) z) hz hk)
theorem xX7_renew {G : ag_G} (r : Nat) (p0 : Int32) (p1 : Int32) (σ : St) {z : St} (hz : fX7_renew r p0 p1 σ = some z) : AC G yX7_renew mX7_renew 1 23 [.ref (G.2.2.1 r), .int p0, .int p1] σ (fun v σ1 => v = none ∧ σ1 = z) := AC.of (plainFor_of_name (by decide)) rfl (Nat.le_of_ble_eq_true rfl) (wfX7_renew r p0 p1 σ hz ⟨rfl, rfl⟩)
noncomputable def fX7_hasItems (r : Nat) (p0 : Int32) (p1 : Int32) (σ : St) : Option (Int32) :=
  if isS r = true then if p0 < (0 : Int32) then some (0 : Int32) else if p1 < (0 : Int32) then some (0 : Int32) else if (σ.1 r 3) < p0 then some (0 : Int32) else if ((σ.1 r 3) - p0) < p1 then some (0 : Int32) else some (1 : Int32) else none
theorem wfX7_hasItems {G : ag_G} (r : Nat) (p0 : Int32) (p1 : Int32) (σ : St) {z : Int32} (hz : fX7_hasItems r p0 p1 σ = some z) {Q : Option Value → St → Prop} (hk : Q (some (.int z)) σ) : AX G mX7_hasItems 0 0 0 [(0, .ref (G.2.2.1 r)), (1, .int p0), (2, .int p1)] [] σ Q := by
  unfold fX7_hasItems at hz
  obtain ⟨hrt, hz⟩ := ite_n hz
  refine AX.iload_n dX7_hasItems_0 1 rfl rfl ?_
  refine AX.if_lt (tgt := 30) dX7_hasItems_1 rfl (fun c1 => ?_) (fun c1 => ?_)
  · replace hz := (if_pos c1).symm.trans hz
    refine AX.iconst dX7_hasItems_30 ic_0 ?_
    exact AX.ireturn dX7_hasItems_31 rfl nb_0 (kz (P := fun z => Q (some (.int z)) σ) hz hk)
  · replace hz := (if_neg c1).symm.trans hz
    refine AX.iload_n dX7_hasItems_4 2 rfl rfl ?_
    refine AX.if_lt (tgt := 30) dX7_hasItems_5 rfl (fun c2 => ?_) (fun c2 => ?_)
    · replace hz := (if_pos c2).symm.trans hz
      refine AX.iconst dX7_hasItems_30 ic_0 ?_
      exact AX.ireturn dX7_hasItems_31 rfl nb_0 (kz (P := fun z => Q (some (.int z)) σ) hz hk)
    · replace hz := (if_neg c2).symm.trans hz
      refine AX.iload_n dX7_hasItems_8 1 rfl rfl ?_
      refine AX.aload_n dX7_hasItems_9 0 rfl rfl ?_
      refine AX.getIE (v := σ.1 r 3) dX7_hasItems_10 flRX7_23 (isS_tw hrt) rfl rfl ?_
      refine AX.icmp_gt (tgt := 30) dX7_hasItems_13 rfl (fun c3 => ?_) (fun c3 => ?_)
      · replace hz := (if_pos c3).symm.trans hz
        refine AX.iconst dX7_hasItems_30 ic_0 ?_
        exact AX.ireturn dX7_hasItems_31 rfl nb_0 (kz (P := fun z => Q (some (.int z)) σ) hz hk)
      · replace hz := (if_neg c3).symm.trans hz
        refine AX.iload_n dX7_hasItems_16 2 rfl rfl ?_
        refine AX.aload_n dX7_hasItems_17 0 rfl rfl ?_
        refine AX.getIE (v := σ.1 r 3) dX7_hasItems_18 flRX7_23 (isS_tw hrt) rfl rfl ?_
        refine AX.iload_n dX7_hasItems_21 1 rfl rfl ?_
        refine AX.isub dX7_hasItems_22 ?_
        refine AX.icmp_gt (tgt := 30) dX7_hasItems_23 rfl (fun c4 => ?_) (fun c4 => ?_)
        · replace hz := (if_pos c4).symm.trans hz
          refine AX.iconst dX7_hasItems_30 ic_0 ?_
          exact AX.ireturn dX7_hasItems_31 rfl nb_0 (kz (P := fun z => Q (some (.int z)) σ) hz hk)
        · replace hz := (if_neg c4).symm.trans hz
          refine AX.iconst dX7_hasItems_26 ic_1 ?_
          refine AX.goto (tgt := 31) dX7_hasItems_27 rfl ?_
          exact AX.ireturn dX7_hasItems_31 rfl nb_1 (kz (P := fun z => Q (some (.int z)) σ) hz hk)
theorem xX7_hasItems {G : ag_G} (r : Nat) (p0 : Int32) (p1 : Int32) (σ : St) {z : Int32} (hz : fX7_hasItems r p0 p1 σ = some z) : AC G yX7_hasItems mX7_hasItems 0 0 [.ref (G.2.2.1 r), .int p0, .int p1] σ (fun v σ1 => v = some (.int z) ∧ σ1 = σ) := AC.of (plainFor_of_name (by decide)) rfl (Nat.le_of_ble_eq_true rfl) (wfX7_hasItems r p0 p1 σ hz ⟨rfl, rfl⟩)
noncomputable def fX7_findingAt (r : Nat) (p0 : Int32) (p1 : Int32) (σ : St) : Option (Int32) :=
  if isS r = true then if (σ.1 r 1) = (0 : Int32) then if p0 = (σ.1 r 2) then (fX7_hasItems r p1 (1 : Int32) σ).bind fun q3 => if q3 = (0 : Int32) then some (2 : Int32) else some (0 : Int32) else some (3 : Int32) else some (1 : Int32) else none
theorem wfX7_findingAt {G : ag_G} (r : Nat) (p0 : Int32) (p1 : Int32) (σ : St) {z : Int32} (hz : fX7_findingAt r p0 p1 σ = some z) {Q : Option Value → St → Prop} (hk : Q (some (.int z)) σ) : AX G mX7_findingAt 1 22 0 [(0, .ref (G.2.2.1 r)), (1, .int p0), (2, .int p1)] [] σ Q := by
  unfold fX7_findingAt at hz
  obtain ⟨hrt, hz⟩ := ite_n hz
  refine AX.aload_n dX7_findingAt_0 0 rfl rfl ?_
  refine AX.getIE (v := σ.1 r 1) dX7_findingAt_1 flRX7_15 (isS_tw hrt) rfl rfl ?_
  refine AX.if_eq (tgt := 9) dX7_findingAt_4 rfl (fun c1 => ?_) (fun c1 => ?_)
  · replace hz := (if_pos c1).symm.trans hz
    refine AX.iload_n dX7_findingAt_9 1 rfl rfl ?_
    refine AX.aload_n dX7_findingAt_10 0 rfl rfl ?_
    refine AX.getIE (v := σ.1 r 2) dX7_findingAt_11 flRX7_19 (isS_tw hrt) rfl rfl ?_
    refine AX.icmp_eq (tgt := 19) dX7_findingAt_14 rfl (fun c2 => ?_) (fun c2 => ?_)
    · replace hz := (if_pos c2).symm.trans hz
      refine AX.aload_n dX7_findingAt_19 0 rfl rfl ?_
      refine AX.iload_n dX7_findingAt_20 2 rfl rfl ?_
      refine AX.iconst dX7_findingAt_21 ic_1 ?_
      obtain ⟨q3, hq3, hz⟩ := obind hz
      refine AX.callVw (r := r) (As := [.int p1, .int 1]) (rest := []) (w := some (.int q3)) (st' := [.int q3]) dX7_findingAt_22 mlRX7_32 ylX7_hasItems yvX7_hasItems (isS_tw hrt) rfl rfl (Nat.le_of_ble_eq_true rfl) ⟨Nat.le_of_ble_eq_true rfl, Nat.le_of_ble_eq_true rfl⟩ (xX7_hasItems r p1 (1 : Int32) σ hq3) rfl ?_
      refine AX.if_eq (tgt := 32) dX7_findingAt_25 rfl (fun c4 => ?_) (fun c4 => ?_)
      · replace hz := (if_pos c4).symm.trans hz
        refine AX.iconst dX7_findingAt_32 ic_2 ?_
        exact AX.ireturn dX7_findingAt_33 rfl (vp_nar_int _) (kz (P := fun z => Q (some (.int z)) σ) hz hk)
      · replace hz := (if_neg c4).symm.trans hz
        refine AX.iconst dX7_findingAt_28 ic_0 ?_
        refine AX.goto (tgt := 33) dX7_findingAt_29 rfl ?_
        exact AX.ireturn dX7_findingAt_33 rfl (vp_nar_int _) (kz (P := fun z => Q (some (.int z)) σ) hz hk)
    · replace hz := (if_neg c2).symm.trans hz
      refine AX.iconst dX7_findingAt_17 ic_3 ?_
      exact AX.ireturn dX7_findingAt_18 rfl (vp_nar_int _) (kz (P := fun z => Q (some (.int z)) σ) hz hk)
  · replace hz := (if_neg c1).symm.trans hz
    refine AX.iconst dX7_findingAt_7 ic_1 ?_
    exact AX.ireturn dX7_findingAt_8 rfl (vp_nar_int _) (kz (P := fun z => Q (some (.int z)) σ) hz hk)
theorem xX7_findingAt {G : ag_G} (r : Nat) (p0 : Int32) (p1 : Int32) (σ : St) {z : Int32} (hz : fX7_findingAt r p0 p1 σ = some z) : AC G yX7_findingAt mX7_findingAt 1 22 [.ref (G.2.2.1 r), .int p0, .int p1] σ (fun v σ1 => v = some (.int z) ∧ σ1 = σ) := AC.of (plainFor_of_name (by decide)) rfl (Nat.le_of_ble_eq_true rfl) (wfX7_findingAt r p0 p1 σ hz ⟨rfl, rfl⟩)
noncomputable def fX7_itemOf (r : Nat) (p0 : Int32) (σ : St) : Option (Int32) :=
  if isS r = true then (fX10_itemAt (r + 1) p0 σ).bind fun q1 => some q1 else none
theorem wfX7_itemOf {G : ag_G} (r : Nat) (p0 : Int32) (σ : St) {z : Int32} (hz : fX7_itemOf r p0 σ = some z) {Q : Option Value → St → Prop} (hk : Q (some (.int z)) σ) : AX G mX7_itemOf 1 21 0 [(0, .ref (G.2.2.1 r)), (1, .int p0)] [] σ Q := by
  unfold fX7_itemOf at hz
  obtain ⟨hrt, hz⟩ := ite_n hz
  refine AX.aload_n dX7_itemOf_0 0 rfl rfl ?_
  refine AX.getR dX7_itemOf_1 flRX7_11 (isS_tw hrt) rfl ?_
  refine AX.iload_n dX7_itemOf_4 1 rfl rfl ?_
  obtain ⟨q1, hq1, hz⟩ := obind hz
  refine AX.callSw (As := [.ref (G.2.2.1 (r + 1)), .int p0]) (rest := []) (w := some (.int q1)) (st' := [.int q1]) dX7_itemOf_5 mlRX7_36 ylX10_itemAt ysX10_itemAt rfl rfl (Nat.le_of_ble_eq_true rfl) ⟨Nat.le_of_ble_eq_true rfl, Nat.le_of_ble_eq_true rfl⟩ (xX10_itemAt (r + 1) p0 σ hq1) rfl ?_
  exact AX.ireturn dX7_itemOf_8 rfl (vp_nar_int _) (kz (P := fun z => Q (some (.int z)) σ) hz hk)
theorem xX7_itemOf {G : ag_G} (r : Nat) (p0 : Int32) (σ : St) {z : Int32} (hz : fX7_itemOf r p0 σ = some z) : AC G yX7_itemOf mX7_itemOf 1 21 [.ref (G.2.2.1 r), .int p0] σ (fun v σ1 => v = some (.int z) ∧ σ1 = σ) := AC.of (plainFor_of_name (by decide)) rfl (Nat.le_of_ble_eq_true rfl) (wfX7_itemOf r p0 σ hz ⟨rfl, rfl⟩)
noncomputable def fX7_become_j44 (t0 : Nat) (t1 : Int32) (t2 : Int32) (σ : St) : Option (St) :=
  (wi t0).bind fun nt0 => if inb t1 nt0 = true then some (sI σ t0 t1.toNatClampNeg t2) else none
theorem wfX7_become_j44 {G : ag_G} (t0 : Nat) (t1 : Int32) (t2 : Int32) (σ : St) {z : St} (hz : fX7_become_j44 t0 t1 t2 σ = some z) {Q : Option Value → St → Prop} (hk : Q (none) z) : AX G mX7_become 0 0 44 [] [.int t2, .int t1, .ref (G.2.2.1 t0)] σ Q := by
  unfold fX7_become_j44 at hz
  obtain ⟨nt0, hnt0, hz⟩ := obind hz
  obtain ⟨b1, hz⟩ := ite_n hz
  refine AX.iast dX7_become_44 hnt0 b1 ?_
  exact AX.vreturn dX7_become_45 rfl (kz (P := fun z => Q (none) z) hz hk)
noncomputable def fX7_become (r : Nat) (p0 : Int32) (p1 : Int32) (σ : St) : Option (St) :=
  if isS r = true then if p0 < (0 : Int32) then some σ else if (48 : Int32) ≤ p0 then some σ else if (σ.1 r 2) = (0 : Int32) then fX7_become_j44 (r + 1) p0 p1.toInt8.toInt32 σ else if (σ.1 r 2) = (1 : Int32) then fX7_become_j44 (r + 1) p0 p1.toInt16.toInt32 σ else fX7_become_j44 (r + 1) p0 p1 σ else none
theorem wfX7_become {G : ag_G} (r : Nat) (p0 : Int32) (p1 : Int32) (σ : St) {z : St} (hz : fX7_become r p0 p1 σ = some z) {Q : Option Value → St → Prop} (hk : Q (none) z) : AX G mX7_become 0 0 0 [(0, .ref (G.2.2.1 r)), (1, .int p0), (2, .int p1)] [] σ Q := by
  unfold fX7_become at hz
  obtain ⟨hrt, hz⟩ := ite_n hz
  refine AX.iload_n dX7_become_0 1 rfl rfl ?_
  refine AX.if_lt (tgt := 45) dX7_become_1 rfl (fun c1 => ?_) (fun c1 => ?_)
  · replace hz := (if_pos c1).symm.trans hz
    exact AX.vreturn dX7_become_45 rfl (kz (P := fun z => Q (none) z) hz hk)
  · replace hz := (if_neg c1).symm.trans hz
    refine AX.iload_n dX7_become_4 1 rfl rfl ?_
    refine AX.aload_n dX7_become_5 0 rfl rfl ?_
    refine AX.getR dX7_become_6 flRX7_11 (isS_tw hrt) rfl ?_
    refine AX.alenR dX7_become_9 (wi_ri (isS_wi hrt)) ?_
    refine AX.icmp_ge (tgt := 45) dX7_become_10 rfl (fun c2 => ?_) (fun c2 => ?_)
    · replace hz := (if_pos c2).symm.trans hz
      exact AX.vreturn dX7_become_45 rfl (kz (P := fun z => Q (none) z) hz hk)
    · replace hz := (if_neg c2).symm.trans hz
      refine AX.aload_n dX7_become_13 0 rfl rfl ?_
      refine AX.getR dX7_become_14 flRX7_11 (isS_tw hrt) rfl ?_
      refine AX.iload_n dX7_become_17 1 rfl rfl ?_
      refine AX.aload_n dX7_become_18 0 rfl rfl ?_
      refine AX.getIE (v := σ.1 r 2) dX7_become_19 flRX7_19 (isS_tw hrt) rfl rfl ?_
      refine AX.if_ne (tgt := 30) dX7_become_22 rfl (fun c3 => ?_) (fun c3 => ?_)
      · replace hz := (if_neg c3).symm.trans hz
        refine AX.aload_n dX7_become_30 0 rfl rfl ?_
        refine AX.getIE (v := σ.1 r 2) dX7_become_31 flRX7_19 (isS_tw hrt) rfl rfl ?_
        refine AX.iconst dX7_become_34 ic_1 ?_
        refine AX.icmp_ne (tgt := 43) dX7_become_35 rfl (fun c4 => ?_) (fun c4 => ?_)
        · replace hz := (if_neg c4).symm.trans hz
          refine AX.iload_n dX7_become_43 2 rfl rfl ?_
          exact AX.sub (ls' := []) [] rfl (wfX7_become_j44 (r + 1) p0 p1 σ hz hk)
        · replace hz := (if_pos c4).symm.trans hz
          refine AX.iload_n dX7_become_38 2 rfl rfl ?_
          refine AX.i2s dX7_become_39 ?_
          refine AX.goto (tgt := 44) dX7_become_40 rfl ?_
          exact AX.sub (ls' := []) [] rfl (wfX7_become_j44 (r + 1) p0 p1.toInt16.toInt32 σ hz hk)
      · replace hz := (if_pos c3).symm.trans hz
        refine AX.iload_n dX7_become_25 2 rfl rfl ?_
        refine AX.i2b dX7_become_26 ?_
        refine AX.goto (tgt := 44) dX7_become_27 rfl ?_
        exact AX.sub (ls' := []) [] rfl (wfX7_become_j44 (r + 1) p0 p1.toInt8.toInt32 σ hz hk)
theorem xX7_become {G : ag_G} (r : Nat) (p0 : Int32) (p1 : Int32) (σ : St) {z : St} (hz : fX7_become r p0 p1 σ = some z) : AC G yX7_become mX7_become 0 0 [.ref (G.2.2.1 r), .int p0, .int p1] σ (fun v σ1 => v = none ∧ σ1 = z) := AC.of (plainFor_of_name (by decide)) rfl (Nat.le_of_ble_eq_true rfl) (wfX7_become r p0 p1 σ hz ⟨rfl, rfl⟩)
noncomputable def fX10_longAt_j16  (σ : St) : Option (Int64) :=
  some (0 : Int64)
theorem wfX10_longAt_j16 {G : ag_G}  (σ : St) {z : Int64} (hz : fX10_longAt_j16  σ = some z) {Q : Option Value → St → Prop} (hk : Q (some (.long z)) σ) : AX G mX10_longAt 0 0 16 [] [] σ Q := by
  unfold fX10_longAt_j16 at hz
  refine AX.lconst dX10_longAt_16 lc_0 ?_
  exact AX.lreturn dX10_longAt_17 rfl (kz (P := fun z => Q (some (.long z)) σ) hz hk)
noncomputable def fX10_longAt (p0 : Nat) (p1 : Int32) (σ : St) : Option (Int64) :=
  (wj p0).bind fun n0 => if p1 < (0 : Int32) then fX10_longAt_j16  σ else if (Int32.ofNat n0) ≤ p1 then fX10_longAt_j16  σ else if inb p1 n0 = true then some (σ.2 p0 p1.toNatClampNeg) else none
theorem wfX10_longAt {G : ag_G} (p0 : Nat) (p1 : Int32) (σ : St) {z : Int64} (hz : fX10_longAt p0 p1 σ = some z) {Q : Option Value → St → Prop} (hk : Q (some (.long z)) σ) : AX G mX10_longAt 0 0 0 [(0, .ref (G.2.2.1 p0)), (1, .int p1)] [] σ Q := by
  unfold fX10_longAt at hz
  obtain ⟨n0, hn0, hz⟩ := obind hz
  refine AX.iload_n dX10_longAt_0 1 rfl rfl ?_
  refine AX.if_lt (tgt := 16) dX10_longAt_1 rfl (fun c1 => ?_) (fun c1 => ?_)
  · replace hz := (if_pos c1).symm.trans hz
    exact AX.sub (ls' := []) [] rfl (wfX10_longAt_j16  σ hz hk)
  · replace hz := (if_neg c1).symm.trans hz
    refine AX.iload_n dX10_longAt_4 1 rfl rfl ?_
    refine AX.aload_n dX10_longAt_5 0 rfl rfl ?_
    refine AX.alenJ dX10_longAt_6 hn0 ?_
    refine AX.icmp_ge (tgt := 16) dX10_longAt_7 rfl (fun c2 => ?_) (fun c2 => ?_)
    · replace hz := (if_pos c2).symm.trans hz
      exact AX.sub (ls' := []) [] rfl (wfX10_longAt_j16  σ hz hk)
    · replace hz := (if_neg c2).symm.trans hz
      refine AX.aload_n dX10_longAt_10 0 rfl rfl ?_
      refine AX.iload_n dX10_longAt_11 1 rfl rfl ?_
      obtain ⟨b3, hz⟩ := ite_n hz
      refine AX.laldE (v := σ.2 p0 p1.toNatClampNeg) dX10_longAt_12 hn0 b3 rfl ?_
      refine AX.goto (tgt := 17) dX10_longAt_13 rfl ?_
      exact AX.lreturn dX10_longAt_17 rfl (kz (P := fun z => Q (some (.long z)) σ) hz hk)
theorem xX10_longAt {G : ag_G} (p0 : Nat) (p1 : Int32) (σ : St) {z : Int64} (hz : fX10_longAt p0 p1 σ = some z) : AC G yX10_longAt mX10_longAt 0 0 [.ref (G.2.2.1 p0), .int p1] σ (fun v σ1 => v = some (.long z) ∧ σ1 = σ) := AC.of (plainFor_of_name (by decide)) rfl (Nat.le_of_ble_eq_true rfl) (wfX10_longAt p0 p1 σ hz ⟨rfl, rfl⟩)
noncomputable def fX8_chanceOf (p0 : Int32) (σ : St) : Option (Int64) :=
  (fX10_longAt 25 (p0 + (10 : Int32)) σ).bind fun q1 => some q1
theorem wfX8_chanceOf {G : ag_G} (p0 : Int32) (σ : St) {z : Int64} (hz : fX8_chanceOf p0 σ = some z) {Q : Option Value → St → Prop} (hk : Q (some (.long z)) σ) : AX G mX8_chanceOf 1 21 0 [(0, .ref (G.2.2.1 24)), (1, .int p0)] [] σ Q := by
  unfold fX8_chanceOf at hz
  refine AX.aload_n dX8_chanceOf_0 0 rfl rfl ?_
  refine AX.getR dX8_chanceOf_1 flRX8_9 rfl rfl ?_
  refine AX.iload_n dX8_chanceOf_4 1 rfl rfl ?_
  refine AX.bipush dX8_chanceOf_5 bp_10 ?_
  refine AX.iadd dX8_chanceOf_7 ?_
  obtain ⟨q1, hq1, hz⟩ := obind hz
  refine AX.callSw (As := [.ref (G.2.2.1 25), .int (p0 + (10 : Int32))]) (rest := []) (w := some (.long q1)) (st' := [.long q1]) dX8_chanceOf_8 mlRX8_22 ylX10_longAt ysX10_longAt rfl rfl (Nat.le_of_ble_eq_true rfl) ⟨Nat.le_of_ble_eq_true rfl, Nat.le_of_ble_eq_true rfl⟩ (xX10_longAt 25 (p0 + (10 : Int32)) σ hq1) rfl ?_
  exact AX.lreturn dX8_chanceOf_11 rfl (kz (P := fun z => Q (some (.long z)) σ) hz hk)
theorem xX8_chanceOf {G : ag_G} (p0 : Int32) (σ : St) {z : Int64} (hz : fX8_chanceOf p0 σ = some z) : AC G yX8_chanceOf mX8_chanceOf 1 21 [.ref (G.2.2.1 24), .int p0] σ (fun v σ1 => v = some (.long z) ∧ σ1 = σ) := AC.of (plainFor_of_name (by decide)) rfl (Nat.le_of_ble_eq_true rfl) (wfX8_chanceOf p0 σ hz ⟨rfl, rfl⟩)
noncomputable def fJ7_fill_d0a16_b6 (l0 : Nat) (l1 : Int64) (l4 : Int32) (l3 : Int32) (σ : St) : Option ((Int32 × St) ⊕ St) :=
  (wj l0).bind fun n0 => if l4 ≤ l3 then some (.inr σ) else if inb l3 n0 = true then some (.inl (l3 + 1, (sL σ l0 l3.toNatClampNeg l1))) else none
theorem wfJ7_fill_d0a16_b6 {G : ag_G} (l0 : Nat) (l1 : Int64) (l4 : Int32) (l3 : Int32) (σ : St) {z : (Int32 × St) ⊕ St} (hz : fJ7_fill_d0a16_b6 l0 l1 l4 l3 σ = some z) {Q : Option Value → St → Prop} (K : ((Int32 × St) ⊕ St) → Prop) (hback : ∀ a : Int32 × St, K (.inl a) → AX G mJ7_fill_d0a16 0 0 6 [(0, .ref (G.2.2.1 l0)), (1, .long l1), (3, .int a.1), (4, .int l4)] [] a.2 Q) (hexit0 : ∀ a : St, K (.inr a) → AX G mJ7_fill_d0a16 0 0 22 [] [] a Q) (hk : K z) : AX G mJ7_fill_d0a16 0 0 6 [(0, .ref (G.2.2.1 l0)), (1, .long l1), (3, .int l3), (4, .int l4)] [] σ Q := by
  unfold fJ7_fill_d0a16_b6 at hz
  obtain ⟨n0, hn0, hz⟩ := obind hz
  refine AX.iload_n dJ7_fill_d0a16_6 2 rfl rfl ?_
  refine AX.iload dJ7_fill_d0a16_7 3 rfl ?_
  refine AX.icmp_ge (tgt := 22) dJ7_fill_d0a16_9 rfl (fun c1 => ?_) (fun c1 => ?_)
  · replace hz := (if_pos c1).symm.trans hz
    exact AX.sub (ls' := []) [] rfl (hexit0 σ (kz (P := K) hz hk))
  · replace hz := (if_neg c1).symm.trans hz
    refine AX.aload_n dJ7_fill_d0a16_12 0 rfl rfl ?_
    refine AX.iload_n dJ7_fill_d0a16_13 2 rfl rfl ?_
    refine AX.lload_n dJ7_fill_d0a16_14 1 rfl rfl ?_
    obtain ⟨b2, hz⟩ := ite_n hz
    refine AX.last dJ7_fill_d0a16_15 hn0 b2 ?_
    refine AX.iinc (v := l3 + 1) (ls' := [(0, .ref (G.2.2.1 l0)), (1, .long l1), (3, .int (l3 + 1)), (4, .int l4)]) 2 dJ7_fill_d0a16_16 rfl (Nat.le_of_ble_eq_true rfl) (congrArg (l3 + ·) ic_1) rfl ?_
    refine AX.goto (tgt := 6) dJ7_fill_d0a16_19 rfl ?_
    exact AX.sub (ls' := [(0, .ref (G.2.2.1 l0)), (1, .long l1), (3, .int (l3 + 1)), (4, .int l4)]) [0, 1, 2, 3] rfl (hback (l3 + 1, (sL σ l0 l3.toNatClampNeg l1)) (kz (P := K) hz hk))
noncomputable def fJ7_fill_d0a16 (p0 : Nat) (p1 : Int64) (σ : St) : Option (St) :=
  (wj p0).bind fun n0 => ltb (Int32.ofNat n0) fun x1 => (lpc (fun s => fJ7_fill_d0a16_b6 p0 p1 x1 s.1 s.2) (0, σ)).bind fun r2 => some r2
theorem wfJ7_fill_d0a16 {G : ag_G} (p0 : Nat) (p1 : Int64) (σ : St) {z : St} (hz : fJ7_fill_d0a16 p0 p1 σ = some z) {Q : Option Value → St → Prop} (hk : Q (none) z) : AX G mJ7_fill_d0a16 0 0 0 [(0, .ref (G.2.2.1 p0)), (1, .long p1)] [] σ Q := by
  unfold fJ7_fill_d0a16 at hz
  obtain ⟨n0, hn0, hz⟩ := obind hz
  refine AX.iconst dJ7_fill_d0a16_0 ic_0 ?_
  refine AX.istore_n (ls' := [(0, .ref (G.2.2.1 p0)), (1, .long p1), (3, .int 0)]) dJ7_fill_d0a16_1 rfl (Nat.le_of_ble_eq_true rfl) rfl ?_
  refine AX.aload_n dJ7_fill_d0a16_2 0 rfl rfl ?_
  refine AX.alenJ dJ7_fill_d0a16_3 hn0 ?_
  obtain ⟨x1, hx1, hz⟩ := ltb_e hz
  refine AX.topI hx1 ?_
  refine AX.istore (ls' := [(0, .ref (G.2.2.1 p0)), (1, .long p1), (3, .int 0), (4, .int x1)]) dJ7_fill_d0a16_4 (Nat.le_of_ble_eq_true rfl) rfl ?_
  obtain ⟨r2, hr2, hz⟩ := obind hz
  refine AX.sub (ls' := [(0, .ref (G.2.2.1 p0)), (1, .long p1), (3, .int 0), (4, .int x1)]) [0, 1, 2, 3] rfl ?_
  refine lpc_ind (s := (0, σ)) (r := r2) (fun s => AX G mJ7_fill_d0a16 0 0 6 [(0, .ref (G.2.2.1 p0)), (1, .long p1), (3, .int s.1), (4, .int x1)] [] s.2 Q) (fun a : St => AX G mJ7_fill_d0a16 0 0 22 [] [] a Q) hr2 (fun s z hb hK => wfJ7_fill_d0a16_b6 p0 p1 x1 s.1 s.2 hb (Sum.elim (fun s => AX G mJ7_fill_d0a16 0 0 6 [(0, .ref (G.2.2.1 p0)), (1, .long p1), (3, .int s.1), (4, .int x1)] [] s.2 Q) (fun a : St => AX G mJ7_fill_d0a16 0 0 22 [] [] a Q)) (fun _ h9 => h9) (fun _ h9 => h9) hK) ?_
  exact AX.vreturn dJ7_fill_d0a16_22 rfl (kz (P := fun z => Q (none) z) hz hk)
theorem xJ7_fill_d0a16 {G : ag_G} (p0 : Nat) (p1 : Int64) (σ : St) {z : St} (hz : fJ7_fill_d0a16 p0 p1 σ = some z) : AC G yJ7_fill_d0a16 mJ7_fill_d0a16 0 0 [.ref (G.2.2.1 p0), .long p1] σ (fun v σ1 => v = none ∧ σ1 = z) := AC.of (plainFor_of_name (by decide)) rfl (Nat.le_of_ble_eq_true rfl) (wfJ7_fill_d0a16 p0 p1 σ hz ⟨rfl, rfl⟩)
noncomputable def fX10_addTo (p0 : Nat) (p1 : Int32) (p2 : Int64) (σ : St) : Option (St) :=
  (wj p0).bind fun n0 => if p1 < (0 : Int32) then some σ else if (Int32.ofNat n0) ≤ p1 then some σ else if inb p1 n0 = true then some (sL σ p0 p1.toNatClampNeg ((σ.2 p0 p1.toNatClampNeg) + p2)) else none
theorem wfX10_addTo {G : ag_G} (p0 : Nat) (p1 : Int32) (p2 : Int64) (σ : St) {z : St} (hz : fX10_addTo p0 p1 p2 σ = some z) {Q : Option Value → St → Prop} (hk : Q (none) z) : AX G mX10_addTo 0 0 0 [(0, .ref (G.2.2.1 p0)), (1, .int p1), (2, .long p2)] [] σ Q := by
  unfold fX10_addTo at hz
  obtain ⟨n0, hn0, hz⟩ := obind hz
  refine AX.iload_n dX10_addTo_0 1 rfl rfl ?_
  refine AX.if_lt (tgt := 17) dX10_addTo_1 rfl (fun c1 => ?_) (fun c1 => ?_)
  · replace hz := (if_pos c1).symm.trans hz
    exact AX.vreturn dX10_addTo_17 rfl (kz (P := fun z => Q (none) z) hz hk)
  · replace hz := (if_neg c1).symm.trans hz
    refine AX.iload_n dX10_addTo_4 1 rfl rfl ?_
    refine AX.aload_n dX10_addTo_5 0 rfl rfl ?_
    refine AX.alenJ dX10_addTo_6 hn0 ?_
    refine AX.icmp_ge (tgt := 17) dX10_addTo_7 rfl (fun c2 => ?_) (fun c2 => ?_)
    · replace hz := (if_pos c2).symm.trans hz
      exact AX.vreturn dX10_addTo_17 rfl (kz (P := fun z => Q (none) z) hz hk)
    · replace hz := (if_neg c2).symm.trans hz
      refine AX.aload_n dX10_addTo_10 0 rfl rfl ?_
      refine AX.iload_n dX10_addTo_11 1 rfl rfl ?_
      refine AX.dup2 dX10_addTo_12 rfl rfl ?_
      obtain ⟨b3, hz⟩ := ite_n hz
      refine AX.laldE (v := σ.2 p0 p1.toNatClampNeg) dX10_addTo_13 hn0 b3 rfl ?_
      refine AX.lload_n dX10_addTo_14 2 rfl rfl ?_
      refine AX.ladd dX10_addTo_15 ?_
      refine AX.last dX10_addTo_16 hn0 b3 ?_
      exact AX.vreturn dX10_addTo_17 rfl (kz (P := fun z => Q (none) z) hz hk)
theorem xX10_addTo {G : ag_G} (p0 : Nat) (p1 : Int32) (p2 : Int64) (σ : St) {z : St} (hz : fX10_addTo p0 p1 p2 σ = some z) : AC G yX10_addTo mX10_addTo 0 0 [.ref (G.2.2.1 p0), .int p1, .long p2] σ (fun v σ1 => v = none ∧ σ1 = z) := AC.of (plainFor_of_name (by decide)) rfl (Nat.le_of_ble_eq_true rfl) (wfX10_addTo p0 p1 p2 σ hz ⟨rfl, rfl⟩)
noncomputable def fJ9_min_7cf53 (p0 : Int32) (p1 : Int32) : Option (Int32) :=
  if p1 < p0 then some p1 else some p0
theorem wfJ9_min_7cf53 {G : ag_G} (p0 : Int32) (p1 : Int32) (σ : St) {z : Int32} (hz : fJ9_min_7cf53 p0 p1 = some z) {Q : Option Value → St → Prop} (hk : Q (some (.int z)) σ) : AX G mJ9_min_7cf53 0 0 0 [(0, .int p0), (1, .int p1)] [] σ Q := by
  unfold fJ9_min_7cf53 at hz
  refine AX.iload_n dJ9_min_7cf53_0 0 rfl rfl ?_
  refine AX.iload_n dJ9_min_7cf53_1 1 rfl rfl ?_
  refine AX.icmp_gt (tgt := 9) dJ9_min_7cf53_2 rfl (fun c1 => ?_) (fun c1 => ?_)
  · replace hz := (if_pos c1).symm.trans hz
    refine AX.iload_n dJ9_min_7cf53_9 1 rfl rfl ?_
    exact AX.ireturn dJ9_min_7cf53_10 rfl (vp_nar_int _) (kz (P := fun z => Q (some (.int z)) σ) hz hk)
  · replace hz := (if_neg c1).symm.trans hz
    refine AX.iload_n dJ9_min_7cf53_5 0 rfl rfl ?_
    refine AX.goto (tgt := 10) dJ9_min_7cf53_6 rfl ?_
    exact AX.ireturn dJ9_min_7cf53_10 rfl (vp_nar_int _) (kz (P := fun z => Q (some (.int z)) σ) hz hk)
theorem xJ9_min_7cf53 {G : ag_G} (p0 : Int32) (p1 : Int32) (σ : St) {z : Int32} (hz : fJ9_min_7cf53 p0 p1 = some z) : AC G yJ9_min_7cf53 mJ9_min_7cf53 0 0 [.int p0, .int p1] σ (fun v σ1 => v = some (.int z) ∧ σ1 = σ) := AC.of pf_min rfl (Nat.le_of_ble_eq_true rfl) (wfJ9_min_7cf53 p0 p1 σ hz ⟨rfl, rfl⟩)
noncomputable def fX8_drift_b18 (l1 : Int32) (l2 : Int32) (l3 : Int32) (l4 : Int32) (l5 : Int32) (σ : St) : Option ((Int32 × St) ⊕ St) :=
  if ((10 : Int32) + l3) < l5 then some (.inr σ) else if (21 : Int32) ≤ l5 then some (.inr σ) else (fX10_longAt 25 (l5 + (1 : Int32)) σ).bind fun q3 => (fX10_longAt 25 l5 σ).bind fun q4 => (fX10_longAt 25 (l5 - (1 : Int32)) σ).bind fun q5 => if inb l5 21 = true then some (.inl (l5 + 1, (sL σ 26 l5.toNatClampNeg ((((q3 / (16 : Int64)) * l1.toInt64) + ((q4 / (16 : Int64)) * l4.toInt64)) + ((q5 / (16 : Int64)) * l2.toInt64))))) else none
theorem wfX8_drift_b18 {G : ag_G} (l1 : Int32) (l2 : Int32) (l3 : Int32) (l4 : Int32) (l5 : Int32) (σ : St) {z : (Int32 × St) ⊕ St} (hz : fX8_drift_b18 l1 l2 l3 l4 l5 σ = some z) {Q : Option Value → St → Prop} (K : ((Int32 × St) ⊕ St) → Prop) (hback : ∀ a : Int32 × St, K (.inl a) → AX G mX8_drift 1 26 18 [(0, .ref (G.2.2.1 24)), (1, .int l1), (2, .int l2), (3, .int l3), (4, .int l4), (5, .int a.1)] [] a.2 Q) (hexit0 : ∀ a : St, K (.inr a) → AX G mX8_drift 1 26 102 [(0, .ref (G.2.2.1 24))] [] a Q) (hk : K z) : AX G mX8_drift 1 26 18 [(0, .ref (G.2.2.1 24)), (1, .int l1), (2, .int l2), (3, .int l3), (4, .int l4), (5, .int l5)] [] σ Q := by
  unfold fX8_drift_b18 at hz
  refine AX.iload dX8_drift_18 5 rfl ?_
  refine AX.bipush dX8_drift_20 bp_10 ?_
  refine AX.iload_n dX8_drift_22 3 rfl rfl ?_
  refine AX.iadd dX8_drift_23 ?_
  refine AX.icmp_gt (tgt := 102) dX8_drift_24 rfl (fun c1 => ?_) (fun c1 => ?_)
  · replace hz := (if_pos c1).symm.trans hz
    exact AX.sub (ls' := [(0, .ref (G.2.2.1 24))]) [0] rfl (hexit0 σ (kz (P := K) hz hk))
  · replace hz := (if_neg c1).symm.trans hz
    refine AX.iload dX8_drift_27 5 rfl ?_
    refine AX.bipush dX8_drift_29 bp_21 ?_
    refine AX.icmp_ge (tgt := 102) dX8_drift_31 rfl (fun c2 => ?_) (fun c2 => ?_)
    · replace hz := (if_pos c2).symm.trans hz
      exact AX.sub (ls' := [(0, .ref (G.2.2.1 24))]) [0] rfl (hexit0 σ (kz (P := K) hz hk))
    · replace hz := (if_neg c2).symm.trans hz
      refine AX.aload_n dX8_drift_34 0 rfl rfl ?_
      refine AX.getR dX8_drift_35 flRX8_15 rfl rfl ?_
      refine AX.iload dX8_drift_38 5 rfl ?_
      refine AX.aload_n dX8_drift_40 0 rfl rfl ?_
      refine AX.getR dX8_drift_41 flRX8_9 rfl rfl ?_
      refine AX.iload dX8_drift_44 5 rfl ?_
      refine AX.iconst dX8_drift_46 ic_1 ?_
      refine AX.iadd dX8_drift_47 ?_
      obtain ⟨q3, hq3, hz⟩ := obind hz
      refine AX.callSw (As := [.ref (G.2.2.1 25), .int (l5 + (1 : Int32))]) (rest := [.int l5, .ref (G.2.2.1 26)]) (w := some (.long q3)) (st' := [.long q3, .int l5, .ref (G.2.2.1 26)]) dX8_drift_48 mlRX8_22 ylX10_longAt ysX10_longAt rfl rfl (Nat.le_of_ble_eq_true rfl) ⟨Nat.le_of_ble_eq_true rfl, Nat.le_of_ble_eq_true rfl⟩ (xX10_longAt 25 (l5 + (1 : Int32)) σ hq3) rfl ?_
      refine AX.ldc2 dX8_drift_51 kcRX8_76 ?_
      refine AX.ldiv dX8_drift_54 (by decide) ?_
      refine AX.iload_n dX8_drift_55 1 rfl rfl ?_
      refine AX.i2l dX8_drift_56 ?_
      refine AX.lmul dX8_drift_57 ?_
      refine AX.aload_n dX8_drift_58 0 rfl rfl ?_
      refine AX.getR dX8_drift_59 flRX8_9 rfl rfl ?_
      refine AX.iload dX8_drift_62 5 rfl ?_
      obtain ⟨q4, hq4, hz⟩ := obind hz
      refine AX.callSw (As := [.ref (G.2.2.1 25), .int l5]) (rest := [.long ((q3 / (16 : Int64)) * l1.toInt64), .int l5, .ref (G.2.2.1 26)]) (w := some (.long q4)) (st' := [.long q4, .long ((q3 / (16 : Int64)) * l1.toInt64), .int l5, .ref (G.2.2.1 26)]) dX8_drift_64 mlRX8_22 ylX10_longAt ysX10_longAt rfl rfl (Nat.le_of_ble_eq_true rfl) ⟨Nat.le_of_ble_eq_true rfl, Nat.le_of_ble_eq_true rfl⟩ (xX10_longAt 25 l5 σ hq4) rfl ?_
      refine AX.ldc2 dX8_drift_67 kcRX8_76 ?_
      refine AX.ldiv dX8_drift_70 (by decide) ?_
      refine AX.iload dX8_drift_71 4 rfl ?_
      refine AX.i2l dX8_drift_73 ?_
      refine AX.lmul dX8_drift_74 ?_
      refine AX.ladd dX8_drift_75 ?_
      refine AX.aload_n dX8_drift_76 0 rfl rfl ?_
      refine AX.getR dX8_drift_77 flRX8_9 rfl rfl ?_
      refine AX.iload dX8_drift_80 5 rfl ?_
      refine AX.iconst dX8_drift_82 ic_1 ?_
      refine AX.isub dX8_drift_83 ?_
      obtain ⟨q5, hq5, hz⟩ := obind hz
      refine AX.callSw (As := [.ref (G.2.2.1 25), .int (l5 - (1 : Int32))]) (rest := [.long (((q3 / (16 : Int64)) * l1.toInt64) + ((q4 / (16 : Int64)) * l4.toInt64)), .int l5, .ref (G.2.2.1 26)]) (w := some (.long q5)) (st' := [.long q5, .long (((q3 / (16 : Int64)) * l1.toInt64) + ((q4 / (16 : Int64)) * l4.toInt64)), .int l5, .ref (G.2.2.1 26)]) dX8_drift_84 mlRX8_22 ylX10_longAt ysX10_longAt rfl rfl (Nat.le_of_ble_eq_true rfl) ⟨Nat.le_of_ble_eq_true rfl, Nat.le_of_ble_eq_true rfl⟩ (xX10_longAt 25 (l5 - (1 : Int32)) σ hq5) rfl ?_
      refine AX.ldc2 dX8_drift_87 kcRX8_76 ?_
      refine AX.ldiv dX8_drift_90 (by decide) ?_
      refine AX.iload_n dX8_drift_91 2 rfl rfl ?_
      refine AX.i2l dX8_drift_92 ?_
      refine AX.lmul dX8_drift_93 ?_
      refine AX.ladd dX8_drift_94 ?_
      obtain ⟨b6, hz⟩ := ite_n hz
      refine AX.last dX8_drift_95 rfl b6 ?_
      refine AX.iinc (v := l5 + 1) (ls' := [(0, .ref (G.2.2.1 24)), (1, .int l1), (2, .int l2), (3, .int l3), (4, .int l4), (5, .int (l5 + 1))]) 5 dX8_drift_96 rfl (Nat.le_of_ble_eq_true rfl) (congrArg (l5 + ·) ic_1) rfl ?_
      refine AX.goto (tgt := 18) dX8_drift_99 rfl ?_
      exact AX.sub (ls' := [(0, .ref (G.2.2.1 24)), (1, .int l1), (2, .int l2), (3, .int l3), (4, .int l4), (5, .int (l5 + 1))]) [0, 1, 2, 3, 4, 5] rfl (hback (l5 + 1, (sL σ 26 l5.toNatClampNeg ((((q3 / (16 : Int64)) * l1.toInt64) + ((q4 / (16 : Int64)) * l4.toInt64)) + ((q5 / (16 : Int64)) * l2.toInt64)))) (kz (P := K) hz hk))
noncomputable def fX8_drift (p0 : Int32) (p1 : Int32) (p2 : Int32) (σ : St) : Option (St) :=
  ltb (((16 : Int32) - p0) - p1) fun x1 => (fJ9_max_7cf53 (0 : Int32) ((10 : Int32) - p2)).bind fun q2 => (lpc (fun s => fX8_drift_b18 p0 p1 p2 x1 s.1 s.2) (q2, σ)).bind fun r3 => some (rL r3 25 (va_cpy (r3.2 26) (r3.2 25) 0 0 21))
theorem wfX8_drift {G : ag_G} (p0 : Int32) (p1 : Int32) (p2 : Int32) (σ : St) {z : St} (hz : fX8_drift p0 p1 p2 σ = some z) {Q : Option Value → St → Prop} (hk : Q (none) z) : AX G mX8_drift 1 26 0 [(0, .ref (G.2.2.1 24)), (1, .int p0), (2, .int p1), (3, .int p2)] [] σ Q := by
  unfold fX8_drift at hz
  refine AX.bipush dX8_drift_0 bp_16 ?_
  refine AX.iload_n dX8_drift_2 1 rfl rfl ?_
  refine AX.isub dX8_drift_3 ?_
  refine AX.iload_n dX8_drift_4 2 rfl rfl ?_
  refine AX.isub dX8_drift_5 ?_
  obtain ⟨x1, hx1, hz⟩ := ltb_e hz
  refine AX.topI hx1 ?_
  refine AX.istore (ls' := [(0, .ref (G.2.2.1 24)), (1, .int p0), (2, .int p1), (3, .int p2), (4, .int x1)]) dX8_drift_6 (Nat.le_of_ble_eq_true rfl) rfl ?_
  refine AX.iconst dX8_drift_8 ic_0 ?_
  refine AX.bipush dX8_drift_9 bp_10 ?_
  refine AX.iload_n dX8_drift_11 3 rfl rfl ?_
  refine AX.isub dX8_drift_12 ?_
  obtain ⟨q2, hq2, hz⟩ := obind hz
  refine AX.callSw (As := [.int 0, .int ((10 : Int32) - p2)]) (rest := []) (w := some (.int q2)) (st' := [.int q2]) dX8_drift_13 mlRX8_73 ylJ9_max_7cf53 ysJ9_max_7cf53 rfl rfl (Nat.le_of_ble_eq_true rfl) ⟨Nat.le_of_ble_eq_true rfl, Nat.le_of_ble_eq_true rfl⟩ (xJ9_max_7cf53 (0 : Int32) ((10 : Int32) - p2) σ hq2) rfl ?_
  refine AX.istore (ls' := [(0, .ref (G.2.2.1 24)), (1, .int p0), (2, .int p1), (3, .int p2), (4, .int x1), (5, .int q2)]) dX8_drift_16 (Nat.le_of_ble_eq_true rfl) rfl ?_
  obtain ⟨r3, hr3, hz⟩ := obind hz
  refine AX.sub (ls' := [(0, .ref (G.2.2.1 24)), (1, .int p0), (2, .int p1), (3, .int p2), (4, .int x1), (5, .int q2)]) [0, 1, 2, 3, 4, 5] rfl ?_
  refine lpc_ind (s := (q2, σ)) (r := r3) (fun s => AX G mX8_drift 1 26 18 [(0, .ref (G.2.2.1 24)), (1, .int p0), (2, .int p1), (3, .int p2), (4, .int x1), (5, .int s.1)] [] s.2 Q) (fun a : St => AX G mX8_drift 1 26 102 [(0, .ref (G.2.2.1 24))] [] a Q) hr3 (fun s z hb hK => wfX8_drift_b18 p0 p1 p2 x1 s.1 s.2 hb (Sum.elim (fun s => AX G mX8_drift 1 26 18 [(0, .ref (G.2.2.1 24)), (1, .int p0), (2, .int p1), (3, .int p2), (4, .int x1), (5, .int s.1)] [] s.2 Q) (fun a : St => AX G mX8_drift 1 26 102 [(0, .ref (G.2.2.1 24))] [] a Q)) (fun _ h9 => h9) (fun _ h9 => h9) hK) ?_
  refine AX.aload_n dX8_drift_102 0 rfl rfl ?_
  refine AX.getR dX8_drift_103 flRX8_15 rfl rfl ?_
  refine AX.iconst dX8_drift_106 ic_0 ?_
  refine AX.aload_n dX8_drift_107 0 rfl rfl ?_
  refine AX.getR dX8_drift_108 flRX8_9 rfl rfl ?_
  refine AX.iconst dX8_drift_111 ic_0 ?_
  refine AX.bipush dX8_drift_112 bp_21 ?_
  refine AX.copyL (n0 := 21) (n1 := 21) dX8_drift_114 acRX8_78 rfl rfl rfl (Nat.le_of_ble_eq_true rfl) ⟨Nat.le_of_ble_eq_true rfl, Nat.le_of_ble_eq_true rfl⟩ ?_
  exact AX.vreturn dX8_drift_117 rfl (kz (P := fun z => Q (none) z) hz hk)
theorem xX8_drift {G : ag_G} (p0 : Int32) (p1 : Int32) (p2 : Int32) (σ : St) {z : St} (hz : fX8_drift p0 p1 p2 σ = some z) : AC G yX8_drift mX8_drift 1 26 [.ref (G.2.2.1 24), .int p0, .int p1, .int p2] σ (fun v σ1 => v = none ∧ σ1 = z) := AC.of (plainFor_of_name (by decide)) rfl (Nat.le_of_ble_eq_true rfl) (wfX8_drift p0 p1 p2 σ hz ⟨rfl, rfl⟩)
noncomputable def fX8_gather_b2 (l1 : Int32) (l2 : Int32) (σ : St) : Option ((Int32 × St) ⊕ St) :=
  if (21 : Int32) ≤ l2 then some (.inr σ) else if inb l2 21 = true then some (.inl (l2 + 1, (sL σ 25 l2.toNatClampNeg (((σ.2 25 l2.toNatClampNeg) / (16 : Int64)) * (((16 : Int32) - l1).toInt64))))) else none
theorem wfX8_gather_b2 {G : ag_G} (l1 : Int32) (l2 : Int32) (σ : St) {z : (Int32 × St) ⊕ St} (hz : fX8_gather_b2 l1 l2 σ = some z) {Q : Option Value → St → Prop} (K : ((Int32 × St) ⊕ St) → Prop) (hback : ∀ a : Int32 × St, K (.inl a) → AX G mX8_gather 1 23 2 [(0, .ref (G.2.2.1 24)), (1, .int l1), (2, .int a.1)] [] a.2 Q) (hexit0 : ∀ a : St, K (.inr a) → AX G mX8_gather 1 23 36 [(0, .ref (G.2.2.1 24)), (1, .int l1)] [] a Q) (hk : K z) : AX G mX8_gather 1 23 2 [(0, .ref (G.2.2.1 24)), (1, .int l1), (2, .int l2)] [] σ Q := by
  unfold fX8_gather_b2 at hz
  refine AX.iload_n dX8_gather_2 2 rfl rfl ?_
  refine AX.bipush dX8_gather_3 bp_21 ?_
  refine AX.icmp_ge (tgt := 36) dX8_gather_5 rfl (fun c1 => ?_) (fun c1 => ?_)
  · replace hz := (if_pos c1).symm.trans hz
    exact AX.sub (ls' := [(0, .ref (G.2.2.1 24)), (1, .int l1)]) [0, 1] rfl (hexit0 σ (kz (P := K) hz hk))
  · replace hz := (if_neg c1).symm.trans hz
    refine AX.aload_n dX8_gather_8 0 rfl rfl ?_
    refine AX.getR dX8_gather_9 flRX8_9 rfl rfl ?_
    refine AX.iload_n dX8_gather_12 2 rfl rfl ?_
    refine AX.aload_n dX8_gather_13 0 rfl rfl ?_
    refine AX.getR dX8_gather_14 flRX8_9 rfl rfl ?_
    refine AX.iload_n dX8_gather_17 2 rfl rfl ?_
    obtain ⟨b2, hz⟩ := ite_n hz
    refine AX.laldE (v := σ.2 25 l2.toNatClampNeg) dX8_gather_18 rfl b2 rfl ?_
    refine AX.ldc2 dX8_gather_19 kcRX8_76 ?_
    refine AX.ldiv dX8_gather_22 (by decide) ?_
    refine AX.bipush dX8_gather_23 bp_16 ?_
    refine AX.iload_n dX8_gather_25 1 rfl rfl ?_
    refine AX.isub dX8_gather_26 ?_
    refine AX.i2l dX8_gather_27 ?_
    refine AX.lmul dX8_gather_28 ?_
    refine AX.last dX8_gather_29 rfl b2 ?_
    refine AX.iinc (v := l2 + 1) (ls' := [(0, .ref (G.2.2.1 24)), (1, .int l1), (2, .int (l2 + 1))]) 2 dX8_gather_30 rfl (Nat.le_of_ble_eq_true rfl) (congrArg (l2 + ·) ic_1) rfl ?_
    refine AX.goto (tgt := 2) dX8_gather_33 rfl ?_
    exact AX.sub (ls' := [(0, .ref (G.2.2.1 24)), (1, .int l1), (2, .int (l2 + 1))]) [0, 1, 2] rfl (hback (l2 + 1, (sL σ 25 l2.toNatClampNeg (((σ.2 25 l2.toNatClampNeg) / (16 : Int64)) * (((16 : Int32) - l1).toInt64)))) (kz (P := K) hz hk))
noncomputable def fX8_gather (p0 : Int32) (σ : St) : Option (St) :=
  (lpc (fun s => fX8_gather_b2 p0 s.1 s.2) (0, σ)).bind fun r1 => (fX10_addTo 25 (10 : Int32) ((281474976710656 : Int64) * p0.toInt64) r1).bind fun q2 => some q2
theorem wfX8_gather {G : ag_G} (p0 : Int32) (σ : St) {z : St} (hz : fX8_gather p0 σ = some z) {Q : Option Value → St → Prop} (hk : Q (none) z) : AX G mX8_gather 1 23 0 [(0, .ref (G.2.2.1 24)), (1, .int p0)] [] σ Q := by
  unfold fX8_gather at hz
  refine AX.iconst dX8_gather_0 ic_0 ?_
  refine AX.istore_n (ls' := [(0, .ref (G.2.2.1 24)), (1, .int p0), (2, .int 0)]) dX8_gather_1 rfl (Nat.le_of_ble_eq_true rfl) rfl ?_
  obtain ⟨r1, hr1, hz⟩ := obind hz
  refine AX.sub (ls' := [(0, .ref (G.2.2.1 24)), (1, .int p0), (2, .int 0)]) [0, 1, 2] rfl ?_
  refine lpc_ind (s := (0, σ)) (r := r1) (fun s => AX G mX8_gather 1 23 2 [(0, .ref (G.2.2.1 24)), (1, .int p0), (2, .int s.1)] [] s.2 Q) (fun a : St => AX G mX8_gather 1 23 36 [(0, .ref (G.2.2.1 24)), (1, .int p0)] [] a Q) hr1 (fun s z hb hK => wfX8_gather_b2 p0 s.1 s.2 hb (Sum.elim (fun s => AX G mX8_gather 1 23 2 [(0, .ref (G.2.2.1 24)), (1, .int p0), (2, .int s.1)] [] s.2 Q) (fun a : St => AX G mX8_gather 1 23 36 [(0, .ref (G.2.2.1 24)), (1, .int p0)] [] a Q)) (fun _ h9 => h9) (fun _ h9 => h9) hK) ?_
  refine AX.aload_n dX8_gather_36 0 rfl rfl ?_
  refine AX.getR dX8_gather_37 flRX8_9 rfl rfl ?_
  refine AX.bipush dX8_gather_40 bp_10 ?_
  refine AX.ldc2 dX8_gather_42 kcRX8_84 ?_
  refine AX.iload_n dX8_gather_45 1 rfl rfl ?_
  refine AX.i2l dX8_gather_46 ?_
  refine AX.lmul dX8_gather_47 ?_
  obtain ⟨q2, hq2, hz⟩ := obind hz
  refine AX.callSw (As := [.ref (G.2.2.1 25), .int 10, .long ((281474976710656 : Int64) * p0.toInt64)]) (rest := []) (w := none) (st' := []) dX8_gather_48 mlRX8_34 ylX10_addTo ysX10_addTo rfl rfl (Nat.le_of_ble_eq_true rfl) ⟨Nat.le_of_ble_eq_true rfl, Nat.le_of_ble_eq_true rfl⟩ (xX10_addTo 25 (10 : Int32) ((281474976710656 : Int64) * p0.toInt64) r1 hq2) rfl ?_
  exact AX.vreturn dX8_gather_51 rfl (kz (P := fun z => Q (none) z) hz hk)
theorem xX8_gather {G : ag_G} (p0 : Int32) (σ : St) {z : St} (hz : fX8_gather p0 σ = some z) : AC G yX8_gather mX8_gather 1 23 [.ref (G.2.2.1 24), .int p0] σ (fun v σ1 => v = none ∧ σ1 = z) := AC.of (plainFor_of_name (by decide)) rfl (Nat.le_of_ble_eq_true rfl) (wfX8_gather p0 σ hz ⟨rfl, rfl⟩)
noncomputable def fX8_walk_j131 (l1 : Nat) (l2 : Int32) (l3 : Int32) (l4 : Int32) (l5 : Int32) (l6 : Int32) (σ : St) : Option ((Int32 × Int32 × St) ⊕ St) :=
  if isO l1 = true then some (.inl (l5, l6 + 1, σ)) else none
theorem wfX8_walk_j131 {G : ag_G} (l1 : Nat) (l2 : Int32) (l3 : Int32) (l4 : Int32) (l5 : Int32) (l6 : Int32) (σ : St) {z : (Int32 × Int32 × St) ⊕ St} (hz : fX8_walk_j131 l1 l2 l3 l4 l5 l6 σ = some z) {Q : Option Value → St → Prop} (K : ((Int32 × Int32 × St) ⊕ St) → Prop) (hback : ∀ a : Int32 × Int32 × St, K (.inl a) → AX G mX8_walk 2 51 34 [(0, .ref (G.2.2.1 24)), (1, .ref (G.2.2.1 l1)), (2, .int l2), (3, .int l3), (4, .int l4), (5, .int a.1), (6, .int a.2.1)] [] a.2.2 Q) (hk : K z) : AX G mX8_walk 2 51 131 [(0, .ref (G.2.2.1 24)), (1, .ref (G.2.2.1 l1)), (2, .int l2), (3, .int l3), (4, .int l4), (5, .int l5), (6, .int l6)] [] σ Q := by
  unfold fX8_walk_j131 at hz
  obtain ⟨hr1, hz⟩ := ite_n hz
  refine AX.iinc (v := l6 + 1) (ls' := [(0, .ref (G.2.2.1 24)), (1, .ref (G.2.2.1 l1)), (2, .int l2), (3, .int l3), (4, .int l4), (5, .int l5), (6, .int (l6 + 1))]) 6 dX8_walk_131 rfl (Nat.le_of_ble_eq_true rfl) (congrArg (l6 + ·) ic_1) rfl ?_
  refine AX.goto (tgt := 34) dX8_walk_134 rfl ?_
  exact AX.sub (ls' := [(0, .ref (G.2.2.1 24)), (1, .ref (G.2.2.1 l1)), (2, .int l2), (3, .int l3), (4, .int l4), (5, .int l5), (6, .int (l6 + 1))]) [0, 1, 2, 3, 4, 5, 6] rfl (hback (l5, l6 + 1, σ) (kz (P := K) hz hk))
noncomputable def fX8_walk_b34 (l1 : Nat) (l2 : Int32) (l3 : Int32) (l4 : Int32) (l5 : Int32) (l6 : Int32) (σ : St) : Option ((Int32 × Int32 × St) ⊕ St) :=
  if isO l1 = true then if l2 ≤ l6 then some (.inr σ) else (fX4_isLoose l6 σ).bind fun q2 => if q2 = (0 : Int32) then (fX4_cueIn l6 σ).bind fun q4 => if q4 = (-1 : Int32) then fX8_walk_j131 l1 l2 l3 l4 l5 l6 σ else (fX4_cueIn l6 σ).bind fun q6 => if ((l3 >>> (q6 &&& 31)) &&& (1 : Int32)) = (1 : Int32) then (fX8_gather l4 σ).bind fun q8 => fX8_walk_j131 l1 l2 l3 l4 l5 l6 q8 else fX8_walk_j131 l1 l2 l3 l4 l5 l6 σ else (fX4_kindOf l6 σ).bind fun q9 => (fJ9_min_7cf53 (10 : Int32) (l5 + (1 : Int32))).bind fun q10 => (fX3_missedOf l1 q9 σ).bind fun q11 => (fX3_doubledOf l1 q9 σ).bind fun q12 => (fX8_drift q11 q12 q10 σ).bind fun q13 => fX8_walk_j131 l1 l2 l3 l4 q10 l6 q13 else none
theorem wfX8_walk_b34 {G : ag_G} (l1 : Nat) (l2 : Int32) (l3 : Int32) (l4 : Int32) (l5 : Int32) (l6 : Int32) (σ : St) {z : (Int32 × Int32 × St) ⊕ St} (hz : fX8_walk_b34 l1 l2 l3 l4 l5 l6 σ = some z) {Q : Option Value → St → Prop} (K : ((Int32 × Int32 × St) ⊕ St) → Prop) (hback : ∀ a : Int32 × Int32 × St, K (.inl a) → AX G mX8_walk 2 51 34 [(0, .ref (G.2.2.1 24)), (1, .ref (G.2.2.1 l1)), (2, .int l2), (3, .int l3), (4, .int l4), (5, .int a.1), (6, .int a.2.1)] [] a.2.2 Q) (hexit0 : ∀ a : St, K (.inr a) → AX G mX8_walk 2 51 137 [] [] a Q) (hk : K z) : AX G mX8_walk 2 51 34 [(0, .ref (G.2.2.1 24)), (1, .ref (G.2.2.1 l1)), (2, .int l2), (3, .int l3), (4, .int l4), (5, .int l5), (6, .int l6)] [] σ Q := by
  unfold fX8_walk_b34 at hz
  obtain ⟨hr1, hz⟩ := ite_n hz
  refine AX.iload dX8_walk_34 6 rfl ?_
  refine AX.iload_n dX8_walk_36 2 rfl rfl ?_
  refine AX.icmp_ge (tgt := 137) dX8_walk_37 rfl (fun c1 => ?_) (fun c1 => ?_)
  · replace hz := (if_pos c1).symm.trans hz
    exact AX.sub (ls' := []) [] rfl (hexit0 σ (kz (P := K) hz hk))
  · replace hz := (if_neg c1).symm.trans hz
    refine AX.aload_n dX8_walk_40 0 rfl rfl ?_
    refine AX.getR dX8_walk_41 flRX8_18 rfl rfl ?_
    refine AX.iload dX8_walk_44 6 rfl ?_
    obtain ⟨q2, hq2, hz⟩ := obind hz
    refine AX.callVw (r := 1) (As := [.int l6]) (rest := []) (w := some (.int q2)) (st' := [.int q2]) dX8_walk_46 mlRX8_38 ylX4_isLoose yvX4_isLoose rfl rfl rfl (Nat.le_of_ble_eq_true rfl) ⟨Nat.le_of_ble_eq_true rfl, Nat.le_of_ble_eq_true rfl⟩ (xX4_isLoose l6 σ hq2) rfl ?_
    refine AX.if_eq (tgt := 95) dX8_walk_49 rfl (fun c3 => ?_) (fun c3 => ?_)
    · replace hz := (if_pos c3).symm.trans hz
      refine AX.aload_n dX8_walk_95 0 rfl rfl ?_
      refine AX.getR dX8_walk_96 flRX8_18 rfl rfl ?_
      refine AX.iload dX8_walk_99 6 rfl ?_
      obtain ⟨q4, hq4, hz⟩ := obind hz
      refine AX.callVw (r := 1) (As := [.int l6]) (rest := []) (w := some (.int q4)) (st' := [.int q4]) dX8_walk_101 mlRX8_66 ylX4_cueIn yvX4_cueIn rfl rfl rfl (Nat.le_of_ble_eq_true rfl) ⟨Nat.le_of_ble_eq_true rfl, Nat.le_of_ble_eq_true rfl⟩ (xX4_cueIn l6 σ hq4) rfl ?_
      refine AX.iconst dX8_walk_104 ic_m1 ?_
      refine AX.icmp_eq (tgt := 131) dX8_walk_105 rfl (fun c5 => ?_) (fun c5 => ?_)
      · replace hz := (if_pos c5).symm.trans hz
        exact AX.sub (ls' := [(0, .ref (G.2.2.1 24)), (1, .ref (G.2.2.1 l1)), (2, .int l2), (3, .int l3), (4, .int l4), (5, .int l5), (6, .int l6)]) [0, 1, 2, 3, 4, 5, 6] rfl (wfX8_walk_j131 l1 l2 l3 l4 l5 l6 σ hz K hback hk)
      · replace hz := (if_neg c5).symm.trans hz
        refine AX.iload_n dX8_walk_108 3 rfl rfl ?_
        refine AX.aload_n dX8_walk_109 0 rfl rfl ?_
        refine AX.getR dX8_walk_110 flRX8_18 rfl rfl ?_
        refine AX.iload dX8_walk_113 6 rfl ?_
        obtain ⟨q6, hq6, hz⟩ := obind hz
        refine AX.callVw (r := 1) (As := [.int l6]) (rest := [.int l3]) (w := some (.int q6)) (st' := [.int q6, .int l3]) dX8_walk_115 mlRX8_66 ylX4_cueIn yvX4_cueIn rfl rfl rfl (Nat.le_of_ble_eq_true rfl) ⟨Nat.le_of_ble_eq_true rfl, Nat.le_of_ble_eq_true rfl⟩ (xX4_cueIn l6 σ hq6) rfl ?_
        refine AX.ishr dX8_walk_118 ?_
        refine AX.iconst dX8_walk_119 ic_1 ?_
        refine AX.iand dX8_walk_120 ?_
        refine AX.iconst dX8_walk_121 ic_1 ?_
        refine AX.icmp_ne (tgt := 131) dX8_walk_122 rfl (fun c7 => ?_) (fun c7 => ?_)
        · replace hz := (if_neg c7).symm.trans hz
          exact AX.sub (ls' := [(0, .ref (G.2.2.1 24)), (1, .ref (G.2.2.1 l1)), (2, .int l2), (3, .int l3), (4, .int l4), (5, .int l5), (6, .int l6)]) [0, 1, 2, 3, 4, 5, 6] rfl (wfX8_walk_j131 l1 l2 l3 l4 l5 l6 σ hz K hback hk)
        · replace hz := (if_pos c7).symm.trans hz
          refine AX.aload_n dX8_walk_125 0 rfl rfl ?_
          refine AX.iload dX8_walk_126 4 rfl ?_
          obtain ⟨q8, hq8, hz⟩ := obind hz
          refine AX.callVw (r := 24) (As := [.int l4]) (rest := []) (w := none) (st' := []) dX8_walk_128 mlRX8_69 ylX8_gather yvX8_gather rfl rfl rfl (Nat.le_of_ble_eq_true rfl) ⟨Nat.le_of_ble_eq_true rfl, Nat.le_of_ble_eq_true rfl⟩ (xX8_gather l4 σ hq8) rfl ?_
          exact AX.sub (ls' := [(0, .ref (G.2.2.1 24)), (1, .ref (G.2.2.1 l1)), (2, .int l2), (3, .int l3), (4, .int l4), (5, .int l5), (6, .int l6)]) [0, 1, 2, 3, 4, 5, 6] rfl (wfX8_walk_j131 l1 l2 l3 l4 l5 l6 q8 hz K hback hk)
    · replace hz := (if_neg c3).symm.trans hz
      refine AX.aload_n dX8_walk_52 0 rfl rfl ?_
      refine AX.getR dX8_walk_53 flRX8_18 rfl rfl ?_
      refine AX.iload dX8_walk_56 6 rfl ?_
      obtain ⟨q9, hq9, hz⟩ := obind hz
      refine AX.callVw (r := 1) (As := [.int l6]) (rest := []) (w := some (.int q9)) (st' := [.int q9]) dX8_walk_58 mlRX8_44 ylX4_kindOf yvX4_kindOf rfl rfl rfl (Nat.le_of_ble_eq_true rfl) ⟨Nat.le_of_ble_eq_true rfl, Nat.le_of_ble_eq_true rfl⟩ (xX4_kindOf l6 σ hq9) rfl ?_
      refine AX.istore (ls' := [(0, .ref (G.2.2.1 24)), (1, .ref (G.2.2.1 l1)), (2, .int l2), (3, .int l3), (4, .int l4), (5, .int l5), (6, .int l6), (7, .int q9)]) dX8_walk_61 (Nat.le_of_ble_eq_true rfl) rfl ?_
      refine AX.bipush dX8_walk_63 bp_10 ?_
      refine AX.iload dX8_walk_65 5 rfl ?_
      refine AX.iconst dX8_walk_67 ic_1 ?_
      refine AX.iadd dX8_walk_68 ?_
      obtain ⟨q10, hq10, hz⟩ := obind hz
      refine AX.callSw (As := [.int 10, .int (l5 + (1 : Int32))]) (rest := []) (w := some (.int q10)) (st' := [.int q10]) dX8_walk_69 mlRX8_48 ylJ9_min_7cf53 ysJ9_min_7cf53 rfl rfl (Nat.le_of_ble_eq_true rfl) ⟨Nat.le_of_ble_eq_true rfl, Nat.le_of_ble_eq_true rfl⟩ (xJ9_min_7cf53 (10 : Int32) (l5 + (1 : Int32)) σ hq10) rfl ?_
      refine AX.istore (ls' := [(0, .ref (G.2.2.1 24)), (1, .ref (G.2.2.1 l1)), (2, .int l2), (3, .int l3), (4, .int l4), (5, .int q10), (6, .int l6), (7, .int q9)]) dX8_walk_72 (Nat.le_of_ble_eq_true rfl) rfl ?_
      refine AX.aload_n dX8_walk_74 0 rfl rfl ?_
      refine AX.aload_n dX8_walk_75 1 rfl rfl ?_
      refine AX.iload dX8_walk_76 7 rfl ?_
      obtain ⟨q11, hq11, hz⟩ := obind hz
      refine AX.callVw (r := l1) (As := [.int q9]) (rest := [.ref (G.2.2.1 24)]) (w := some (.int q11)) (st' := [.int q11, .ref (G.2.2.1 24)]) dX8_walk_78 mlRX8_54 ylX3_missedOf yvX3_missedOf (isO_tw hr1) rfl rfl (Nat.le_of_ble_eq_true rfl) ⟨Nat.le_of_ble_eq_true rfl, Nat.le_of_ble_eq_true rfl⟩ (xX3_missedOf l1 q9 σ hq11) rfl ?_
      refine AX.aload_n dX8_walk_81 1 rfl rfl ?_
      refine AX.iload dX8_walk_82 7 rfl ?_
      obtain ⟨q12, hq12, hz⟩ := obind hz
      refine AX.callVw (r := l1) (As := [.int q9]) (rest := [.int q11, .ref (G.2.2.1 24)]) (w := some (.int q12)) (st' := [.int q12, .int q11, .ref (G.2.2.1 24)]) dX8_walk_84 mlRX8_59 ylX3_doubledOf yvX3_doubledOf (isO_tw hr1) rfl rfl (Nat.le_of_ble_eq_true rfl) ⟨Nat.le_of_ble_eq_true rfl, Nat.le_of_ble_eq_true rfl⟩ (xX3_doubledOf l1 q9 σ hq12) rfl ?_
      refine AX.iload dX8_walk_87 5 rfl ?_
      obtain ⟨q13, hq13, hz⟩ := obind hz
      refine AX.callVw (r := 24) (As := [.int q11, .int q12, .int q10]) (rest := []) (w := none) (st' := []) dX8_walk_89 mlRX8_62 ylX8_drift yvX8_drift rfl rfl rfl (Nat.le_of_ble_eq_true rfl) ⟨Nat.le_of_ble_eq_true rfl, Nat.le_of_ble_eq_true rfl⟩ (xX8_drift q11 q12 q10 σ hq13) rfl ?_
      refine AX.goto (tgt := 131) dX8_walk_92 rfl ?_
      exact AX.sub (ls' := [(0, .ref (G.2.2.1 24)), (1, .ref (G.2.2.1 l1)), (2, .int l2), (3, .int l3), (4, .int l4), (5, .int q10), (6, .int l6)]) [0, 1, 2, 3, 4, 5, 6] rfl (wfX8_walk_j131 l1 l2 l3 l4 q10 l6 q13 hz K hback hk)
noncomputable def fX8_walk (p0 : Nat) (p1 : Int32) (p2 : Int32) (p3 : Int32) (σ : St) : Option (St) :=
  if isO p0 = true then (fJ7_fill_d0a16 25 (0 : Int64) σ).bind fun q1 => (fJ7_fill_d0a16 26 (0 : Int64) q1).bind fun q2 => (fX10_addTo 25 (10 : Int32) (4503599627370496 : Int64) q2).bind fun q3 => (lpc (fun s => fX8_walk_b34 p0 p1 p2 p3 s.1 s.2.1 s.2.2) (0, 0, q3)).bind fun r4 => some r4 else none
theorem wfX8_walk {G : ag_G} (p0 : Nat) (p1 : Int32) (p2 : Int32) (p3 : Int32) (σ : St) {z : St} (hz : fX8_walk p0 p1 p2 p3 σ = some z) {Q : Option Value → St → Prop} (hk : Q (none) z) : AX G mX8_walk 2 51 0 [(0, .ref (G.2.2.1 24)), (1, .ref (G.2.2.1 p0)), (2, .int p1), (3, .int p2), (4, .int p3)] [] σ Q := by
  unfold fX8_walk at hz
  obtain ⟨ho0, hz⟩ := ite_n hz
  refine AX.aload_n dX8_walk_0 0 rfl rfl ?_
  refine AX.getR dX8_walk_1 flRX8_9 rfl rfl ?_
  refine AX.lconst dX8_walk_4 lc_0 ?_
  obtain ⟨q1, hq1, hz⟩ := obind hz
  refine AX.callSw (As := [.ref (G.2.2.1 25), .long 0]) (rest := []) (w := none) (st' := []) dX8_walk_5 mlRX8_26 ylJ7_fill_d0a16 ysJ7_fill_d0a16 rfl rfl (Nat.le_of_ble_eq_true rfl) ⟨Nat.le_of_ble_eq_true rfl, Nat.le_of_ble_eq_true rfl⟩ (xJ7_fill_d0a16 25 (0 : Int64) σ hq1) rfl ?_
  refine AX.aload_n dX8_walk_8 0 rfl rfl ?_
  refine AX.getR dX8_walk_9 flRX8_15 rfl rfl ?_
  refine AX.lconst dX8_walk_12 lc_0 ?_
  obtain ⟨q2, hq2, hz⟩ := obind hz
  refine AX.callSw (As := [.ref (G.2.2.1 26), .long 0]) (rest := []) (w := none) (st' := []) dX8_walk_13 mlRX8_26 ylJ7_fill_d0a16 ysJ7_fill_d0a16 rfl rfl (Nat.le_of_ble_eq_true rfl) ⟨Nat.le_of_ble_eq_true rfl, Nat.le_of_ble_eq_true rfl⟩ (xJ7_fill_d0a16 26 (0 : Int64) q1 hq2) rfl ?_
  refine AX.aload_n dX8_walk_16 0 rfl rfl ?_
  refine AX.getR dX8_walk_17 flRX8_9 rfl rfl ?_
  refine AX.bipush dX8_walk_20 bp_10 ?_
  refine AX.ldc2 dX8_walk_22 kcRX8_32 ?_
  obtain ⟨q3, hq3, hz⟩ := obind hz
  refine AX.callSw (As := [.ref (G.2.2.1 25), .int 10, .long 4503599627370496]) (rest := []) (w := none) (st' := []) dX8_walk_25 mlRX8_34 ylX10_addTo ysX10_addTo rfl rfl (Nat.le_of_ble_eq_true rfl) ⟨Nat.le_of_ble_eq_true rfl, Nat.le_of_ble_eq_true rfl⟩ (xX10_addTo 25 (10 : Int32) (4503599627370496 : Int64) q2 hq3) rfl ?_
  refine AX.iconst dX8_walk_28 ic_0 ?_
  refine AX.istore (ls' := [(0, .ref (G.2.2.1 24)), (1, .ref (G.2.2.1 p0)), (2, .int p1), (3, .int p2), (4, .int p3), (5, .int 0)]) dX8_walk_29 (Nat.le_of_ble_eq_true rfl) rfl ?_
  refine AX.iconst dX8_walk_31 ic_0 ?_
  refine AX.istore (ls' := [(0, .ref (G.2.2.1 24)), (1, .ref (G.2.2.1 p0)), (2, .int p1), (3, .int p2), (4, .int p3), (5, .int 0), (6, .int 0)]) dX8_walk_32 (Nat.le_of_ble_eq_true rfl) rfl ?_
  obtain ⟨r4, hr4, hz⟩ := obind hz
  refine AX.sub (ls' := [(0, .ref (G.2.2.1 24)), (1, .ref (G.2.2.1 p0)), (2, .int p1), (3, .int p2), (4, .int p3), (5, .int 0), (6, .int 0)]) [0, 1, 2, 3, 4, 5, 6] rfl ?_
  refine lpc_ind (s := (0, 0, q3)) (r := r4) (fun s => AX G mX8_walk 2 51 34 [(0, .ref (G.2.2.1 24)), (1, .ref (G.2.2.1 p0)), (2, .int p1), (3, .int p2), (4, .int p3), (5, .int s.1), (6, .int s.2.1)] [] s.2.2 Q) (fun a : St => AX G mX8_walk 2 51 137 [] [] a Q) hr4 (fun s z hb hK => wfX8_walk_b34 p0 p1 p2 p3 s.1 s.2.1 s.2.2 hb (Sum.elim (fun s => AX G mX8_walk 2 51 34 [(0, .ref (G.2.2.1 24)), (1, .ref (G.2.2.1 p0)), (2, .int p1), (3, .int p2), (4, .int p3), (5, .int s.1), (6, .int s.2.1)] [] s.2.2 Q) (fun a : St => AX G mX8_walk 2 51 137 [] [] a Q)) (fun _ h9 => h9) (fun _ h9 => h9) hK) ?_
  exact AX.vreturn dX8_walk_137 rfl (kz (P := fun z => Q (none) z) hz hk)
theorem xX8_walk {G : ag_G} (p0 : Nat) (p1 : Int32) (p2 : Int32) (p3 : Int32) (σ : St) {z : St} (hz : fX8_walk p0 p1 p2 p3 σ = some z) : AC G yX8_walk mX8_walk 2 51 [.ref (G.2.2.1 24), .ref (G.2.2.1 p0), .int p1, .int p2, .int p3] σ (fun v σ1 => v = none ∧ σ1 = z) := AC.of (plainFor_of_name (by decide)) rfl (Nat.le_of_ble_eq_true rfl) (wfX8_walk p0 p1 p2 p3 σ hz ⟨rfl, rfl⟩)
noncomputable def fX9_ofAll (p0 : Int32) (σ : St) : Option (Int64) :=
  (fX10_longAt 21 p0 σ).bind fun q1 => some q1
theorem wfX9_ofAll {G : ag_G} (p0 : Int32) (σ : St) {z : Int64} (hz : fX9_ofAll p0 σ = some z) {Q : Option Value → St → Prop} (hk : Q (some (.long z)) σ) : AX G mX9_ofAll 1 21 0 [(0, .ref (G.2.2.1 19)), (1, .int p0)] [] σ Q := by
  unfold fX9_ofAll at hz
  refine AX.aload_n dX9_ofAll_0 0 rfl rfl ?_
  refine AX.getR dX9_ofAll_1 flRX9_15 rfl rfl ?_
  refine AX.iload_n dX9_ofAll_4 1 rfl rfl ?_
  obtain ⟨q1, hq1, hz⟩ := obind hz
  refine AX.callSw (As := [.ref (G.2.2.1 21), .int p0]) (rest := []) (w := some (.long q1)) (st' := [.long q1]) dX9_ofAll_5 mlRX9_40 ylX10_longAt ysX10_longAt rfl rfl (Nat.le_of_ble_eq_true rfl) ⟨Nat.le_of_ble_eq_true rfl, Nat.le_of_ble_eq_true rfl⟩ (xX10_longAt 21 p0 σ hq1) rfl ?_
  exact AX.lreturn dX9_ofAll_8 rfl (kz (P := fun z => Q (some (.long z)) σ) hz hk)
theorem xX9_ofAll {G : ag_G} (p0 : Int32) (σ : St) {z : Int64} (hz : fX9_ofAll p0 σ = some z) : AC G yX9_ofAll mX9_ofAll 1 21 [.ref (G.2.2.1 19), .int p0] σ (fun v σ1 => v = some (.long z) ∧ σ1 = σ) := AC.of (plainFor_of_name (by decide)) rfl (Nat.le_of_ble_eq_true rfl) (wfX9_ofAll p0 σ hz ⟨rfl, rfl⟩)
noncomputable def fX9_saidIn_j46  (σ : St) : Option (Int64) :=
  some (0 : Int64)
theorem wfX9_saidIn_j46 {G : ag_G}  (σ : St) {z : Int64} (hz : fX9_saidIn_j46  σ = some z) {Q : Option Value → St → Prop} (hk : Q (some (.long z)) σ) : AX G mX9_saidIn 1 22 46 [] [] σ Q := by
  unfold fX9_saidIn_j46 at hz
  refine AX.lconst dX9_saidIn_46 lc_0 ?_
  exact AX.lreturn dX9_saidIn_47 rfl (kz (P := fun z => Q (some (.long z)) σ) hz hk)
noncomputable def fX9_saidIn (p0 : Int32) (p1 : Int32) (σ : St) : Option (Int64) :=
  ltb (((p0 - (1 : Int32)) - p1) + (10 : Int32)) fun x1 => (fX4_hasBar p1 σ).bind fun q2 => if q2 = (0 : Int32) then fX9_saidIn_j46  σ else (fX10_within x1 (0 : Int32) (20 : Int32)).bind fun q4 => if q4 = (0 : Int32) then fX9_saidIn_j46  σ else (fX10_longAt 20 ((p1 * (21 : Int32)) + x1) σ).bind fun q6 => some q6
theorem wfX9_saidIn {G : ag_G} (p0 : Int32) (p1 : Int32) (σ : St) {z : Int64} (hz : fX9_saidIn p0 p1 σ = some z) {Q : Option Value → St → Prop} (hk : Q (some (.long z)) σ) : AX G mX9_saidIn 1 22 0 [(0, .ref (G.2.2.1 19)), (1, .int p0), (2, .int p1)] [] σ Q := by
  unfold fX9_saidIn at hz
  refine AX.iload_n dX9_saidIn_0 1 rfl rfl ?_
  refine AX.iconst dX9_saidIn_1 ic_1 ?_
  refine AX.isub dX9_saidIn_2 ?_
  refine AX.iload_n dX9_saidIn_3 2 rfl rfl ?_
  refine AX.isub dX9_saidIn_4 ?_
  refine AX.bipush dX9_saidIn_5 bp_10 ?_
  refine AX.iadd dX9_saidIn_7 ?_
  obtain ⟨x1, hx1, hz⟩ := ltb_e hz
  refine AX.topI hx1 ?_
  refine AX.istore_n (ls' := [(0, .ref (G.2.2.1 19)), (1, .int p0), (2, .int p1), (3, .int x1)]) dX9_saidIn_8 rfl (Nat.le_of_ble_eq_true rfl) rfl ?_
  refine AX.aload_n dX9_saidIn_9 0 rfl rfl ?_
  refine AX.getR dX9_saidIn_10 flRX9_24 rfl rfl ?_
  refine AX.iload_n dX9_saidIn_13 2 rfl rfl ?_
  obtain ⟨q2, hq2, hz⟩ := obind hz
  refine AX.callVw (r := 1) (As := [.int p1]) (rest := []) (w := some (.int q2)) (st' := [.int q2]) dX9_saidIn_14 mlRX9_44 ylX4_hasBar yvX4_hasBar rfl rfl rfl (Nat.le_of_ble_eq_true rfl) ⟨Nat.le_of_ble_eq_true rfl, Nat.le_of_ble_eq_true rfl⟩ (xX4_hasBar p1 σ hq2) rfl ?_
  refine AX.if_eq (tgt := 46) dX9_saidIn_17 rfl (fun c3 => ?_) (fun c3 => ?_)
  · replace hz := (if_pos c3).symm.trans hz
    exact AX.sub (ls' := []) [] rfl (wfX9_saidIn_j46  σ hz hk)
  · replace hz := (if_neg c3).symm.trans hz
    refine AX.iload_n dX9_saidIn_20 3 rfl rfl ?_
    refine AX.iconst dX9_saidIn_21 ic_0 ?_
    refine AX.bipush dX9_saidIn_22 bp_20 ?_
    obtain ⟨q4, hq4, hz⟩ := obind hz
    refine AX.callSw (As := [.int x1, .int 0, .int 20]) (rest := []) (w := some (.int q4)) (st' := [.int q4]) dX9_saidIn_24 mlRX9_50 ylX10_within ysX10_within rfl rfl (Nat.le_of_ble_eq_true rfl) ⟨Nat.le_of_ble_eq_true rfl, Nat.le_of_ble_eq_true rfl⟩ (xX10_within x1 (0 : Int32) (20 : Int32) σ hq4) rfl ?_
    refine AX.if_eq (tgt := 46) dX9_saidIn_27 rfl (fun c5 => ?_) (fun c5 => ?_)
    · replace hz := (if_pos c5).symm.trans hz
      exact AX.sub (ls' := []) [] rfl (wfX9_saidIn_j46  σ hz hk)
    · replace hz := (if_neg c5).symm.trans hz
      refine AX.aload_n dX9_saidIn_30 0 rfl rfl ?_
      refine AX.getR dX9_saidIn_31 flRX9_9 rfl rfl ?_
      refine AX.iload_n dX9_saidIn_34 2 rfl rfl ?_
      refine AX.bipush dX9_saidIn_35 bp_21 ?_
      refine AX.imul dX9_saidIn_37 ?_
      refine AX.iload_n dX9_saidIn_38 3 rfl rfl ?_
      refine AX.iadd dX9_saidIn_39 ?_
      obtain ⟨q6, hq6, hz⟩ := obind hz
      refine AX.callSw (As := [.ref (G.2.2.1 20), .int ((p1 * (21 : Int32)) + x1)]) (rest := []) (w := some (.long q6)) (st' := [.long q6]) dX9_saidIn_40 mlRX9_40 ylX10_longAt ysX10_longAt rfl rfl (Nat.le_of_ble_eq_true rfl) ⟨Nat.le_of_ble_eq_true rfl, Nat.le_of_ble_eq_true rfl⟩ (xX10_longAt 20 ((p1 * (21 : Int32)) + x1) σ hq6) rfl ?_
      refine AX.goto (tgt := 47) dX9_saidIn_43 rfl ?_
      exact AX.lreturn dX9_saidIn_47 rfl (kz (P := fun z => Q (some (.long z)) σ) hz hk)
theorem xX9_saidIn {G : ag_G} (p0 : Int32) (p1 : Int32) (σ : St) {z : Int64} (hz : fX9_saidIn p0 p1 σ = some z) : AC G yX9_saidIn mX9_saidIn 1 22 [.ref (G.2.2.1 19), .int p0, .int p1] σ (fun v σ1 => v = some (.long z) ∧ σ1 = σ) := AC.of (plainFor_of_name (by decide)) rfl (Nat.le_of_ble_eq_true rfl) (wfX9_saidIn p0 p1 σ hz ⟨rfl, rfl⟩)
noncomputable def fX9_addSaid (p0 : Int32) (p1 : Int32) (p2 : Int64) (σ : St) : Option (St) :=
  (fX10_within p1 (0 : Int32) (20 : Int32)).bind fun q1 => if q1 = (0 : Int32) then some σ else (fX10_addTo 20 ((p0 * (21 : Int32)) + p1) p2 σ).bind fun q3 => (fX10_addTo 21 (((p0 + p1) - (10 : Int32)) + (1 : Int32)) p2 q3).bind fun q4 => some q4
theorem wfX9_addSaid {G : ag_G} (p0 : Int32) (p1 : Int32) (p2 : Int64) (σ : St) {z : St} (hz : fX9_addSaid p0 p1 p2 σ = some z) {Q : Option Value → St → Prop} (hk : Q (none) z) : AX G mX9_addSaid 1 23 0 [(0, .ref (G.2.2.1 19)), (1, .int p0), (2, .int p1), (3, .long p2)] [] σ Q := by
  unfold fX9_addSaid at hz
  refine AX.iload_n dX9_addSaid_0 2 rfl rfl ?_
  refine AX.iconst dX9_addSaid_1 ic_0 ?_
  refine AX.bipush dX9_addSaid_2 bp_20 ?_
  obtain ⟨q1, hq1, hz⟩ := obind hz
  refine AX.callSw (As := [.int p1, .int 0, .int 20]) (rest := []) (w := some (.int q1)) (st' := [.int q1]) dX9_addSaid_4 mlRX9_50 ylX10_within ysX10_within rfl rfl (Nat.le_of_ble_eq_true rfl) ⟨Nat.le_of_ble_eq_true rfl, Nat.le_of_ble_eq_true rfl⟩ (xX10_within p1 (0 : Int32) (20 : Int32) σ hq1) rfl ?_
  refine AX.if_eq (tgt := 40) dX9_addSaid_7 rfl (fun c2 => ?_) (fun c2 => ?_)
  · replace hz := (if_pos c2).symm.trans hz
    exact AX.vreturn dX9_addSaid_40 rfl (kz (P := fun z => Q (none) z) hz hk)
  · replace hz := (if_neg c2).symm.trans hz
    refine AX.aload_n dX9_addSaid_10 0 rfl rfl ?_
    refine AX.getR dX9_addSaid_11 flRX9_9 rfl rfl ?_
    refine AX.iload_n dX9_addSaid_14 1 rfl rfl ?_
    refine AX.bipush dX9_addSaid_15 bp_21 ?_
    refine AX.imul dX9_addSaid_17 ?_
    refine AX.iload_n dX9_addSaid_18 2 rfl rfl ?_
    refine AX.iadd dX9_addSaid_19 ?_
    refine AX.lload_n dX9_addSaid_20 3 rfl rfl ?_
    obtain ⟨q3, hq3, hz⟩ := obind hz
    refine AX.callSw (As := [.ref (G.2.2.1 20), .int ((p0 * (21 : Int32)) + p1), .long p2]) (rest := []) (w := none) (st' := []) dX9_addSaid_21 mlRX9_62 ylX10_addTo ysX10_addTo rfl rfl (Nat.le_of_ble_eq_true rfl) ⟨Nat.le_of_ble_eq_true rfl, Nat.le_of_ble_eq_true rfl⟩ (xX10_addTo 20 ((p0 * (21 : Int32)) + p1) p2 σ hq3) rfl ?_
    refine AX.aload_n dX9_addSaid_24 0 rfl rfl ?_
    refine AX.getR dX9_addSaid_25 flRX9_15 rfl rfl ?_
    refine AX.iload_n dX9_addSaid_28 1 rfl rfl ?_
    refine AX.iload_n dX9_addSaid_29 2 rfl rfl ?_
    refine AX.iadd dX9_addSaid_30 ?_
    refine AX.bipush dX9_addSaid_31 bp_10 ?_
    refine AX.isub dX9_addSaid_33 ?_
    refine AX.iconst dX9_addSaid_34 ic_1 ?_
    refine AX.iadd dX9_addSaid_35 ?_
    refine AX.lload_n dX9_addSaid_36 3 rfl rfl ?_
    obtain ⟨q4, hq4, hz⟩ := obind hz
    refine AX.callSw (As := [.ref (G.2.2.1 21), .int (((p0 + p1) - (10 : Int32)) + (1 : Int32)), .long p2]) (rest := []) (w := none) (st' := []) dX9_addSaid_37 mlRX9_62 ylX10_addTo ysX10_addTo rfl rfl (Nat.le_of_ble_eq_true rfl) ⟨Nat.le_of_ble_eq_true rfl, Nat.le_of_ble_eq_true rfl⟩ (xX10_addTo 21 (((p0 + p1) - (10 : Int32)) + (1 : Int32)) p2 q3 hq4) rfl ?_
    exact AX.vreturn dX9_addSaid_40 rfl (kz (P := fun z => Q (none) z) hz hk)
theorem xX9_addSaid {G : ag_G} (p0 : Int32) (p1 : Int32) (p2 : Int64) (σ : St) {z : St} (hz : fX9_addSaid p0 p1 p2 σ = some z) : AC G yX9_addSaid mX9_addSaid 1 23 [.ref (G.2.2.1 19), .int p0, .int p1, .long p2] σ (fun v σ1 => v = none ∧ σ1 = z) := AC.of (plainFor_of_name (by decide)) rfl (Nat.le_of_ble_eq_true rfl) (wfX9_addSaid p0 p1 p2 σ hz ⟨rfl, rfl⟩)
noncomputable def fX9_pass (p0 : Int32) (p1 : Int32) (σ : St) : Option (St) :=
  (fX4_tuneOf p0 σ).bind fun q1 => ltb (((p0 + p1) - (10 : Int32)) + (1 : Int32)) fun x2 => (fX10_longAt 22 p1 σ).bind fun q3 => (fX2_weigh x2 p0 q1 σ).bind fun q4 => (fX4_isLoose p0 σ).bind fun q5 => if q5 = (0 : Int32) then (fX10_addTo 23 p1 (q3 * q4) σ).bind fun q20 => (fX9_addSaid p0 p1 (q3 * q4) q20).bind fun q21 => some q21 else (fX4_kindOf p0 σ).bind fun q7 => (fX3_missedOf 9 q7 σ).bind fun q8 => (fX3_doubledOf 9 q7 σ).bind fun q9 => ltb (q3 / (16 : Int64)) fun x10 => ltb ((x10 * ((((16 : Int32) - q8) - q9).toInt64)) * q4) fun x11 => ltb ((x10 * q9.toInt64) * q4) fun x12 => (fX2_weigh (x2 + (1 : Int32)) p0 q1 σ).bind fun q13 => ltb (x12 * q13) fun x14 => (fX10_addTo 23 (p1 - (1 : Int32)) (x10 * q8.toInt64) σ).bind fun q15 => (fX10_addTo 23 p1 x11 q15).bind fun q16 => (fX10_addTo 23 (p1 + (1 : Int32)) x14 q16).bind fun q17 => (fX9_addSaid p0 p1 (x11 + x12) q17).bind fun q18 => (fX9_addSaid p0 (p1 + (1 : Int32)) x14 q18).bind fun q19 => some q19
theorem wfX9_pass {G : ag_G} (p0 : Int32) (p1 : Int32) (σ : St) {z : St} (hz : fX9_pass p0 p1 σ = some z) {Q : Option Value → St → Prop} (hk : Q (none) z) : AX G mX9_pass 2 49 0 [(0, .ref (G.2.2.1 19)), (1, .int p0), (2, .int p1)] [] σ Q := by
  unfold fX9_pass at hz
  refine AX.aload_n dX9_pass_0 0 rfl rfl ?_
  refine AX.getR dX9_pass_1 flRX9_24 rfl rfl ?_
  refine AX.iload_n dX9_pass_4 1 rfl rfl ?_
  obtain ⟨q1, hq1, hz⟩ := obind hz
  refine AX.callVw (r := 1) (As := [.int p0]) (rest := []) (w := some (.int q1)) (st' := [.int q1]) dX9_pass_5 mlRX9_89 ylX4_tuneOf yvX4_tuneOf rfl rfl rfl (Nat.le_of_ble_eq_true rfl) ⟨Nat.le_of_ble_eq_true rfl, Nat.le_of_ble_eq_true rfl⟩ (xX4_tuneOf p0 σ hq1) rfl ?_
  refine AX.istore_n (ls' := [(0, .ref (G.2.2.1 19)), (1, .int p0), (2, .int p1), (3, .int q1)]) dX9_pass_8 rfl (Nat.le_of_ble_eq_true rfl) rfl ?_
  refine AX.iload_n dX9_pass_9 1 rfl rfl ?_
  refine AX.iload_n dX9_pass_10 2 rfl rfl ?_
  refine AX.iadd dX9_pass_11 ?_
  refine AX.bipush dX9_pass_12 bp_10 ?_
  refine AX.isub dX9_pass_14 ?_
  refine AX.iconst dX9_pass_15 ic_1 ?_
  refine AX.iadd dX9_pass_16 ?_
  obtain ⟨x2, hx2, hz⟩ := ltb_e hz
  refine AX.topI hx2 ?_
  refine AX.istore (ls' := [(0, .ref (G.2.2.1 19)), (1, .int p0), (2, .int p1), (3, .int q1), (4, .int x2)]) dX9_pass_17 (Nat.le_of_ble_eq_true rfl) rfl ?_
  refine AX.aload_n dX9_pass_19 0 rfl rfl ?_
  refine AX.getR dX9_pass_20 flRX9_18 rfl rfl ?_
  refine AX.iload_n dX9_pass_23 2 rfl rfl ?_
  obtain ⟨q3, hq3, hz⟩ := obind hz
  refine AX.callSw (As := [.ref (G.2.2.1 22), .int p1]) (rest := []) (w := some (.long q3)) (st' := [.long q3]) dX9_pass_24 mlRX9_40 ylX10_longAt ysX10_longAt rfl rfl (Nat.le_of_ble_eq_true rfl) ⟨Nat.le_of_ble_eq_true rfl, Nat.le_of_ble_eq_true rfl⟩ (xX10_longAt 22 p1 σ hq3) rfl ?_
  refine AX.lstore (ls' := [(0, .ref (G.2.2.1 19)), (1, .int p0), (2, .int p1), (3, .int q1), (4, .int x2), (5, .long q3)]) dX9_pass_27 (Nat.le_of_ble_eq_true rfl) rfl ?_
  refine AX.aload_n dX9_pass_29 0 rfl rfl ?_
  refine AX.getR dX9_pass_30 flRX9_32 rfl rfl ?_
  refine AX.iload dX9_pass_33 4 rfl ?_
  refine AX.iload_n dX9_pass_35 1 rfl rfl ?_
  refine AX.iload_n dX9_pass_36 3 rfl rfl ?_
  refine AX.aload_n dX9_pass_37 0 rfl rfl ?_
  refine AX.getR dX9_pass_38 flRX9_36 rfl rfl ?_
  obtain ⟨q4, hq4, hz⟩ := obind hz
  refine AX.callVw (r := 15) (As := [.int x2, .int p0, .int q1, .ref (G.2.2.1 7)]) (rest := []) (w := some (.long q4)) (st' := [.long q4]) dX9_pass_41 mlRX9_93 ylX2_weigh yvX2_weigh rfl rfl rfl (Nat.le_of_ble_eq_true rfl) ⟨Nat.le_of_ble_eq_true rfl, Nat.le_of_ble_eq_true rfl⟩ (xX2_weigh x2 p0 q1 σ hq4) rfl ?_
  refine AX.lstore (ls' := [(0, .ref (G.2.2.1 19)), (1, .int p0), (2, .int p1), (3, .int q1), (4, .int x2), (5, .long q3), (7, .long q4)]) dX9_pass_44 (Nat.le_of_ble_eq_true rfl) rfl ?_
  refine AX.aload_n dX9_pass_46 0 rfl rfl ?_
  refine AX.getR dX9_pass_47 flRX9_24 rfl rfl ?_
  refine AX.iload_n dX9_pass_50 1 rfl rfl ?_
  obtain ⟨q5, hq5, hz⟩ := obind hz
  refine AX.callVw (r := 1) (As := [.int p0]) (rest := []) (w := some (.int q5)) (st' := [.int q5]) dX9_pass_51 mlRX9_80 ylX4_isLoose yvX4_isLoose rfl rfl rfl (Nat.le_of_ble_eq_true rfl) ⟨Nat.le_of_ble_eq_true rfl, Nat.le_of_ble_eq_true rfl⟩ (xX4_isLoose p0 σ hq5) rfl ?_
  refine AX.if_ne (tgt := 82) dX9_pass_54 rfl (fun c6 => ?_) (fun c6 => ?_)
  · replace hz := (if_neg c6).symm.trans hz
    refine AX.aload_n dX9_pass_82 0 rfl rfl ?_
    refine AX.getR dX9_pass_83 flRX9_24 rfl rfl ?_
    refine AX.iload_n dX9_pass_86 1 rfl rfl ?_
    obtain ⟨q7, hq7, hz⟩ := obind hz
    refine AX.callVw (r := 1) (As := [.int p0]) (rest := []) (w := some (.int q7)) (st' := [.int q7]) dX9_pass_87 mlRX9_103 ylX4_kindOf yvX4_kindOf rfl rfl rfl (Nat.le_of_ble_eq_true rfl) ⟨Nat.le_of_ble_eq_true rfl, Nat.le_of_ble_eq_true rfl⟩ (xX4_kindOf p0 σ hq7) rfl ?_
    refine AX.istore (ls' := [(0, .ref (G.2.2.1 19)), (1, .int p0), (2, .int p1), (3, .int q1), (4, .int x2), (5, .long q3), (7, .long q4), (9, .int q7)]) dX9_pass_90 (Nat.le_of_ble_eq_true rfl) rfl ?_
    refine AX.aload_n dX9_pass_92 0 rfl rfl ?_
    refine AX.getR dX9_pass_93 flRX9_28 rfl rfl ?_
    refine AX.iload dX9_pass_96 7 rfl ?_
    obtain ⟨q8, hq8, hz⟩ := obind hz
    refine AX.callVw (r := 9) (As := [.int q7]) (rest := []) (w := some (.int q8)) (st' := [.int q8]) dX9_pass_98 mlRX9_106 ylX3_missedOf yvX3_missedOf rfl rfl rfl (Nat.le_of_ble_eq_true rfl) ⟨Nat.le_of_ble_eq_true rfl, Nat.le_of_ble_eq_true rfl⟩ (xX3_missedOf 9 q7 σ hq8) rfl ?_
    refine AX.istore (ls' := [(0, .ref (G.2.2.1 19)), (1, .int p0), (2, .int p1), (3, .int q1), (4, .int x2), (5, .long q3), (7, .long q4), (9, .int q7), (10, .int q8)]) dX9_pass_101 (Nat.le_of_ble_eq_true rfl) rfl ?_
    refine AX.aload_n dX9_pass_103 0 rfl rfl ?_
    refine AX.getR dX9_pass_104 flRX9_28 rfl rfl ?_
    refine AX.iload dX9_pass_107 7 rfl ?_
    obtain ⟨q9, hq9, hz⟩ := obind hz
    refine AX.callVw (r := 9) (As := [.int q7]) (rest := []) (w := some (.int q9)) (st' := [.int q9]) dX9_pass_109 mlRX9_111 ylX3_doubledOf yvX3_doubledOf rfl rfl rfl (Nat.le_of_ble_eq_true rfl) ⟨Nat.le_of_ble_eq_true rfl, Nat.le_of_ble_eq_true rfl⟩ (xX3_doubledOf 9 q7 σ hq9) rfl ?_
    refine AX.istore (ls' := [(0, .ref (G.2.2.1 19)), (1, .int p0), (2, .int p1), (3, .int q1), (4, .int x2), (5, .long q3), (7, .long q4), (9, .int q7), (10, .int q8), (11, .int q9)]) dX9_pass_112 (Nat.le_of_ble_eq_true rfl) rfl ?_
    refine AX.lload dX9_pass_114 5 rfl ?_
    refine AX.ldc2 dX9_pass_116 kcRX9_114 ?_
    refine AX.ldiv dX9_pass_119 (by decide) ?_
    obtain ⟨x10, hx10, hz⟩ := ltb_e hz
    refine AX.topL hx10 ?_
    refine AX.lstore (ls' := [(0, .ref (G.2.2.1 19)), (1, .int p0), (2, .int p1), (3, .int q1), (4, .int x2), (5, .long q3), (7, .long q4), (9, .int q7), (10, .int q8), (11, .int q9), (12, .long x10)]) dX9_pass_120 (Nat.le_of_ble_eq_true rfl) rfl ?_
    refine AX.lload dX9_pass_122 10 rfl ?_
    refine AX.bipush dX9_pass_124 bp_16 ?_
    refine AX.iload dX9_pass_126 8 rfl ?_
    refine AX.isub dX9_pass_128 ?_
    refine AX.iload dX9_pass_129 9 rfl ?_
    refine AX.isub dX9_pass_131 ?_
    refine AX.i2l dX9_pass_132 ?_
    refine AX.lmul dX9_pass_133 ?_
    refine AX.lload dX9_pass_134 6 rfl ?_
    refine AX.lmul dX9_pass_136 ?_
    obtain ⟨x11, hx11, hz⟩ := ltb_e hz
    refine AX.topL hx11 ?_
    refine AX.lstore (ls' := [(0, .ref (G.2.2.1 19)), (1, .int p0), (2, .int p1), (3, .int q1), (4, .int x2), (5, .long q3), (7, .long q4), (9, .int q7), (10, .int q8), (11, .int q9), (12, .long x10), (14, .long x11)]) dX9_pass_137 (Nat.le_of_ble_eq_true rfl) rfl ?_
    refine AX.lload dX9_pass_139 10 rfl ?_
    refine AX.iload dX9_pass_141 9 rfl ?_
    refine AX.i2l dX9_pass_143 ?_
    refine AX.lmul dX9_pass_144 ?_
    refine AX.lload dX9_pass_145 6 rfl ?_
    refine AX.lmul dX9_pass_147 ?_
    obtain ⟨x12, hx12, hz⟩ := ltb_e hz
    refine AX.topL hx12 ?_
    refine AX.lstore (ls' := [(0, .ref (G.2.2.1 19)), (1, .int p0), (2, .int p1), (3, .int q1), (4, .int x2), (5, .long q3), (7, .long q4), (9, .int q7), (10, .int q8), (11, .int q9), (12, .long x10), (14, .long x11), (16, .long x12)]) dX9_pass_148 (Nat.le_of_ble_eq_true rfl) rfl ?_
    refine AX.lload dX9_pass_150 12 rfl ?_
    refine AX.aload_n dX9_pass_152 0 rfl rfl ?_
    refine AX.getR dX9_pass_153 flRX9_32 rfl rfl ?_
    refine AX.iload dX9_pass_156 4 rfl ?_
    refine AX.iconst dX9_pass_158 ic_1 ?_
    refine AX.iadd dX9_pass_159 ?_
    refine AX.iload_n dX9_pass_160 1 rfl rfl ?_
    refine AX.iload_n dX9_pass_161 3 rfl rfl ?_
    refine AX.aload_n dX9_pass_162 0 rfl rfl ?_
    refine AX.getR dX9_pass_163 flRX9_36 rfl rfl ?_
    obtain ⟨q13, hq13, hz⟩ := obind hz
    refine AX.callVw (r := 15) (As := [.int (x2 + (1 : Int32)), .int p0, .int q1, .ref (G.2.2.1 7)]) (rest := [.long x12]) (w := some (.long q13)) (st' := [.long q13, .long x12]) dX9_pass_166 mlRX9_93 ylX2_weigh yvX2_weigh rfl rfl rfl (Nat.le_of_ble_eq_true rfl) ⟨Nat.le_of_ble_eq_true rfl, Nat.le_of_ble_eq_true rfl⟩ (xX2_weigh (x2 + (1 : Int32)) p0 q1 σ hq13) rfl ?_
    refine AX.lmul dX9_pass_169 ?_
    obtain ⟨x14, hx14, hz⟩ := ltb_e hz
    refine AX.topL hx14 ?_
    refine AX.lstore (ls' := [(0, .ref (G.2.2.1 19)), (1, .int p0), (2, .int p1), (3, .int q1), (4, .int x2), (5, .long q3), (7, .long q4), (9, .int q7), (10, .int q8), (11, .int q9), (12, .long x10), (14, .long x11), (16, .long x12), (18, .long x14)]) dX9_pass_170 (Nat.le_of_ble_eq_true rfl) rfl ?_
    refine AX.aload_n dX9_pass_172 0 rfl rfl ?_
    refine AX.getR dX9_pass_173 flRX9_21 rfl rfl ?_
    refine AX.iload_n dX9_pass_176 2 rfl rfl ?_
    refine AX.iconst dX9_pass_177 ic_1 ?_
    refine AX.isub dX9_pass_178 ?_
    refine AX.lload dX9_pass_179 10 rfl ?_
    refine AX.iload dX9_pass_181 8 rfl ?_
    refine AX.i2l dX9_pass_183 ?_
    refine AX.lmul dX9_pass_184 ?_
    obtain ⟨q15, hq15, hz⟩ := obind hz
    refine AX.callSw (As := [.ref (G.2.2.1 23), .int (p1 - (1 : Int32)), .long (x10 * q8.toInt64)]) (rest := []) (w := none) (st' := []) dX9_pass_185 mlRX9_62 ylX10_addTo ysX10_addTo rfl rfl (Nat.le_of_ble_eq_true rfl) ⟨Nat.le_of_ble_eq_true rfl, Nat.le_of_ble_eq_true rfl⟩ (xX10_addTo 23 (p1 - (1 : Int32)) (x10 * q8.toInt64) σ hq15) rfl ?_
    refine AX.aload_n dX9_pass_188 0 rfl rfl ?_
    refine AX.getR dX9_pass_189 flRX9_21 rfl rfl ?_
    refine AX.iload_n dX9_pass_192 2 rfl rfl ?_
    refine AX.lload dX9_pass_193 11 rfl ?_
    obtain ⟨q16, hq16, hz⟩ := obind hz
    refine AX.callSw (As := [.ref (G.2.2.1 23), .int p1, .long x11]) (rest := []) (w := none) (st' := []) dX9_pass_195 mlRX9_62 ylX10_addTo ysX10_addTo rfl rfl (Nat.le_of_ble_eq_true rfl) ⟨Nat.le_of_ble_eq_true rfl, Nat.le_of_ble_eq_true rfl⟩ (xX10_addTo 23 p1 x11 q15 hq16) rfl ?_
    refine AX.aload_n dX9_pass_198 0 rfl rfl ?_
    refine AX.getR dX9_pass_199 flRX9_21 rfl rfl ?_
    refine AX.iload_n dX9_pass_202 2 rfl rfl ?_
    refine AX.iconst dX9_pass_203 ic_1 ?_
    refine AX.iadd dX9_pass_204 ?_
    refine AX.lload dX9_pass_205 13 rfl ?_
    obtain ⟨q17, hq17, hz⟩ := obind hz
    refine AX.callSw (As := [.ref (G.2.2.1 23), .int (p1 + (1 : Int32)), .long x14]) (rest := []) (w := none) (st' := []) dX9_pass_207 mlRX9_62 ylX10_addTo ysX10_addTo rfl rfl (Nat.le_of_ble_eq_true rfl) ⟨Nat.le_of_ble_eq_true rfl, Nat.le_of_ble_eq_true rfl⟩ (xX10_addTo 23 (p1 + (1 : Int32)) x14 q16 hq17) rfl ?_
    refine AX.aload_n dX9_pass_210 0 rfl rfl ?_
    refine AX.iload_n dX9_pass_211 1 rfl rfl ?_
    refine AX.iload_n dX9_pass_212 2 rfl rfl ?_
    refine AX.lload dX9_pass_213 11 rfl ?_
    refine AX.lload dX9_pass_215 12 rfl ?_
    refine AX.ladd dX9_pass_217 ?_
    obtain ⟨q18, hq18, hz⟩ := obind hz
    refine AX.callVw (r := 19) (As := [.int p0, .int p1, .long (x11 + x12)]) (rest := []) (w := none) (st' := []) dX9_pass_218 mlRX9_99 ylX9_addSaid yvX9_addSaid rfl rfl rfl (Nat.le_of_ble_eq_true rfl) ⟨Nat.le_of_ble_eq_true rfl, Nat.le_of_ble_eq_true rfl⟩ (xX9_addSaid p0 p1 (x11 + x12) q17 hq18) rfl ?_
    refine AX.aload_n dX9_pass_221 0 rfl rfl ?_
    refine AX.iload_n dX9_pass_222 1 rfl rfl ?_
    refine AX.iload_n dX9_pass_223 2 rfl rfl ?_
    refine AX.iconst dX9_pass_224 ic_1 ?_
    refine AX.iadd dX9_pass_225 ?_
    refine AX.lload dX9_pass_226 13 rfl ?_
    obtain ⟨q19, hq19, hz⟩ := obind hz
    refine AX.callVw (r := 19) (As := [.int p0, .int (p1 + (1 : Int32)), .long x14]) (rest := []) (w := none) (st' := []) dX9_pass_228 mlRX9_99 ylX9_addSaid yvX9_addSaid rfl rfl rfl (Nat.le_of_ble_eq_true rfl) ⟨Nat.le_of_ble_eq_true rfl, Nat.le_of_ble_eq_true rfl⟩ (xX9_addSaid p0 (p1 + (1 : Int32)) x14 q18 hq19) rfl ?_
    exact AX.vreturn dX9_pass_231 rfl (kz (P := fun z => Q (none) z) hz hk)
  · replace hz := (if_pos c6).symm.trans hz
    refine AX.aload_n dX9_pass_57 0 rfl rfl ?_
    refine AX.getR dX9_pass_58 flRX9_21 rfl rfl ?_
    refine AX.iload_n dX9_pass_61 2 rfl rfl ?_
    refine AX.lload dX9_pass_62 5 rfl ?_
    refine AX.lload dX9_pass_64 6 rfl ?_
    refine AX.lmul dX9_pass_66 ?_
    obtain ⟨q20, hq20, hz⟩ := obind hz
    refine AX.callSw (As := [.ref (G.2.2.1 23), .int p1, .long (q3 * q4)]) (rest := []) (w := none) (st' := []) dX9_pass_67 mlRX9_62 ylX10_addTo ysX10_addTo rfl rfl (Nat.le_of_ble_eq_true rfl) ⟨Nat.le_of_ble_eq_true rfl, Nat.le_of_ble_eq_true rfl⟩ (xX10_addTo 23 p1 (q3 * q4) σ hq20) rfl ?_
    refine AX.aload_n dX9_pass_70 0 rfl rfl ?_
    refine AX.iload_n dX9_pass_71 1 rfl rfl ?_
    refine AX.iload_n dX9_pass_72 2 rfl rfl ?_
    refine AX.lload dX9_pass_73 5 rfl ?_
    refine AX.lload dX9_pass_75 6 rfl ?_
    refine AX.lmul dX9_pass_77 ?_
    obtain ⟨q21, hq21, hz⟩ := obind hz
    refine AX.callVw (r := 19) (As := [.int p0, .int p1, .long (q3 * q4)]) (rest := []) (w := none) (st' := []) dX9_pass_78 mlRX9_99 ylX9_addSaid yvX9_addSaid rfl rfl rfl (Nat.le_of_ble_eq_true rfl) ⟨Nat.le_of_ble_eq_true rfl, Nat.le_of_ble_eq_true rfl⟩ (xX9_addSaid p0 p1 (q3 * q4) q20 hq21) rfl ?_
    exact AX.vreturn dX9_pass_81 rfl (kz (P := fun z => Q (none) z) hz hk)
theorem xX9_pass {G : ag_G} (p0 : Int32) (p1 : Int32) (σ : St) {z : St} (hz : fX9_pass p0 p1 σ = some z) : AC G yX9_pass mX9_pass 2 49 [.ref (G.2.2.1 19), .int p0, .int p1] σ (fun v σ1 => v = none ∧ σ1 = z) := AC.of (plainFor_of_name (by decide)) rfl (Nat.le_of_ble_eq_true rfl) (wfX9_pass p0 p1 σ hz ⟨rfl, rfl⟩)
noncomputable def fX9_find_j91 (l1 : Int32) (l2 : Int32) (l3 : Int32) (σ : St) : Option ((Int32 × St) ⊕ St) :=
  some (.inl (l3 + 1, σ))
theorem wfX9_find_j91 {G : ag_G} (l1 : Int32) (l2 : Int32) (l3 : Int32) (σ : St) {z : (Int32 × St) ⊕ St} (hz : fX9_find_j91 l1 l2 l3 σ = some z) {Q : Option Value → St → Prop} (K : ((Int32 × St) ⊕ St) → Prop) (hback : ∀ a : Int32 × St, K (.inl a) → AX G mX9_find 3 88 64 [(0, .ref (G.2.2.1 19)), (1, .int l1), (2, .int l2), (3, .int a.1)] [] a.2 Q) (hk : K z) : AX G mX9_find 3 88 91 [(0, .ref (G.2.2.1 19)), (1, .int l1), (2, .int l2), (3, .int l3)] [] σ Q := by
  unfold fX9_find_j91 at hz
  refine AX.iinc (v := l3 + 1) (ls' := [(0, .ref (G.2.2.1 19)), (1, .int l1), (2, .int l2), (3, .int (l3 + 1))]) 3 dX9_find_91 rfl (Nat.le_of_ble_eq_true rfl) (congrArg (l3 + ·) ic_1) rfl ?_
  refine AX.goto (tgt := 64) dX9_find_94 rfl ?_
  exact AX.sub (ls' := [(0, .ref (G.2.2.1 19)), (1, .int l1), (2, .int l2), (3, .int (l3 + 1))]) [0, 1, 2, 3] rfl (hback (l3 + 1, σ) (kz (P := K) hz hk))
noncomputable def fX9_find_b64 (l1 : Int32) (l2 : Int32) (l3 : Int32) (σ : St) : Option ((Int32 × St) ⊕ St) :=
  if ((10 : Int32) + l1) < l3 then some (.inr σ) else (fX10_longAt 22 l3 σ).bind fun q2 => if q2 = (0 : Int64) then fX9_find_j91 l1 l2 l3 σ else (fX9_pass l2 l3 σ).bind fun q4 => fX9_find_j91 l1 l2 l3 q4
theorem wfX9_find_b64 {G : ag_G} (l1 : Int32) (l2 : Int32) (l3 : Int32) (σ : St) {z : (Int32 × St) ⊕ St} (hz : fX9_find_b64 l1 l2 l3 σ = some z) {Q : Option Value → St → Prop} (K : ((Int32 × St) ⊕ St) → Prop) (hback : ∀ a : Int32 × St, K (.inl a) → AX G mX9_find 3 88 64 [(0, .ref (G.2.2.1 19)), (1, .int l1), (2, .int l2), (3, .int a.1)] [] a.2 Q) (hexit0 : ∀ a : St, K (.inr a) → AX G mX9_find 3 88 97 [(0, .ref (G.2.2.1 19)), (1, .int l1), (2, .int l2)] [] a Q) (hk : K z) : AX G mX9_find 3 88 64 [(0, .ref (G.2.2.1 19)), (1, .int l1), (2, .int l2), (3, .int l3)] [] σ Q := by
  unfold fX9_find_b64 at hz
  refine AX.iload_n dX9_find_64 3 rfl rfl ?_
  refine AX.bipush dX9_find_65 bp_10 ?_
  refine AX.iload_n dX9_find_67 1 rfl rfl ?_
  refine AX.iadd dX9_find_68 ?_
  refine AX.icmp_gt (tgt := 97) dX9_find_69 rfl (fun c1 => ?_) (fun c1 => ?_)
  · replace hz := (if_pos c1).symm.trans hz
    exact AX.sub (ls' := [(0, .ref (G.2.2.1 19)), (1, .int l1), (2, .int l2)]) [0, 1, 2] rfl (hexit0 σ (kz (P := K) hz hk))
  · replace hz := (if_neg c1).symm.trans hz
    refine AX.aload_n dX9_find_72 0 rfl rfl ?_
    refine AX.getR dX9_find_73 flRX9_18 rfl rfl ?_
    refine AX.iload_n dX9_find_76 3 rfl rfl ?_
    obtain ⟨q2, hq2, hz⟩ := obind hz
    refine AX.callSw (As := [.ref (G.2.2.1 22), .int l3]) (rest := []) (w := some (.long q2)) (st' := [.long q2]) dX9_find_77 mlRX9_40 ylX10_longAt ysX10_longAt rfl rfl (Nat.le_of_ble_eq_true rfl) ⟨Nat.le_of_ble_eq_true rfl, Nat.le_of_ble_eq_true rfl⟩ (xX10_longAt 22 l3 σ hq2) rfl ?_
    refine AX.lconst dX9_find_80 lc_0 ?_
    refine AX.lcmp_eq (tgt := 91) dX9_find_81 dX9_find_82 rfl (fun c3 => ?_) (fun c3 => ?_)
    · replace hz := (if_pos c3).symm.trans hz
      exact AX.sub (ls' := [(0, .ref (G.2.2.1 19)), (1, .int l1), (2, .int l2), (3, .int l3)]) [0, 1, 2, 3] rfl (wfX9_find_j91 l1 l2 l3 σ hz K hback hk)
    · replace hz := (if_neg c3).symm.trans hz
      refine AX.aload_n dX9_find_85 0 rfl rfl ?_
      refine AX.iload_n dX9_find_86 2 rfl rfl ?_
      refine AX.iload_n dX9_find_87 3 rfl rfl ?_
      obtain ⟨q4, hq4, hz⟩ := obind hz
      refine AX.callVw (r := 19) (As := [.int l2, .int l3]) (rest := []) (w := none) (st' := []) dX9_find_88 mlRX9_70 ylX9_pass yvX9_pass rfl rfl rfl (Nat.le_of_ble_eq_true rfl) ⟨Nat.le_of_ble_eq_true rfl, Nat.le_of_ble_eq_true rfl⟩ (xX9_pass l2 l3 σ hq4) rfl ?_
      exact AX.sub (ls' := [(0, .ref (G.2.2.1 19)), (1, .int l1), (2, .int l2), (3, .int l3)]) [0, 1, 2, 3] rfl (wfX9_find_j91 l1 l2 l3 q4 hz K hback hk)
noncomputable def fX9_find_j135 (l2 : Int32) (t0 : Int32) (σ : St) : Option ((Int32 × Int32 × St) ⊕ St) :=
  some (.inl (t0, l2 + 1, σ))
theorem wfX9_find_j135 {G : ag_G} (l2 : Int32) (t0 : Int32) (σ : St) {z : (Int32 × Int32 × St) ⊕ St} (hz : fX9_find_j135 l2 t0 σ = some z) {Q : Option Value → St → Prop} (K : ((Int32 × Int32 × St) ⊕ St) → Prop) (hback : ∀ a : Int32 × Int32 × St, K (.inl a) → AX G mX9_find 3 88 40 [(0, .ref (G.2.2.1 19)), (1, .int a.1), (2, .int a.2.1)] [] a.2.2 Q) (hk : K z) : AX G mX9_find 3 88 135 [(0, .ref (G.2.2.1 19)), (2, .int l2)] [.int t0] σ Q := by
  unfold fX9_find_j135 at hz
  refine AX.istore_n (ls' := [(0, .ref (G.2.2.1 19)), (1, .int t0), (2, .int l2)]) dX9_find_135 rfl (Nat.le_of_ble_eq_true rfl) rfl ?_
  refine AX.iinc (v := l2 + 1) (ls' := [(0, .ref (G.2.2.1 19)), (1, .int t0), (2, .int (l2 + 1))]) 2 dX9_find_136 rfl (Nat.le_of_ble_eq_true rfl) (congrArg (l2 + ·) ic_1) rfl ?_
  refine AX.goto (tgt := 40) dX9_find_139 rfl ?_
  exact AX.sub (ls' := [(0, .ref (G.2.2.1 19)), (1, .int t0), (2, .int (l2 + 1))]) [0, 1, 2] rfl (hback (t0, l2 + 1, σ) (kz (P := K) hz hk))
noncomputable def fX9_find_b40 (l1 : Int32) (l2 : Int32) (σ : St) : Option ((Int32 × Int32 × St) ⊕ St) :=
  if (σ.1 1 6) ≤ l2 then some (.inr σ) else (fJ7_fill_d0a16 23 (0 : Int64) σ).bind fun q2 => ltb ((10 : Int32) - l1) fun x3 => (lpc (fun s => fX9_find_b64 l1 l2 s.1 s.2) (x3, q2)).bind fun r4 => (fX4_isLoose l2 (rL r4 22 (va_cpy (r4.2 23) (r4.2 22) 0 0 21))).bind fun q5 => if q5 = (0 : Int32) then fX9_find_j135 l2 l1 (rL r4 22 (va_cpy (r4.2 23) (r4.2 22) 0 0 21)) else (fJ9_min_7cf53 (10 : Int32) (l1 + (1 : Int32))).bind fun q7 => fX9_find_j135 l2 q7 (rL r4 22 (va_cpy (r4.2 23) (r4.2 22) 0 0 21))
theorem wfX9_find_b40 {G : ag_G} (l1 : Int32) (l2 : Int32) (σ : St) {z : (Int32 × Int32 × St) ⊕ St} (hz : fX9_find_b40 l1 l2 σ = some z) {Q : Option Value → St → Prop} (K : ((Int32 × Int32 × St) ⊕ St) → Prop) (hback : ∀ a : Int32 × Int32 × St, K (.inl a) → AX G mX9_find 3 88 40 [(0, .ref (G.2.2.1 19)), (1, .int a.1), (2, .int a.2.1)] [] a.2.2 Q) (hexit0 : ∀ a : St, K (.inr a) → AX G mX9_find 3 88 142 [] [] a Q) (hk : K z) : AX G mX9_find 3 88 40 [(0, .ref (G.2.2.1 19)), (1, .int l1), (2, .int l2)] [] σ Q := by
  unfold fX9_find_b40 at hz
  refine AX.iload_n dX9_find_40 2 rfl rfl ?_
  refine AX.aload_n dX9_find_41 0 rfl rfl ?_
  refine AX.getR dX9_find_42 flRX9_24 rfl rfl ?_
  refine AX.getIE (v := σ.1 1 6) dX9_find_45 flRX9_66 rfl rfl rfl ?_
  refine AX.icmp_ge (tgt := 142) dX9_find_48 rfl (fun c1 => ?_) (fun c1 => ?_)
  · replace hz := (if_pos c1).symm.trans hz
    exact AX.sub (ls' := []) [] rfl (hexit0 σ (kz (P := K) hz hk))
  · replace hz := (if_neg c1).symm.trans hz
    refine AX.aload_n dX9_find_51 0 rfl rfl ?_
    refine AX.getR dX9_find_52 flRX9_21 rfl rfl ?_
    refine AX.lconst dX9_find_55 lc_0 ?_
    obtain ⟨q2, hq2, hz⟩ := obind hz
    refine AX.callSw (As := [.ref (G.2.2.1 23), .long 0]) (rest := []) (w := none) (st' := []) dX9_find_56 mlRX9_54 ylJ7_fill_d0a16 ysJ7_fill_d0a16 rfl rfl (Nat.le_of_ble_eq_true rfl) ⟨Nat.le_of_ble_eq_true rfl, Nat.le_of_ble_eq_true rfl⟩ (xJ7_fill_d0a16 23 (0 : Int64) σ hq2) rfl ?_
    refine AX.bipush dX9_find_59 bp_10 ?_
    refine AX.iload_n dX9_find_61 1 rfl rfl ?_
    refine AX.isub dX9_find_62 ?_
    obtain ⟨x3, hx3, hz⟩ := ltb_e hz
    refine AX.topI hx3 ?_
    refine AX.istore_n (ls' := [(0, .ref (G.2.2.1 19)), (1, .int l1), (2, .int l2), (3, .int x3)]) dX9_find_63 rfl (Nat.le_of_ble_eq_true rfl) rfl ?_
    obtain ⟨r4, hr4, hz⟩ := obind hz
    refine AX.sub (ls' := [(0, .ref (G.2.2.1 19)), (1, .int l1), (2, .int l2), (3, .int x3)]) [0, 1, 2, 3] rfl ?_
    refine lpc_ind (s := (x3, q2)) (r := r4) (fun s => AX G mX9_find 3 88 64 [(0, .ref (G.2.2.1 19)), (1, .int l1), (2, .int l2), (3, .int s.1)] [] s.2 Q) (fun a : St => AX G mX9_find 3 88 97 [(0, .ref (G.2.2.1 19)), (1, .int l1), (2, .int l2)] [] a Q) hr4 (fun s z hb hK => wfX9_find_b64 l1 l2 s.1 s.2 hb (Sum.elim (fun s => AX G mX9_find 3 88 64 [(0, .ref (G.2.2.1 19)), (1, .int l1), (2, .int l2), (3, .int s.1)] [] s.2 Q) (fun a : St => AX G mX9_find 3 88 97 [(0, .ref (G.2.2.1 19)), (1, .int l1), (2, .int l2)] [] a Q)) (fun _ h9 => h9) (fun _ h9 => h9) hK) ?_
    refine AX.aload_n dX9_find_97 0 rfl rfl ?_
    refine AX.getR dX9_find_98 flRX9_21 rfl rfl ?_
    refine AX.iconst dX9_find_101 ic_0 ?_
    refine AX.aload_n dX9_find_102 0 rfl rfl ?_
    refine AX.getR dX9_find_103 flRX9_18 rfl rfl ?_
    refine AX.iconst dX9_find_106 ic_0 ?_
    refine AX.bipush dX9_find_107 bp_21 ?_
    refine AX.copyL (n0 := 21) (n1 := 21) dX9_find_109 acRX9_74 rfl rfl rfl (Nat.le_of_ble_eq_true rfl) ⟨Nat.le_of_ble_eq_true rfl, Nat.le_of_ble_eq_true rfl⟩ ?_
    refine AX.aload_n dX9_find_112 0 rfl rfl ?_
    refine AX.getR dX9_find_113 flRX9_24 rfl rfl ?_
    refine AX.iload_n dX9_find_116 2 rfl rfl ?_
    obtain ⟨q5, hq5, hz⟩ := obind hz
    refine AX.callVw (r := 1) (As := [.int l2]) (rest := []) (w := some (.int q5)) (st' := [.int q5]) dX9_find_117 mlRX9_80 ylX4_isLoose yvX4_isLoose rfl rfl rfl (Nat.le_of_ble_eq_true rfl) ⟨Nat.le_of_ble_eq_true rfl, Nat.le_of_ble_eq_true rfl⟩ (xX4_isLoose l2 (rL r4 22 (va_cpy (r4.2 23) (r4.2 22) 0 0 21)) hq5) rfl ?_
    refine AX.if_eq (tgt := 134) dX9_find_120 rfl (fun c6 => ?_) (fun c6 => ?_)
    · replace hz := (if_pos c6).symm.trans hz
      refine AX.iload_n dX9_find_134 1 rfl rfl ?_
      exact AX.sub (ls' := [(0, .ref (G.2.2.1 19)), (2, .int l2)]) [0, 2] rfl (wfX9_find_j135 l2 l1 (rL r4 22 (va_cpy (r4.2 23) (r4.2 22) 0 0 21)) hz K hback hk)
    · replace hz := (if_neg c6).symm.trans hz
      refine AX.bipush dX9_find_123 bp_10 ?_
      refine AX.iload_n dX9_find_125 1 rfl rfl ?_
      refine AX.iconst dX9_find_126 ic_1 ?_
      refine AX.iadd dX9_find_127 ?_
      obtain ⟨q7, hq7, hz⟩ := obind hz
      refine AX.callSw (As := [.int 10, .int (l1 + (1 : Int32))]) (rest := []) (w := some (.int q7)) (st' := [.int q7]) dX9_find_128 mlRX9_83 ylJ9_min_7cf53 ysJ9_min_7cf53 rfl rfl (Nat.le_of_ble_eq_true rfl) ⟨Nat.le_of_ble_eq_true rfl, Nat.le_of_ble_eq_true rfl⟩ (xJ9_min_7cf53 (10 : Int32) (l1 + (1 : Int32)) (rL r4 22 (va_cpy (r4.2 23) (r4.2 22) 0 0 21)) hq7) rfl ?_
      refine AX.goto (tgt := 135) dX9_find_131 rfl ?_
      exact AX.sub (ls' := [(0, .ref (G.2.2.1 19)), (2, .int l2)]) [0, 2] rfl (wfX9_find_j135 l2 q7 (rL r4 22 (va_cpy (r4.2 23) (r4.2 22) 0 0 21)) hz K hback hk)
noncomputable def fX9_find  (σ : St) : Option (St) :=
  (fJ7_fill_d0a16 20 (0 : Int64) σ).bind fun q1 => (fJ7_fill_d0a16 21 (0 : Int64) q1).bind fun q2 => (fJ7_fill_d0a16 22 (0 : Int64) q2).bind fun q3 => (fX10_addTo 22 (10 : Int32) (1099511627776 : Int64) q3).bind fun q4 => (lpc (fun s => fX9_find_b40  s.1 s.2.1 s.2.2) (0, 0, q4)).bind fun r5 => some r5
theorem wfX9_find {G : ag_G}  (σ : St) {z : St} (hz : fX9_find  σ = some z) {Q : Option Value → St → Prop} (hk : Q (none) z) : AX G mX9_find 3 88 0 [(0, .ref (G.2.2.1 19))] [] σ Q := by
  unfold fX9_find at hz
  refine AX.aload_n dX9_find_0 0 rfl rfl ?_
  refine AX.getR dX9_find_1 flRX9_9 rfl rfl ?_
  refine AX.lconst dX9_find_4 lc_0 ?_
  obtain ⟨q1, hq1, hz⟩ := obind hz
  refine AX.callSw (As := [.ref (G.2.2.1 20), .long 0]) (rest := []) (w := none) (st' := []) dX9_find_5 mlRX9_54 ylJ7_fill_d0a16 ysJ7_fill_d0a16 rfl rfl (Nat.le_of_ble_eq_true rfl) ⟨Nat.le_of_ble_eq_true rfl, Nat.le_of_ble_eq_true rfl⟩ (xJ7_fill_d0a16 20 (0 : Int64) σ hq1) rfl ?_
  refine AX.aload_n dX9_find_8 0 rfl rfl ?_
  refine AX.getR dX9_find_9 flRX9_15 rfl rfl ?_
  refine AX.lconst dX9_find_12 lc_0 ?_
  obtain ⟨q2, hq2, hz⟩ := obind hz
  refine AX.callSw (As := [.ref (G.2.2.1 21), .long 0]) (rest := []) (w := none) (st' := []) dX9_find_13 mlRX9_54 ylJ7_fill_d0a16 ysJ7_fill_d0a16 rfl rfl (Nat.le_of_ble_eq_true rfl) ⟨Nat.le_of_ble_eq_true rfl, Nat.le_of_ble_eq_true rfl⟩ (xJ7_fill_d0a16 21 (0 : Int64) q1 hq2) rfl ?_
  refine AX.aload_n dX9_find_16 0 rfl rfl ?_
  refine AX.getR dX9_find_17 flRX9_18 rfl rfl ?_
  refine AX.lconst dX9_find_20 lc_0 ?_
  obtain ⟨q3, hq3, hz⟩ := obind hz
  refine AX.callSw (As := [.ref (G.2.2.1 22), .long 0]) (rest := []) (w := none) (st' := []) dX9_find_21 mlRX9_54 ylJ7_fill_d0a16 ysJ7_fill_d0a16 rfl rfl (Nat.le_of_ble_eq_true rfl) ⟨Nat.le_of_ble_eq_true rfl, Nat.le_of_ble_eq_true rfl⟩ (xJ7_fill_d0a16 22 (0 : Int64) q2 hq3) rfl ?_
  refine AX.aload_n dX9_find_24 0 rfl rfl ?_
  refine AX.getR dX9_find_25 flRX9_18 rfl rfl ?_
  refine AX.bipush dX9_find_28 bp_10 ?_
  refine AX.ldc2 dX9_find_30 kcRX9_60 ?_
  obtain ⟨q4, hq4, hz⟩ := obind hz
  refine AX.callSw (As := [.ref (G.2.2.1 22), .int 10, .long 1099511627776]) (rest := []) (w := none) (st' := []) dX9_find_33 mlRX9_62 ylX10_addTo ysX10_addTo rfl rfl (Nat.le_of_ble_eq_true rfl) ⟨Nat.le_of_ble_eq_true rfl, Nat.le_of_ble_eq_true rfl⟩ (xX10_addTo 22 (10 : Int32) (1099511627776 : Int64) q3 hq4) rfl ?_
  refine AX.iconst dX9_find_36 ic_0 ?_
  refine AX.istore_n (ls' := [(0, .ref (G.2.2.1 19)), (1, .int 0)]) dX9_find_37 rfl (Nat.le_of_ble_eq_true rfl) rfl ?_
  refine AX.iconst dX9_find_38 ic_0 ?_
  refine AX.istore_n (ls' := [(0, .ref (G.2.2.1 19)), (1, .int 0), (2, .int 0)]) dX9_find_39 rfl (Nat.le_of_ble_eq_true rfl) rfl ?_
  obtain ⟨r5, hr5, hz⟩ := obind hz
  refine AX.sub (ls' := [(0, .ref (G.2.2.1 19)), (1, .int 0), (2, .int 0)]) [0, 1, 2] rfl ?_
  refine lpc_ind (s := (0, 0, q4)) (r := r5) (fun s => AX G mX9_find 3 88 40 [(0, .ref (G.2.2.1 19)), (1, .int s.1), (2, .int s.2.1)] [] s.2.2 Q) (fun a : St => AX G mX9_find 3 88 142 [] [] a Q) hr5 (fun s z hb hK => wfX9_find_b40  s.1 s.2.1 s.2.2 hb (Sum.elim (fun s => AX G mX9_find 3 88 40 [(0, .ref (G.2.2.1 19)), (1, .int s.1), (2, .int s.2.1)] [] s.2.2 Q) (fun a : St => AX G mX9_find 3 88 142 [] [] a Q)) (fun _ h9 => h9) (fun _ h9 => h9) hK) ?_
  exact AX.vreturn dX9_find_142 rfl (kz (P := fun z => Q (none) z) hz hk)
theorem xX9_find {G : ag_G}  (σ : St) {z : St} (hz : fX9_find  σ = some z) : AC G yX9_find mX9_find 3 88 [.ref (G.2.2.1 19)] σ (fun v σ1 => v = none ∧ σ1 = z) := AC.of (plainFor_of_name (by decide)) rfl (Nat.le_of_ble_eq_true rfl) (wfX9_find  σ hz ⟨rfl, rfl⟩)
noncomputable def fJ6_bitCount_0f7a4 (p0 : Int32) : Option (Int32) :=
  ltb (p0 - (((p0.toUInt32 >>> ((1 : Int32).toUInt32 &&& Int32.toUInt32 31)).toInt32) &&& (1431655765 : Int32))) fun x1 => ltb ((x1 &&& (858993459 : Int32)) + (((x1.toUInt32 >>> ((2 : Int32).toUInt32 &&& Int32.toUInt32 31)).toInt32) &&& (858993459 : Int32))) fun x2 => ltb ((x2 + ((x2.toUInt32 >>> ((4 : Int32).toUInt32 &&& Int32.toUInt32 31)).toInt32)) &&& (252645135 : Int32)) fun x3 => ltb (x3 + ((x3.toUInt32 >>> ((8 : Int32).toUInt32 &&& Int32.toUInt32 31)).toInt32)) fun x4 => ltb (x4 + ((x4.toUInt32 >>> ((16 : Int32).toUInt32 &&& Int32.toUInt32 31)).toInt32)) fun x5 => some (x5 &&& (63 : Int32))
theorem wfJ6_bitCount_0f7a4 {G : ag_G} (p0 : Int32) (σ : St) {z : Int32} (hz : fJ6_bitCount_0f7a4 p0 = some z) {Q : Option Value → St → Prop} (hk : Q (some (.int z)) σ) : AX G mJ6_bitCount_0f7a4 0 0 0 [(0, .int p0)] [] σ Q := by
  unfold fJ6_bitCount_0f7a4 at hz
  refine AX.iload_n dJ6_bitCount_0f7a4_0 0 rfl rfl ?_
  refine AX.iload_n dJ6_bitCount_0f7a4_1 0 rfl rfl ?_
  refine AX.iconst dJ6_bitCount_0f7a4_2 ic_1 ?_
  refine AX.iushr dJ6_bitCount_0f7a4_3 ?_
  refine AX.ldcw dJ6_bitCount_0f7a4_4 kcRJ6_265 ?_
  refine AX.iand dJ6_bitCount_0f7a4_7 ?_
  refine AX.isub dJ6_bitCount_0f7a4_8 ?_
  obtain ⟨x1, hx1, hz⟩ := ltb_e hz
  refine AX.topI hx1 ?_
  refine AX.istore_n (ls' := [(0, .int x1)]) dJ6_bitCount_0f7a4_9 rfl (Nat.le_of_ble_eq_true rfl) rfl ?_
  refine AX.iload_n dJ6_bitCount_0f7a4_10 0 rfl rfl ?_
  refine AX.ldcw dJ6_bitCount_0f7a4_11 kcRJ6_266 ?_
  refine AX.iand dJ6_bitCount_0f7a4_14 ?_
  refine AX.iload_n dJ6_bitCount_0f7a4_15 0 rfl rfl ?_
  refine AX.iconst dJ6_bitCount_0f7a4_16 ic_2 ?_
  refine AX.iushr dJ6_bitCount_0f7a4_17 ?_
  refine AX.ldcw dJ6_bitCount_0f7a4_18 kcRJ6_266 ?_
  refine AX.iand dJ6_bitCount_0f7a4_21 ?_
  refine AX.iadd dJ6_bitCount_0f7a4_22 ?_
  obtain ⟨x2, hx2, hz⟩ := ltb_e hz
  refine AX.topI hx2 ?_
  refine AX.istore_n (ls' := [(0, .int x2)]) dJ6_bitCount_0f7a4_23 rfl (Nat.le_of_ble_eq_true rfl) rfl ?_
  refine AX.iload_n dJ6_bitCount_0f7a4_24 0 rfl rfl ?_
  refine AX.iload_n dJ6_bitCount_0f7a4_25 0 rfl rfl ?_
  refine AX.iconst dJ6_bitCount_0f7a4_26 ic_4 ?_
  refine AX.iushr dJ6_bitCount_0f7a4_27 ?_
  refine AX.iadd dJ6_bitCount_0f7a4_28 ?_
  refine AX.ldcw dJ6_bitCount_0f7a4_29 kcRJ6_267 ?_
  refine AX.iand dJ6_bitCount_0f7a4_32 ?_
  obtain ⟨x3, hx3, hz⟩ := ltb_e hz
  refine AX.topI hx3 ?_
  refine AX.istore_n (ls' := [(0, .int x3)]) dJ6_bitCount_0f7a4_33 rfl (Nat.le_of_ble_eq_true rfl) rfl ?_
  refine AX.iload_n dJ6_bitCount_0f7a4_34 0 rfl rfl ?_
  refine AX.iload_n dJ6_bitCount_0f7a4_35 0 rfl rfl ?_
  refine AX.bipush dJ6_bitCount_0f7a4_36 bp_8 ?_
  refine AX.iushr dJ6_bitCount_0f7a4_38 ?_
  refine AX.iadd dJ6_bitCount_0f7a4_39 ?_
  obtain ⟨x4, hx4, hz⟩ := ltb_e hz
  refine AX.topI hx4 ?_
  refine AX.istore_n (ls' := [(0, .int x4)]) dJ6_bitCount_0f7a4_40 rfl (Nat.le_of_ble_eq_true rfl) rfl ?_
  refine AX.iload_n dJ6_bitCount_0f7a4_41 0 rfl rfl ?_
  refine AX.iload_n dJ6_bitCount_0f7a4_42 0 rfl rfl ?_
  refine AX.bipush dJ6_bitCount_0f7a4_43 bp_16 ?_
  refine AX.iushr dJ6_bitCount_0f7a4_45 ?_
  refine AX.iadd dJ6_bitCount_0f7a4_46 ?_
  obtain ⟨x5, hx5, hz⟩ := ltb_e hz
  refine AX.topI hx5 ?_
  refine AX.istore_n (ls' := [(0, .int x5)]) dJ6_bitCount_0f7a4_47 rfl (Nat.le_of_ble_eq_true rfl) rfl ?_
  refine AX.iload_n dJ6_bitCount_0f7a4_48 0 rfl rfl ?_
  refine AX.bipush dJ6_bitCount_0f7a4_49 bp_63 ?_
  refine AX.iand dJ6_bitCount_0f7a4_51 ?_
  exact AX.ireturn dJ6_bitCount_0f7a4_52 rfl (vp_nar_int _) (kz (P := fun z => Q (some (.int z)) σ) hz hk)
theorem xJ6_bitCount_0f7a4 {G : ag_G} (p0 : Int32) (σ : St) {z : Int32} (hz : fJ6_bitCount_0f7a4 p0 = some z) : AC G yJ6_bitCount_0f7a4 mJ6_bitCount_0f7a4 0 0 [.int p0] σ (fun v σ1 => v = some (.int z) ∧ σ1 = σ) := AC.of (plainFor_of_name (by decide)) rfl (Nat.le_of_ble_eq_true rfl) (wfJ6_bitCount_0f7a4 p0 σ hz ⟨rfl, rfl⟩)
