noncomputable def fX11_in (p0 : Int32) (p1 : Int32) (p2 : Int32) : Option (Int32) :=
  if p0 < p1 then some (0 : Int32) else if p2 < p0 then some (0 : Int32) else some (1 : Int32)
theorem wfX11_in {G : ag_G} (p0 : Int32) (p1 : Int32) (p2 : Int32) (σ : St) {z : Int32} (hz : fX11_in p0 p1 p2 = some z) {Q : Option Value → St → Prop} (hk : Q (some (.int z)) σ) : AX G mX11_in 0 0 0 [(0, .int p0), (1, .int p1), (2, .int p2)] [] σ Q := by
  unfold fX11_in at hz
  refine AX.iload_n dX11_in_0 0 rfl rfl ?_
  refine AX.iload_n dX11_in_1 1 rfl rfl ?_
  refine AX.icmp_lt (tgt := 14) dX11_in_2 rfl (fun c1 => ?_) (fun c1 => ?_)
  · replace hz := (if_pos c1).symm.trans hz
    refine AX.iconst dX11_in_14 ic_0 ?_
    exact AX.ireturn dX11_in_15 rfl nb_0 (kz (P := fun z => Q (some (.int z)) σ) hz hk)
  · replace hz := (if_neg c1).symm.trans hz
    refine AX.iload_n dX11_in_5 0 rfl rfl ?_
    refine AX.iload_n dX11_in_6 2 rfl rfl ?_
    refine AX.icmp_gt (tgt := 14) dX11_in_7 rfl (fun c2 => ?_) (fun c2 => ?_)
    · replace hz := (if_pos c2).symm.trans hz
      refine AX.iconst dX11_in_14 ic_0 ?_
      exact AX.ireturn dX11_in_15 rfl nb_0 (kz (P := fun z => Q (some (.int z)) σ) hz hk)
    · replace hz := (if_neg c2).symm.trans hz
      refine AX.iconst dX11_in_10 ic_1 ?_
      refine AX.goto (tgt := 15) dX11_in_11 rfl ?_
      exact AX.ireturn dX11_in_15 rfl nb_1 (kz (P := fun z => Q (some (.int z)) σ) hz hk)
theorem xX11_in {G : ag_G} (p0 : Int32) (p1 : Int32) (p2 : Int32) (σ : St) {z : Int32} (hz : fX11_in p0 p1 p2 = some z) : AC G yX11_in mX11_in 0 0 [.int p0, .int p1, .int p2] σ (fun v σ1 => v = some (.int z) ∧ σ1 = σ) := AC.of (plainFor_of_name (by decide)) rfl (Nat.le_of_ble_eq_true rfl) (wfX11_in p0 p1 p2 σ hz ⟨rfl, rfl⟩)
noncomputable def fX11_isIn (p0 : Int32) (p1 : Int32) : Option (Int32) :=
  if ((p0 >>> (p1 &&& 31)) &&& (1 : Int32)) = (1 : Int32) then some (1 : Int32) else some (0 : Int32)
theorem wfX11_isIn {G : ag_G} (p0 : Int32) (p1 : Int32) (σ : St) {z : Int32} (hz : fX11_isIn p0 p1 = some z) {Q : Option Value → St → Prop} (hk : Q (some (.int z)) σ) : AX G mX11_isIn 0 0 0 [(0, .int p0), (1, .int p1)] [] σ Q := by
  unfold fX11_isIn at hz
  refine AX.iload_n dX11_isIn_0 0 rfl rfl ?_
  refine AX.iload_n dX11_isIn_1 1 rfl rfl ?_
  refine AX.ishr dX11_isIn_2 ?_
  refine AX.iconst dX11_isIn_3 ic_1 ?_
  refine AX.iand dX11_isIn_4 ?_
  refine AX.iconst dX11_isIn_5 ic_1 ?_
  refine AX.icmp_ne (tgt := 13) dX11_isIn_6 rfl (fun c1 => ?_) (fun c1 => ?_)
  · replace hz := (if_neg c1).symm.trans hz
    refine AX.iconst dX11_isIn_13 ic_0 ?_
    exact AX.ireturn dX11_isIn_14 rfl nb_0 (kz (P := fun z => Q (some (.int z)) σ) hz hk)
  · replace hz := (if_pos c1).symm.trans hz
    refine AX.iconst dX11_isIn_9 ic_1 ?_
    refine AX.goto (tgt := 14) dX11_isIn_10 rfl ?_
    exact AX.ireturn dX11_isIn_14 rfl nb_1 (kz (P := fun z => Q (some (.int z)) σ) hz hk)
theorem xX11_isIn {G : ag_G} (p0 : Int32) (p1 : Int32) (σ : St) {z : Int32} (hz : fX11_isIn p0 p1 = some z) : AC G yX11_isIn mX11_isIn 0 0 [.int p0, .int p1] σ (fun v σ1 => v = some (.int z) ∧ σ1 = σ) := AC.of (plainFor_of_name (by decide)) rfl (Nat.le_of_ble_eq_true rfl) (wfX11_isIn p0 p1 σ hz ⟨rfl, rfl⟩)
noncomputable def fX11_ones_b4 (l0 : Int32) (l1 : Int32) (l2 : Int32) : Option ((Int32 × Int32) ⊕ Int32) :=
  if (10 : Int32) ≤ l2 then some (.inr l1) else ltb (l1 + ((l0 >>> (l2 &&& 31)) &&& (1 : Int32))) fun x2 => some (.inl (x2, l2 + 1))
theorem wfX11_ones_b4 {G : ag_G} (l0 : Int32) (l1 : Int32) (l2 : Int32) {σ : St} {z : (Int32 × Int32) ⊕ Int32} (hz : fX11_ones_b4 l0 l1 l2 = some z) {Q : Option Value → St → Prop} (K : ((Int32 × Int32) ⊕ Int32) → Prop) (hback : ∀ a : Int32 × Int32, K (.inl a) → AX G mX11_ones 0 0 4 [(0, .int l0), (1, .int a.1), (2, .int a.2)] [] σ Q) (hexit0 : ∀ a : Int32, K (.inr a) → AX G mX11_ones 0 0 24 [(1, .int a)] [] σ Q) (hk : K z) : AX G mX11_ones 0 0 4 [(0, .int l0), (1, .int l1), (2, .int l2)] [] σ Q := by
  unfold fX11_ones_b4 at hz
  refine AX.iload_n dX11_ones_4 2 rfl rfl ?_
  refine AX.bipush dX11_ones_5 bp_10 ?_
  refine AX.icmp_ge (tgt := 24) dX11_ones_7 rfl (fun c1 => ?_) (fun c1 => ?_)
  · replace hz := (if_pos c1).symm.trans hz
    exact AX.sub (ls' := [(1, .int l1)]) [1] rfl (hexit0 l1 (kz (P := K) hz hk))
  · replace hz := (if_neg c1).symm.trans hz
    refine AX.iload_n dX11_ones_10 1 rfl rfl ?_
    refine AX.iload_n dX11_ones_11 0 rfl rfl ?_
    refine AX.iload_n dX11_ones_12 2 rfl rfl ?_
    refine AX.ishr dX11_ones_13 ?_
    refine AX.iconst dX11_ones_14 ic_1 ?_
    refine AX.iand dX11_ones_15 ?_
    refine AX.iadd dX11_ones_16 ?_
    obtain ⟨x2, hx2, hz⟩ := ltb_e hz
    refine AX.topI hx2 ?_
    refine AX.istore_n (ls' := [(0, .int l0), (1, .int x2), (2, .int l2)]) dX11_ones_17 rfl (Nat.le_of_ble_eq_true rfl) rfl ?_
    refine AX.iinc (v := l2 + 1) (ls' := [(0, .int l0), (1, .int x2), (2, .int (l2 + 1))]) 2 dX11_ones_18 rfl (Nat.le_of_ble_eq_true rfl) (congrArg (l2 + ·) ic_1) rfl ?_
    refine AX.goto (tgt := 4) dX11_ones_21 rfl ?_
    exact AX.sub (ls' := [(0, .int l0), (1, .int x2), (2, .int (l2 + 1))]) [0, 1, 2] rfl (hback (x2, l2 + 1) (kz (P := K) hz hk))
noncomputable def fX11_ones (p0 : Int32) : Option (Int32) :=
  (lpc (fun s => fX11_ones_b4 p0 s.1 s.2) (0, 0)).bind fun r1 => some r1
theorem wfX11_ones {G : ag_G} (p0 : Int32) (σ : St) {z : Int32} (hz : fX11_ones p0 = some z) {Q : Option Value → St → Prop} (hk : Q (some (.int z)) σ) : AX G mX11_ones 0 0 0 [(0, .int p0)] [] σ Q := by
  unfold fX11_ones at hz
  refine AX.iconst dX11_ones_0 ic_0 ?_
  refine AX.istore_n (ls' := [(0, .int p0), (1, .int 0)]) dX11_ones_1 rfl (Nat.le_of_ble_eq_true rfl) rfl ?_
  refine AX.iconst dX11_ones_2 ic_0 ?_
  refine AX.istore_n (ls' := [(0, .int p0), (1, .int 0), (2, .int 0)]) dX11_ones_3 rfl (Nat.le_of_ble_eq_true rfl) rfl ?_
  obtain ⟨r1, hr1, hz⟩ := obind hz
  refine AX.sub (ls' := [(0, .int p0), (1, .int 0), (2, .int 0)]) [0, 1, 2] rfl ?_
  refine lpc_ind (s := (0, 0)) (r := r1) (fun s => AX G mX11_ones 0 0 4 [(0, .int p0), (1, .int s.1), (2, .int s.2)] [] σ Q) (fun a : Int32 => AX G mX11_ones 0 0 24 [(1, .int a)] [] σ Q) hr1 (fun s z hb hK => wfX11_ones_b4 p0 s.1 s.2 hb (Sum.elim (fun s => AX G mX11_ones 0 0 4 [(0, .int p0), (1, .int s.1), (2, .int s.2)] [] σ Q) (fun a : Int32 => AX G mX11_ones 0 0 24 [(1, .int a)] [] σ Q)) (fun _ h9 => h9) (fun _ h9 => h9) hK) ?_
  refine AX.iload_n dX11_ones_24 0 rfl rfl ?_
  exact AX.ireturn dX11_ones_25 rfl (vp_nar_int _) (kz (P := fun z => Q (some (.int z)) σ) hz hk)
theorem xX11_ones {G : ag_G} (p0 : Int32) (σ : St) {z : Int32} (hz : fX11_ones p0 = some z) : AC G yX11_ones mX11_ones 0 0 [.int p0] σ (fun v σ1 => v = some (.int z) ∧ σ1 = σ) := AC.of (plainFor_of_name (by decide)) rfl (Nat.le_of_ble_eq_true rfl) (wfX11_ones p0 σ hz ⟨rfl, rfl⟩)
noncomputable def fX11_no (p0 : Int32) : Option (Int64) :=
  some ((-9223372036854775808 : Int64) - p0.toInt64)
theorem wfX11_no {G : ag_G} (p0 : Int32) (σ : St) {z : Int64} (hz : fX11_no p0 = some z) {Q : Option Value → St → Prop} (hk : Q (some (.long z)) σ) : AX G mX11_no 0 0 0 [(0, .int p0)] [] σ Q := by
  unfold fX11_no at hz
  refine AX.ldc2 dX11_no_0 kcRX11_87 ?_
  refine AX.iload_n dX11_no_3 0 rfl rfl ?_
  refine AX.i2l dX11_no_4 ?_
  refine AX.lsub dX11_no_5 ?_
  exact AX.lreturn dX11_no_6 rfl (kz (P := fun z => Q (some (.long z)) σ) hz hk)
theorem xX11_no {G : ag_G} (p0 : Int32) (σ : St) {z : Int64} (hz : fX11_no p0 = some z) : AC G yX11_no mX11_no 0 0 [.int p0] σ (fun v σ1 => v = some (.long z) ∧ σ1 = σ) := AC.of (plainFor_of_name (by decide)) rfl (Nat.le_of_ble_eq_true rfl) (wfX11_no p0 σ hz ⟨rfl, rfl⟩)
noncomputable def fX11_lowest_b6 (l0 : Int64) (l2 : Int64) (l4 : Int32) (l5 : Int64) (l7 : Int64) : Option ((Int64 × Int64) ⊕ Int64) :=
  if l7 = (0 : Int64) then some (.inr l5) else if l7 = 0 then none else ltb (l5 - l5 / l7 * l7) fun x3 => some (.inl (l7, x3))
theorem wfX11_lowest_b6 {G : ag_G} (l0 : Int64) (l2 : Int64) (l4 : Int32) (l5 : Int64) (l7 : Int64) {σ : St} {z : (Int64 × Int64) ⊕ Int64} (hz : fX11_lowest_b6 l0 l2 l4 l5 l7 = some z) {Q : Option Value → St → Prop} (K : ((Int64 × Int64) ⊕ Int64) → Prop) (hback : ∀ a : Int64 × Int64, K (.inl a) → AX G mX11_lowest 0 0 6 [(0, .long l0), (2, .long l2), (4, .int l4), (5, .long a.1), (7, .long a.2)] [] σ Q) (hexit0 : ∀ a : Int64, K (.inr a) → AX G mX11_lowest 0 0 31 [(0, .long l0), (2, .long l2), (4, .int l4), (5, .long a)] [] σ Q) (hk : K z) : AX G mX11_lowest 0 0 6 [(0, .long l0), (2, .long l2), (4, .int l4), (5, .long l5), (7, .long l7)] [] σ Q := by
  unfold fX11_lowest_b6 at hz
  refine AX.lload dX11_lowest_6 4 rfl ?_
  refine AX.lconst dX11_lowest_8 lc_0 ?_
  refine AX.lcmp_eq (tgt := 31) dX11_lowest_9 dX11_lowest_10 rfl (fun c1 => ?_) (fun c1 => ?_)
  · replace hz := (if_pos c1).symm.trans hz
    exact AX.sub (ls' := [(0, .long l0), (2, .long l2), (4, .int l4), (5, .long l5)]) [0, 1, 2, 3] rfl (hexit0 l5 (kz (P := K) hz hk))
  · replace hz := (if_neg c1).symm.trans hz
    refine AX.lload dX11_lowest_13 3 rfl ?_
    refine AX.lload dX11_lowest_15 4 rfl ?_
    obtain ⟨c2, hz⟩ := ite_m hz
    refine AX.lrem dX11_lowest_17 c2 ?_
    obtain ⟨x3, hx3, hz⟩ := ltb_e hz
    refine AX.topL hx3 ?_
    refine AX.lstore (ls' := [(0, .long l0), (2, .long l2), (4, .int l4), (5, .long l5), (7, .long l7), (9, .long x3)]) dX11_lowest_18 (Nat.le_of_ble_eq_true rfl) rfl ?_
    refine AX.lload dX11_lowest_20 4 rfl ?_
    refine AX.lstore (ls' := [(0, .long l0), (2, .long l2), (4, .int l4), (5, .long l7), (7, .long l7), (9, .long x3)]) dX11_lowest_22 (Nat.le_of_ble_eq_true rfl) rfl ?_
    refine AX.lload dX11_lowest_24 5 rfl ?_
    refine AX.lstore (ls' := [(0, .long l0), (2, .long l2), (4, .int l4), (5, .long l7), (7, .long x3), (9, .long x3)]) dX11_lowest_26 (Nat.le_of_ble_eq_true rfl) rfl ?_
    refine AX.goto (tgt := 6) dX11_lowest_28 rfl ?_
    exact AX.sub (ls' := [(0, .long l0), (2, .long l2), (4, .int l4), (5, .long l7), (7, .long x3)]) [0, 1, 2, 3, 4] rfl (hback (l7, x3) (kz (P := K) hz hk))
noncomputable def fX11_lowest (p0 : Int64) (p1 : Int64) (p2 : Int32) : Option (Int64) :=
  (lpc (fun s => fX11_lowest_b6 p0 p1 p2 s.1 s.2) (p0, p1)).bind fun r1 => if p2 = (0 : Int32) then if r1 = 0 then none else some (p0 / r1) else if r1 = 0 then none else some (p1 / r1)
theorem wfX11_lowest {G : ag_G} (p0 : Int64) (p1 : Int64) (p2 : Int32) (σ : St) {z : Int64} (hz : fX11_lowest p0 p1 p2 = some z) {Q : Option Value → St → Prop} (hk : Q (some (.long z)) σ) : AX G mX11_lowest 0 0 0 [(0, .long p0), (2, .long p1), (4, .int p2)] [] σ Q := by
  unfold fX11_lowest at hz
  refine AX.lload_n dX11_lowest_0 0 rfl rfl ?_
  refine AX.lstore (ls' := [(0, .long p0), (2, .long p1), (4, .int p2), (5, .long p0)]) dX11_lowest_1 (Nat.le_of_ble_eq_true rfl) rfl ?_
  refine AX.lload_n dX11_lowest_3 1 rfl rfl ?_
  refine AX.lstore (ls' := [(0, .long p0), (2, .long p1), (4, .int p2), (5, .long p0), (7, .long p1)]) dX11_lowest_4 (Nat.le_of_ble_eq_true rfl) rfl ?_
  obtain ⟨r1, hr1, hz⟩ := obind hz
  refine AX.sub (ls' := [(0, .long p0), (2, .long p1), (4, .int p2), (5, .long p0), (7, .long p1)]) [0, 1, 2, 3, 4] rfl ?_
  refine lpc_ind (s := (p0, p1)) (r := r1) (fun s => AX G mX11_lowest 0 0 6 [(0, .long p0), (2, .long p1), (4, .int p2), (5, .long s.1), (7, .long s.2)] [] σ Q) (fun a : Int64 => AX G mX11_lowest 0 0 31 [(0, .long p0), (2, .long p1), (4, .int p2), (5, .long a)] [] σ Q) hr1 (fun s z hb hK => wfX11_lowest_b6 p0 p1 p2 s.1 s.2 hb (Sum.elim (fun s => AX G mX11_lowest 0 0 6 [(0, .long p0), (2, .long p1), (4, .int p2), (5, .long s.1), (7, .long s.2)] [] σ Q) (fun a : Int64 => AX G mX11_lowest 0 0 31 [(0, .long p0), (2, .long p1), (4, .int p2), (5, .long a)] [] σ Q)) (fun _ h9 => h9) (fun _ h9 => h9) hK) ?_
  refine AX.iload dX11_lowest_31 2 rfl ?_
  refine AX.if_ne (tgt := 43) dX11_lowest_33 rfl (fun c2 => ?_) (fun c2 => ?_)
  · replace hz := (if_neg c2).symm.trans hz
    refine AX.lload_n dX11_lowest_43 1 rfl rfl ?_
    refine AX.lload dX11_lowest_44 3 rfl ?_
    obtain ⟨c3, hz⟩ := ite_m hz
    refine AX.ldiv dX11_lowest_46 c3 ?_
    exact AX.lreturn dX11_lowest_47 rfl (kz (P := fun z => Q (some (.long z)) σ) hz hk)
  · replace hz := (if_pos c2).symm.trans hz
    refine AX.lload_n dX11_lowest_36 0 rfl rfl ?_
    refine AX.lload dX11_lowest_37 3 rfl ?_
    obtain ⟨c4, hz⟩ := ite_m hz
    refine AX.ldiv dX11_lowest_39 c4 ?_
    refine AX.goto (tgt := 47) dX11_lowest_40 rfl ?_
    exact AX.lreturn dX11_lowest_47 rfl (kz (P := fun z => Q (some (.long z)) σ) hz hk)
theorem xX11_lowest {G : ag_G} (p0 : Int64) (p1 : Int64) (p2 : Int32) (σ : St) {z : Int64} (hz : fX11_lowest p0 p1 p2 = some z) : AC G yX11_lowest mX11_lowest 0 0 [.long p0, .long p1, .int p2] σ (fun v σ1 => v = some (.long z) ∧ σ1 = σ) := AC.of (plainFor_of_name (by decide)) rfl (Nat.le_of_ble_eq_true rfl) (wfX11_lowest p0 p1 p2 σ hz ⟨rfl, rfl⟩)
noncomputable def fX11_type (p0 : Int32) (σ : St) : Option (Int32 × St) :=
  (fX11_in p0 (0 : Int32) (255 : Int32)).bind fun q1 => if q1 = (0 : Int32) then some ((-2 : Int32), σ) else if (σ.1 44 1) = (60 : Int32) then some ((-4 : Int32), σ) else if inb (σ.1 44 1) 60 = true then some (((σ.1 44 1) + (1 : Int32)), (sI (sI σ 45 ((σ.1 44 1).toNatClampNeg) p0) 44 1 ((σ.1 44 1) + (1 : Int32)))) else none
theorem wfX11_type {G : ag_G} (p0 : Int32) (σ : St) {z : Int32 × St} (hz : fX11_type p0 σ = some z) {Q : Option Value → St → Prop} (hk : Q (some (.int z.1)) z.2) : AX G mX11_type 1 22 0 [(0, .ref (G.2.2.1 44)), (1, .int p0)] [] σ Q := by
  unfold fX11_type at hz
  refine AX.iload_n dX11_type_0 1 rfl rfl ?_
  refine AX.iconst dX11_type_1 ic_0 ?_
  refine AX.sipush dX11_type_2 sp_255 ?_
  obtain ⟨q1, hq1, hz⟩ := obind hz
  refine AX.callSw (As := [.int p0, .int 0, .int 255]) (rest := []) (w := some (.int q1)) (st' := [.int q1]) dX11_type_5 mlRX11_89 ylX11_in ysX11_in rfl rfl (Nat.le_of_ble_eq_true rfl) ⟨Nat.le_of_ble_eq_true rfl, Nat.le_of_ble_eq_true rfl⟩ (xX11_in p0 (0 : Int32) (255 : Int32) σ hq1) rfl ?_
  refine AX.if_ne (tgt := 14) dX11_type_8 rfl (fun c2 => ?_) (fun c2 => ?_)
  · replace hz := (if_neg c2).symm.trans hz
    refine AX.aload_n dX11_type_14 0 rfl rfl ?_
    refine AX.getIE (v := σ.1 44 1) dX11_type_15 flRX11_93 rfl rfl rfl ?_
    refine AX.bipush dX11_type_18 bp_60 ?_
    refine AX.icmp_ne (tgt := 26) dX11_type_20 rfl (fun c3 => ?_) (fun c3 => ?_)
    · replace hz := (if_neg c3).symm.trans hz
      refine AX.aload_n dX11_type_26 0 rfl rfl ?_
      refine AX.getR dX11_type_27 flRX11_7 rfl rfl ?_
      refine AX.aload_n dX11_type_30 0 rfl rfl ?_
      refine AX.getIE (v := σ.1 44 1) dX11_type_31 flRX11_93 rfl rfl rfl ?_
      refine AX.iload_n dX11_type_34 1 rfl rfl ?_
      obtain ⟨b4, hz⟩ := ite_n hz
      refine AX.iast dX11_type_35 rfl b4 ?_
      refine AX.aload_n dX11_type_36 0 rfl rfl ?_
      refine AX.dup dX11_type_37 rfl ?_
      refine AX.getIE (v := σ.1 44 1) dX11_type_38 flRX11_93 rfl rfl rfl ?_
      refine AX.iconst dX11_type_41 ic_1 ?_
      refine AX.iadd dX11_type_42 ?_
      refine AX.putI dX11_type_43 fpRX11_93 rfl rfl (vp_nar_int _) rfl ?_
      refine AX.aload_n dX11_type_46 0 rfl rfl ?_
      refine AX.getIE (v := (σ.1 44 1) + (1 : Int32)) dX11_type_47 flRX11_93 rfl rfl rfl ?_
      exact AX.ireturn dX11_type_50 rfl (vp_nar_int _) (kz (P := fun z => Q (some (.int z.1)) z.2) hz hk)
    · replace hz := (if_pos c3).symm.trans hz
      refine AX.bipush dX11_type_23 bp_m4 ?_
      exact AX.ireturn dX11_type_25 rfl (vp_nar_int _) (kz (P := fun z => Q (some (.int z.1)) z.2) hz hk)
  · replace hz := (if_pos c2).symm.trans hz
    refine AX.bipush dX11_type_11 bp_m2 ?_
    exact AX.ireturn dX11_type_13 rfl (vp_nar_int _) (kz (P := fun z => Q (some (.int z.1)) z.2) hz hk)
theorem xX11_type {G : ag_G} (p0 : Int32) (σ : St) {z : Int32 × St} (hz : fX11_type p0 σ = some z) : AC G yX11_type mX11_type 1 22 [.ref (G.2.2.1 44), .int p0] σ (fun v σ1 => v = some (.int z.1) ∧ σ1 = z.2) := AC.of (plainFor_of_name (by decide)) rfl (Nat.le_of_ble_eq_true rfl) (wfX11_type p0 σ hz ⟨rfl, rfl⟩)
noncomputable def fX11_wipe  (σ : St) : Option (Int32 × St) :=
  ltb (σ.1 44 1) fun x1 => some (x1, (sI σ 44 1 0))
theorem wfX11_wipe {G : ag_G}  (σ : St) {z : Int32 × St} (hz : fX11_wipe  σ = some z) {Q : Option Value → St → Prop} (hk : Q (some (.int z.1)) z.2) : AX G mX11_wipe 0 0 0 [(0, .ref (G.2.2.1 44))] [] σ Q := by
  unfold fX11_wipe at hz
  refine AX.aload_n dX11_wipe_0 0 rfl rfl ?_
  refine AX.getIE (v := σ.1 44 1) dX11_wipe_1 flRX11_93 rfl rfl rfl ?_
  obtain ⟨x1, hx1, hz⟩ := ltb_e hz
  refine AX.topI hx1 ?_
  refine AX.istore_n (ls' := [(0, .ref (G.2.2.1 44)), (1, .int x1)]) dX11_wipe_4 rfl (Nat.le_of_ble_eq_true rfl) rfl ?_
  refine AX.aload_n dX11_wipe_5 0 rfl rfl ?_
  refine AX.iconst dX11_wipe_6 ic_0 ?_
  refine AX.putI dX11_wipe_7 fpRX11_93 rfl rfl (vp_nar_int _) rfl ?_
  refine AX.iload_n dX11_wipe_10 1 rfl rfl ?_
  exact AX.ireturn dX11_wipe_11 rfl (vp_nar_int _) (kz (P := fun z => Q (some (.int z.1)) z.2) hz hk)
theorem xX11_wipe {G : ag_G}  (σ : St) {z : Int32 × St} (hz : fX11_wipe  σ = some z) : AC G yX11_wipe mX11_wipe 0 0 [.ref (G.2.2.1 44)] σ (fun v σ1 => v = some (.int z.1) ∧ σ1 = z.2) := AC.of (plainFor_of_name (by decide)) rfl (Nat.le_of_ble_eq_true rfl) (wfX11_wipe  σ hz ⟨rfl, rfl⟩)
noncomputable def fX11_undo  (σ : St) : Option (Int32 × St) :=
  if (σ.1 44 1) = (0 : Int32) then some ((-3 : Int32), σ) else some (((σ.1 44 1) - (1 : Int32)), (sI σ 44 1 ((σ.1 44 1) - (1 : Int32))))
theorem wfX11_undo {G : ag_G}  (σ : St) {z : Int32 × St} (hz : fX11_undo  σ = some z) {Q : Option Value → St → Prop} (hk : Q (some (.int z.1)) z.2) : AX G mX11_undo 0 0 0 [(0, .ref (G.2.2.1 44))] [] σ Q := by
  unfold fX11_undo at hz
  refine AX.aload_n dX11_undo_0 0 rfl rfl ?_
  refine AX.getIE (v := σ.1 44 1) dX11_undo_1 flRX11_93 rfl rfl rfl ?_
  refine AX.if_ne (tgt := 10) dX11_undo_4 rfl (fun c1 => ?_) (fun c1 => ?_)
  · replace hz := (if_neg c1).symm.trans hz
    refine AX.aload_n dX11_undo_10 0 rfl rfl ?_
    refine AX.dup dX11_undo_11 rfl ?_
    refine AX.getIE (v := σ.1 44 1) dX11_undo_12 flRX11_93 rfl rfl rfl ?_
    refine AX.iconst dX11_undo_15 ic_1 ?_
    refine AX.isub dX11_undo_16 ?_
    refine AX.putI dX11_undo_17 fpRX11_93 rfl rfl (vp_nar_int _) rfl ?_
    refine AX.aload_n dX11_undo_20 0 rfl rfl ?_
    refine AX.getIE (v := (σ.1 44 1) - (1 : Int32)) dX11_undo_21 flRX11_93 rfl rfl rfl ?_
    exact AX.ireturn dX11_undo_24 rfl (vp_nar_int _) (kz (P := fun z => Q (some (.int z.1)) z.2) hz hk)
  · replace hz := (if_pos c1).symm.trans hz
    refine AX.bipush dX11_undo_7 bp_m3 ?_
    exact AX.ireturn dX11_undo_9 rfl (vp_nar_int _) (kz (P := fun z => Q (some (.int z.1)) z.2) hz hk)
theorem xX11_undo {G : ag_G}  (σ : St) {z : Int32 × St} (hz : fX11_undo  σ = some z) : AC G yX11_undo mX11_undo 0 0 [.ref (G.2.2.1 44)] σ (fun v σ1 => v = some (.int z.1) ∧ σ1 = z.2) := AC.of (plainFor_of_name (by decide)) rfl (Nat.le_of_ble_eq_true rfl) (wfX11_undo  σ hz ⟨rfl, rfl⟩)
noncomputable def fX11_adds_j85 (t1 : Int32) (t2 : Int32) (σ : St) : Option (St) :=
  some (sI (sI σ 44 6 (t1 + t2)) 44 2 ((σ.1 44 2) + (1 : Int32)))
theorem wfX11_adds_j85 {G : ag_G} (t1 : Int32) (t2 : Int32) (σ : St) {z : St} (hz : fX11_adds_j85 t1 t2 σ = some z) {Q : Option Value → St → Prop} (hk : Q (none) z) : AX G mX11_adds 0 0 85 [(0, .ref (G.2.2.1 44))] [.int t2, .int t1, .ref (G.2.2.1 44)] σ Q := by
  unfold fX11_adds_j85 at hz
  refine AX.iadd dX11_adds_85 ?_
  refine AX.putI dX11_adds_86 fpRX11_103 rfl rfl (vp_nar_int _) rfl ?_
  refine AX.aload_n dX11_adds_89 0 rfl rfl ?_
  refine AX.dup dX11_adds_90 rfl ?_
  refine AX.getIE (v := σ.1 44 2) dX11_adds_91 flRX11_97 rfl rfl rfl ?_
  refine AX.iconst dX11_adds_94 ic_1 ?_
  refine AX.iadd dX11_adds_95 ?_
  refine AX.putI dX11_adds_96 fpRX11_97 rfl rfl (vp_nar_int _) rfl ?_
  exact AX.vreturn dX11_adds_99 rfl (kz (P := fun z => Q (none) z) hz hk)
noncomputable def fX11_adds_j70 (l1 : Int32) (σ : St) : Option (St) :=
  if (3 : Int32) ≤ l1 then fX11_adds_j85 (σ.1 44 6) 0 σ else fX11_adds_j85 (σ.1 44 6) 1 σ
theorem wfX11_adds_j70 {G : ag_G} (l1 : Int32) (σ : St) {z : St} (hz : fX11_adds_j70 l1 σ = some z) {Q : Option Value → St → Prop} (hk : Q (none) z) : AX G mX11_adds 0 0 70 [(0, .ref (G.2.2.1 44)), (1, .int l1)] [] σ Q := by
  unfold fX11_adds_j70 at hz
  refine AX.aload_n dX11_adds_70 0 rfl rfl ?_
  refine AX.dup dX11_adds_71 rfl ?_
  refine AX.getIE (v := σ.1 44 6) dX11_adds_72 flRX11_103 rfl rfl rfl ?_
  refine AX.iload_n dX11_adds_75 1 rfl rfl ?_
  refine AX.iconst dX11_adds_76 ic_3 ?_
  refine AX.icmp_ge (tgt := 84) dX11_adds_77 rfl (fun c1 => ?_) (fun c1 => ?_)
  · replace hz := (if_pos c1).symm.trans hz
    refine AX.iconst dX11_adds_84 ic_0 ?_
    exact AX.sub (ls' := [(0, .ref (G.2.2.1 44))]) [0] rfl (wfX11_adds_j85 (σ.1 44 6) 0 σ hz hk)
  · replace hz := (if_neg c1).symm.trans hz
    refine AX.iconst dX11_adds_80 ic_1 ?_
    refine AX.goto (tgt := 85) dX11_adds_81 rfl ?_
    exact AX.sub (ls' := [(0, .ref (G.2.2.1 44))]) [0] rfl (wfX11_adds_j85 (σ.1 44 6) 1 σ hz hk)
noncomputable def fX11_adds_j41 (l1 : Int32) (t1 : Int32) (t2 : Int32) (σ : St) : Option (St) :=
  if inb t1 100 = true then if l1 = (4 : Int32) then if inb (σ.1 44 7) 7 = true then fX11_adds_j70 l1 (sI (sI (sI σ 48 t1.toNatClampNeg t2) 49 ((σ.1 44 7).toNatClampNeg) (σ.1 44 2)) 44 7 ((σ.1 44 7) + (1 : Int32))) else none else fX11_adds_j70 l1 (sI σ 48 t1.toNatClampNeg t2) else none
theorem wfX11_adds_j41 {G : ag_G} (l1 : Int32) (t1 : Int32) (t2 : Int32) (σ : St) {z : St} (hz : fX11_adds_j41 l1 t1 t2 σ = some z) {Q : Option Value → St → Prop} (hk : Q (none) z) : AX G mX11_adds 0 0 41 [(0, .ref (G.2.2.1 44)), (1, .int l1)] [.int t2, .int t1, .ref (G.2.2.1 48)] σ Q := by
  unfold fX11_adds_j41 at hz
  obtain ⟨b1, hz⟩ := ite_n hz
  refine AX.iast dX11_adds_41 rfl b1 ?_
  refine AX.iload_n dX11_adds_42 1 rfl rfl ?_
  refine AX.iconst dX11_adds_43 ic_4 ?_
  refine AX.icmp_ne (tgt := 70) dX11_adds_44 rfl (fun c2 => ?_) (fun c2 => ?_)
  · replace hz := (if_neg c2).symm.trans hz
    exact AX.sub (ls' := [(0, .ref (G.2.2.1 44)), (1, .int l1)]) [0, 1] rfl (wfX11_adds_j70 l1 (sI σ 48 t1.toNatClampNeg t2) hz hk)
  · replace hz := (if_pos c2).symm.trans hz
    refine AX.aload_n dX11_adds_47 0 rfl rfl ?_
    refine AX.getR dX11_adds_48 flRX11_22 rfl rfl ?_
    refine AX.aload_n dX11_adds_51 0 rfl rfl ?_
    refine AX.getIE (v := σ.1 44 7) dX11_adds_52 flRX11_100 rfl rfl rfl ?_
    refine AX.aload_n dX11_adds_55 0 rfl rfl ?_
    refine AX.getIE (v := σ.1 44 2) dX11_adds_56 flRX11_97 rfl rfl rfl ?_
    obtain ⟨b3, hz⟩ := ite_n hz
    refine AX.iast dX11_adds_59 rfl b3 ?_
    refine AX.aload_n dX11_adds_60 0 rfl rfl ?_
    refine AX.dup dX11_adds_61 rfl ?_
    refine AX.getIE (v := σ.1 44 7) dX11_adds_62 flRX11_100 rfl rfl rfl ?_
    refine AX.iconst dX11_adds_65 ic_1 ?_
    refine AX.iadd dX11_adds_66 ?_
    refine AX.putI dX11_adds_67 fpRX11_100 rfl rfl (vp_nar_int _) rfl ?_
    exact AX.sub (ls' := [(0, .ref (G.2.2.1 44)), (1, .int l1)]) [0, 1] rfl (wfX11_adds_j70 l1 (sI (sI (sI σ 48 t1.toNatClampNeg t2) 49 ((σ.1 44 7).toNatClampNeg) (σ.1 44 2)) 44 7 ((σ.1 44 7) + (1 : Int32))) hz hk)
noncomputable def fX11_adds (p0 : Int32) (p1 : Int32) (σ : St) : Option (St) :=
  if inb (σ.1 44 2) 100 = true then if p0 = (4 : Int32) then fX11_adds_j41 p0 (σ.1 44 2) (σ.1 44 7) (sI (sI σ 46 ((σ.1 44 2).toNatClampNeg) p0) 47 ((σ.1 44 2).toNatClampNeg) p1) else fX11_adds_j41 p0 (σ.1 44 2) (-1) (sI (sI σ 46 ((σ.1 44 2).toNatClampNeg) p0) 47 ((σ.1 44 2).toNatClampNeg) p1) else none
theorem wfX11_adds {G : ag_G} (p0 : Int32) (p1 : Int32) (σ : St) {z : St} (hz : fX11_adds p0 p1 σ = some z) {Q : Option Value → St → Prop} (hk : Q (none) z) : AX G mX11_adds 0 0 0 [(0, .ref (G.2.2.1 44)), (1, .int p0), (2, .int p1)] [] σ Q := by
  unfold fX11_adds at hz
  refine AX.aload_n dX11_adds_0 0 rfl rfl ?_
  refine AX.getR dX11_adds_1 flRX11_13 rfl rfl ?_
  refine AX.aload_n dX11_adds_4 0 rfl rfl ?_
  refine AX.getIE (v := σ.1 44 2) dX11_adds_5 flRX11_97 rfl rfl rfl ?_
  refine AX.iload_n dX11_adds_8 1 rfl rfl ?_
  obtain ⟨b1, hz⟩ := ite_n hz
  refine AX.iast dX11_adds_9 rfl b1 ?_
  refine AX.aload_n dX11_adds_10 0 rfl rfl ?_
  refine AX.getR dX11_adds_11 flRX11_16 rfl rfl ?_
  refine AX.aload_n dX11_adds_14 0 rfl rfl ?_
  refine AX.getIE (v := σ.1 44 2) dX11_adds_15 flRX11_97 rfl rfl rfl ?_
  refine AX.iload_n dX11_adds_18 2 rfl rfl ?_
  refine AX.iast dX11_adds_19 rfl b1 ?_
  refine AX.aload_n dX11_adds_20 0 rfl rfl ?_
  refine AX.getR dX11_adds_21 flRX11_19 rfl rfl ?_
  refine AX.aload_n dX11_adds_24 0 rfl rfl ?_
  refine AX.getIE (v := σ.1 44 2) dX11_adds_25 flRX11_97 rfl rfl rfl ?_
  refine AX.iload_n dX11_adds_28 1 rfl rfl ?_
  refine AX.iconst dX11_adds_29 ic_4 ?_
  refine AX.icmp_ne (tgt := 40) dX11_adds_30 rfl (fun c2 => ?_) (fun c2 => ?_)
  · replace hz := (if_neg c2).symm.trans hz
    refine AX.iconst dX11_adds_40 ic_m1 ?_
    exact AX.sub (ls' := [(0, .ref (G.2.2.1 44)), (1, .int p0)]) [0, 1] rfl (wfX11_adds_j41 p0 (σ.1 44 2) (-1) (sI (sI σ 46 ((σ.1 44 2).toNatClampNeg) p0) 47 ((σ.1 44 2).toNatClampNeg) p1) hz hk)
  · replace hz := (if_pos c2).symm.trans hz
    refine AX.aload_n dX11_adds_33 0 rfl rfl ?_
    refine AX.getIE (v := σ.1 44 7) dX11_adds_34 flRX11_100 rfl rfl rfl ?_
    refine AX.goto (tgt := 41) dX11_adds_37 rfl ?_
    exact AX.sub (ls' := [(0, .ref (G.2.2.1 44)), (1, .int p0)]) [0, 1] rfl (wfX11_adds_j41 p0 (σ.1 44 2) (σ.1 44 7) (sI (sI σ 46 ((σ.1 44 2).toNatClampNeg) p0) 47 ((σ.1 44 2).toNatClampNeg) p1) hz hk)
theorem xX11_adds {G : ag_G} (p0 : Int32) (p1 : Int32) (σ : St) {z : St} (hz : fX11_adds p0 p1 σ = some z) : AC G yX11_adds mX11_adds 0 0 [.ref (G.2.2.1 44), .int p0, .int p1] σ (fun v σ1 => v = none ∧ σ1 = z) := AC.of (plainFor_of_name (by decide)) rfl (Nat.le_of_ble_eq_true rfl) (wfX11_adds p0 p1 σ hz ⟨rfl, rfl⟩)
noncomputable def fX11_figureAt_j21 (t0 : Int32) (σ : St) : Option (Int32) :=
  (fX11_in t0 (0 : Int32) (9 : Int32)).bind fun q1 => if q1 = (0 : Int32) then some (-1 : Int32) else some t0
theorem wfX11_figureAt_j21 {G : ag_G} (t0 : Int32) (σ : St) {z : Int32} (hz : fX11_figureAt_j21 t0 σ = some z) {Q : Option Value → St → Prop} (hk : Q (some (.int z)) σ) : AX G mX11_figureAt 1 22 21 [] [.int t0] σ Q := by
  unfold fX11_figureAt_j21 at hz
  refine AX.istore_n (ls' := [(2, .int t0)]) dX11_figureAt_21 rfl (Nat.le_of_ble_eq_true rfl) rfl ?_
  refine AX.iload_n dX11_figureAt_22 0 rfl rfl ?_
  refine AX.iconst dX11_figureAt_23 ic_0 ?_
  refine AX.bipush dX11_figureAt_24 bp_9 ?_
  obtain ⟨q1, hq1, hz⟩ := obind hz
  refine AX.callSw (As := [.int t0, .int 0, .int 9]) (rest := []) (w := some (.int q1)) (st' := [.int q1]) dX11_figureAt_26 mlRX11_89 ylX11_in ysX11_in rfl rfl (Nat.le_of_ble_eq_true rfl) ⟨Nat.le_of_ble_eq_true rfl, Nat.le_of_ble_eq_true rfl⟩ (xX11_in t0 (0 : Int32) (9 : Int32) σ hq1) rfl ?_
  refine AX.if_eq (tgt := 36) dX11_figureAt_29 rfl (fun c2 => ?_) (fun c2 => ?_)
  · replace hz := (if_pos c2).symm.trans hz
    refine AX.iconst dX11_figureAt_36 ic_m1 ?_
    exact AX.ireturn dX11_figureAt_37 rfl (vp_nar_int _) (kz (P := fun z => Q (some (.int z)) σ) hz hk)
  · replace hz := (if_neg c2).symm.trans hz
    refine AX.iload_n dX11_figureAt_32 0 rfl rfl ?_
    refine AX.goto (tgt := 37) dX11_figureAt_33 rfl ?_
    exact AX.ireturn dX11_figureAt_37 rfl (vp_nar_int _) (kz (P := fun z => Q (some (.int z)) σ) hz hk)
noncomputable def fX11_figureAt (p0 : Int32) (σ : St) : Option (Int32) :=
  if (σ.1 44 1) ≤ p0 then fX11_figureAt_j21 (-1) σ else if inb p0 60 = true then fX11_figureAt_j21 ((σ.1 45 p0.toNatClampNeg) - (48 : Int32)) σ else none
theorem wfX11_figureAt {G : ag_G} (p0 : Int32) (σ : St) {z : Int32} (hz : fX11_figureAt p0 σ = some z) {Q : Option Value → St → Prop} (hk : Q (some (.int z)) σ) : AX G mX11_figureAt 1 22 0 [(0, .ref (G.2.2.1 44)), (1, .int p0)] [] σ Q := by
  unfold fX11_figureAt at hz
  refine AX.iload_n dX11_figureAt_0 1 rfl rfl ?_
  refine AX.aload_n dX11_figureAt_1 0 rfl rfl ?_
  refine AX.getIE (v := σ.1 44 1) dX11_figureAt_2 flRX11_93 rfl rfl rfl ?_
  refine AX.icmp_ge (tgt := 20) dX11_figureAt_5 rfl (fun c1 => ?_) (fun c1 => ?_)
  · replace hz := (if_pos c1).symm.trans hz
    refine AX.iconst dX11_figureAt_20 ic_m1 ?_
    exact AX.sub (ls' := []) [] rfl (wfX11_figureAt_j21 (-1) σ hz hk)
  · replace hz := (if_neg c1).symm.trans hz
    refine AX.aload_n dX11_figureAt_8 0 rfl rfl ?_
    refine AX.getR dX11_figureAt_9 flRX11_7 rfl rfl ?_
    refine AX.iload_n dX11_figureAt_12 1 rfl rfl ?_
    obtain ⟨b2, hz⟩ := ite_n hz
    refine AX.ialdE (v := σ.1 45 p0.toNatClampNeg) dX11_figureAt_13 rfl b2 rfl ?_
    refine AX.bipush dX11_figureAt_14 bp_48 ?_
    refine AX.isub dX11_figureAt_16 ?_
    refine AX.goto (tgt := 21) dX11_figureAt_17 rfl ?_
    exact AX.sub (ls' := []) [] rfl (wfX11_figureAt_j21 ((σ.1 45 p0.toNatClampNeg) - (48 : Int32)) σ hz hk)
theorem xX11_figureAt {G : ag_G} (p0 : Int32) (σ : St) {z : Int32} (hz : fX11_figureAt p0 σ = some z) : AC G yX11_figureAt mX11_figureAt 1 22 [.ref (G.2.2.1 44), .int p0] σ (fun v σ1 => v = some (.int z) ∧ σ1 = σ) := AC.of (plainFor_of_name (by decide)) rfl (Nat.le_of_ble_eq_true rfl) (wfX11_figureAt p0 σ hz ⟨rfl, rfl⟩)
noncomputable def fX11_readsPiece_j369 (l1 : Int32) (l2 : Int32) (σ : St) : Option ((Int32 × Int32 × St) ⊕ ((Int32 × St) ⊕ ((Int32 × Int32 × St) ⊕ ((Int32 × St) ⊕ ((Int32 × St) ⊕ ((Int32 × St) ⊕ (Int32 × St))))))) :=
  some (.inl (l1, l2, σ))
theorem wfX11_readsPiece_j369 {G : ag_G} (l1 : Int32) (l2 : Int32) (σ : St) {z : (Int32 × Int32 × St) ⊕ ((Int32 × St) ⊕ ((Int32 × Int32 × St) ⊕ ((Int32 × St) ⊕ ((Int32 × St) ⊕ ((Int32 × St) ⊕ (Int32 × St))))))} (hz : fX11_readsPiece_j369 l1 l2 σ = some z) {Q : Option Value → St → Prop} (K : ((Int32 × Int32 × St) ⊕ ((Int32 × St) ⊕ ((Int32 × Int32 × St) ⊕ ((Int32 × St) ⊕ ((Int32 × St) ⊕ ((Int32 × St) ⊕ (Int32 × St))))))) → Prop) (hback : ∀ a : Int32 × Int32 × St, K (.inl a) → AX G mX11_readsPiece 2 44 30 [(0, .ref (G.2.2.1 44)), (1, .int a.1), (2, .int a.2.1)] [] a.2.2 Q) (hk : K z) : AX G mX11_readsPiece 2 44 369 [(0, .ref (G.2.2.1 44)), (1, .int l1), (2, .int l2)] [] σ Q := by
  unfold fX11_readsPiece_j369 at hz
  refine AX.goto (tgt := 30) dX11_readsPiece_369 rfl ?_
  exact AX.sub (ls' := [(0, .ref (G.2.2.1 44)), (1, .int l1), (2, .int l2)]) [0, 1, 2] rfl (hback (l1, l2, σ) (kz (P := K) hz hk))
noncomputable def fX11_readsPiece_j367 (l2 : Int32) (t0 : Int32) (t1 : Int32) (σ : St) : Option ((Int32 × Int32 × St) ⊕ ((Int32 × St) ⊕ ((Int32 × Int32 × St) ⊕ ((Int32 × St) ⊕ ((Int32 × St) ⊕ ((Int32 × St) ⊕ (Int32 × St))))))) :=
  ltb (t0 + t1) fun x1 => fX11_readsPiece_j369 x1 l2 σ
theorem wfX11_readsPiece_j367 {G : ag_G} (l2 : Int32) (t0 : Int32) (t1 : Int32) (σ : St) {z : (Int32 × Int32 × St) ⊕ ((Int32 × St) ⊕ ((Int32 × Int32 × St) ⊕ ((Int32 × St) ⊕ ((Int32 × St) ⊕ ((Int32 × St) ⊕ (Int32 × St))))))} (hz : fX11_readsPiece_j367 l2 t0 t1 σ = some z) {Q : Option Value → St → Prop} (K : ((Int32 × Int32 × St) ⊕ ((Int32 × St) ⊕ ((Int32 × Int32 × St) ⊕ ((Int32 × St) ⊕ ((Int32 × St) ⊕ ((Int32 × St) ⊕ (Int32 × St))))))) → Prop) (hback : ∀ a : Int32 × Int32 × St, K (.inl a) → AX G mX11_readsPiece 2 44 30 [(0, .ref (G.2.2.1 44)), (1, .int a.1), (2, .int a.2.1)] [] a.2.2 Q) (hk : K z) : AX G mX11_readsPiece 2 44 367 [(0, .ref (G.2.2.1 44)), (2, .int l2)] [.int t1, .int t0] σ Q := by
  unfold fX11_readsPiece_j367 at hz
  refine AX.iadd dX11_readsPiece_367 ?_
  obtain ⟨x1, hx1, hz⟩ := ltb_e hz
  refine AX.topI hx1 ?_
  refine AX.istore_n (ls' := [(0, .ref (G.2.2.1 44)), (1, .int x1), (2, .int l2)]) dX11_readsPiece_368 rfl (Nat.le_of_ble_eq_true rfl) rfl ?_
  exact AX.sub (ls' := [(0, .ref (G.2.2.1 44)), (1, .int x1), (2, .int l2)]) [0, 1, 2] rfl (wfX11_readsPiece_j369 x1 l2 σ hz K hback hk)
noncomputable def fX11_readsPiece_j354 (l1 : Int32) (l4 : Int32) (t0 : Int32) (σ : St) : Option ((Int32 × Int32 × St) ⊕ ((Int32 × St) ⊕ ((Int32 × Int32 × St) ⊕ ((Int32 × St) ⊕ ((Int32 × St) ⊕ ((Int32 × St) ⊕ (Int32 × St))))))) :=
  if l4 = (4 : Int32) then fX11_readsPiece_j367 t0 l1 2 σ else fX11_readsPiece_j367 t0 l1 1 σ
theorem wfX11_readsPiece_j354 {G : ag_G} (l1 : Int32) (l4 : Int32) (t0 : Int32) (σ : St) {z : (Int32 × Int32 × St) ⊕ ((Int32 × St) ⊕ ((Int32 × Int32 × St) ⊕ ((Int32 × St) ⊕ ((Int32 × St) ⊕ ((Int32 × St) ⊕ (Int32 × St))))))} (hz : fX11_readsPiece_j354 l1 l4 t0 σ = some z) {Q : Option Value → St → Prop} (K : ((Int32 × Int32 × St) ⊕ ((Int32 × St) ⊕ ((Int32 × Int32 × St) ⊕ ((Int32 × St) ⊕ ((Int32 × St) ⊕ ((Int32 × St) ⊕ (Int32 × St))))))) → Prop) (hback : ∀ a : Int32 × Int32 × St, K (.inl a) → AX G mX11_readsPiece 2 44 30 [(0, .ref (G.2.2.1 44)), (1, .int a.1), (2, .int a.2.1)] [] a.2.2 Q) (hk : K z) : AX G mX11_readsPiece 2 44 354 [(0, .ref (G.2.2.1 44)), (1, .int l1), (4, .int l4)] [.int t0] σ Q := by
  unfold fX11_readsPiece_j354 at hz
  refine AX.istore_n (ls' := [(0, .ref (G.2.2.1 44)), (1, .int l1), (2, .int t0), (4, .int l4)]) dX11_readsPiece_354 rfl (Nat.le_of_ble_eq_true rfl) rfl ?_
  refine AX.iload_n dX11_readsPiece_355 1 rfl rfl ?_
  refine AX.iload dX11_readsPiece_356 3 rfl ?_
  refine AX.iconst dX11_readsPiece_358 ic_4 ?_
  refine AX.icmp_ne (tgt := 366) dX11_readsPiece_359 rfl (fun c1 => ?_) (fun c1 => ?_)
  · replace hz := (if_neg c1).symm.trans hz
    refine AX.iconst dX11_readsPiece_366 ic_1 ?_
    exact AX.sub (ls' := [(0, .ref (G.2.2.1 44)), (2, .int t0)]) [0, 2] rfl (wfX11_readsPiece_j367 t0 l1 1 σ hz K hback hk)
  · replace hz := (if_pos c1).symm.trans hz
    refine AX.iconst dX11_readsPiece_362 ic_2 ?_
    refine AX.goto (tgt := 367) dX11_readsPiece_363 rfl ?_
    exact AX.sub (ls' := [(0, .ref (G.2.2.1 44)), (2, .int t0)]) [0, 2] rfl (wfX11_readsPiece_j367 t0 l1 2 σ hz K hback hk)
noncomputable def fX11_readsPiece_j340 (l1 : Int32) (l4 : Int32) (t1 : Int32) (t2 : Int32) (σ : St) : Option ((Int32 × Int32 × St) ⊕ ((Int32 × St) ⊕ ((Int32 × Int32 × St) ⊕ ((Int32 × St) ⊕ ((Int32 × St) ⊕ ((Int32 × St) ⊕ (Int32 × St))))))) :=
  (fX11_adds t1 t2 σ).bind fun q1 => if l4 = (5 : Int32) then fX11_readsPiece_j354 l1 l4 1 q1 else fX11_readsPiece_j354 l1 l4 0 q1
theorem wfX11_readsPiece_j340 {G : ag_G} (l1 : Int32) (l4 : Int32) (t1 : Int32) (t2 : Int32) (σ : St) {z : (Int32 × Int32 × St) ⊕ ((Int32 × St) ⊕ ((Int32 × Int32 × St) ⊕ ((Int32 × St) ⊕ ((Int32 × St) ⊕ ((Int32 × St) ⊕ (Int32 × St))))))} (hz : fX11_readsPiece_j340 l1 l4 t1 t2 σ = some z) {Q : Option Value → St → Prop} (K : ((Int32 × Int32 × St) ⊕ ((Int32 × St) ⊕ ((Int32 × Int32 × St) ⊕ ((Int32 × St) ⊕ ((Int32 × St) ⊕ ((Int32 × St) ⊕ (Int32 × St))))))) → Prop) (hback : ∀ a : Int32 × Int32 × St, K (.inl a) → AX G mX11_readsPiece 2 44 30 [(0, .ref (G.2.2.1 44)), (1, .int a.1), (2, .int a.2.1)] [] a.2.2 Q) (hk : K z) : AX G mX11_readsPiece 2 44 340 [(0, .ref (G.2.2.1 44)), (1, .int l1), (4, .int l4)] [.int t2, .int t1, .ref (G.2.2.1 44)] σ Q := by
  unfold fX11_readsPiece_j340 at hz
  obtain ⟨q1, hq1, hz⟩ := obind hz
  refine AX.callVw (r := 44) (As := [.int t1, .int t2]) (rest := []) (w := none) (st' := []) dX11_readsPiece_340 mlRX11_110 ylX11_adds yvX11_adds rfl rfl rfl (Nat.le_of_ble_eq_true rfl) ⟨Nat.le_of_ble_eq_true rfl, Nat.le_of_ble_eq_true rfl⟩ (xX11_adds t1 t2 σ hq1) rfl ?_
  refine AX.iload dX11_readsPiece_343 2 rfl ?_
  refine AX.iconst dX11_readsPiece_345 ic_5 ?_
  refine AX.icmp_ne (tgt := 353) dX11_readsPiece_346 rfl (fun c2 => ?_) (fun c2 => ?_)
  · replace hz := (if_neg c2).symm.trans hz
    refine AX.iconst dX11_readsPiece_353 ic_0 ?_
    exact AX.sub (ls' := [(0, .ref (G.2.2.1 44)), (1, .int l1), (4, .int l4)]) [0, 1, 2] rfl (wfX11_readsPiece_j354 l1 l4 0 q1 hz K hback hk)
  · replace hz := (if_pos c2).symm.trans hz
    refine AX.iconst dX11_readsPiece_349 ic_1 ?_
    refine AX.goto (tgt := 354) dX11_readsPiece_350 rfl ?_
    exact AX.sub (ls' := [(0, .ref (G.2.2.1 44)), (1, .int l1), (4, .int l4)]) [0, 1, 2] rfl (wfX11_readsPiece_j354 l1 l4 1 q1 hz K hback hk)
noncomputable def fX11_readsPiece_j325 (l1 : Int32) (l4 : Int32) (l5 : Int32) (σ : St) : Option ((Int32 × Int32 × St) ⊕ ((Int32 × St) ⊕ ((Int32 × Int32 × St) ⊕ ((Int32 × St) ⊕ ((Int32 × St) ⊕ ((Int32 × St) ⊕ (Int32 × St))))))) :=
  if l4 = (4 : Int32) then fX11_readsPiece_j340 l1 l4 l4 l5 σ else fX11_readsPiece_j340 l1 l4 l4 (-1) σ
theorem wfX11_readsPiece_j325 {G : ag_G} (l1 : Int32) (l4 : Int32) (l5 : Int32) (σ : St) {z : (Int32 × Int32 × St) ⊕ ((Int32 × St) ⊕ ((Int32 × Int32 × St) ⊕ ((Int32 × St) ⊕ ((Int32 × St) ⊕ ((Int32 × St) ⊕ (Int32 × St))))))} (hz : fX11_readsPiece_j325 l1 l4 l5 σ = some z) {Q : Option Value → St → Prop} (K : ((Int32 × Int32 × St) ⊕ ((Int32 × St) ⊕ ((Int32 × Int32 × St) ⊕ ((Int32 × St) ⊕ ((Int32 × St) ⊕ ((Int32 × St) ⊕ (Int32 × St))))))) → Prop) (hback : ∀ a : Int32 × Int32 × St, K (.inl a) → AX G mX11_readsPiece 2 44 30 [(0, .ref (G.2.2.1 44)), (1, .int a.1), (2, .int a.2.1)] [] a.2.2 Q) (hk : K z) : AX G mX11_readsPiece 2 44 325 [(0, .ref (G.2.2.1 44)), (1, .int l1), (4, .int l4), (5, .int l5)] [] σ Q := by
  unfold fX11_readsPiece_j325 at hz
  refine AX.aload_n dX11_readsPiece_325 0 rfl rfl ?_
  refine AX.iload dX11_readsPiece_326 2 rfl ?_
  refine AX.iload dX11_readsPiece_328 2 rfl ?_
  refine AX.iconst dX11_readsPiece_330 ic_4 ?_
  refine AX.icmp_ne (tgt := 339) dX11_readsPiece_331 rfl (fun c1 => ?_) (fun c1 => ?_)
  · replace hz := (if_neg c1).symm.trans hz
    refine AX.iconst dX11_readsPiece_339 ic_m1 ?_
    exact AX.sub (ls' := [(0, .ref (G.2.2.1 44)), (1, .int l1), (4, .int l4)]) [0, 1, 2] rfl (wfX11_readsPiece_j340 l1 l4 l4 (-1) σ hz K hback hk)
  · replace hz := (if_pos c1).symm.trans hz
    refine AX.iload dX11_readsPiece_334 3 rfl ?_
    refine AX.goto (tgt := 340) dX11_readsPiece_336 rfl ?_
    exact AX.sub (ls' := [(0, .ref (G.2.2.1 44)), (1, .int l1), (4, .int l4)]) [0, 1, 2] rfl (wfX11_readsPiece_j340 l1 l4 l4 l5 σ hz K hback hk)
noncomputable def fX11_readsPiece_j303 (l1 : Int32) (l4 : Int32) (t0 : Int32) (σ : St) : Option ((Int32 × Int32 × St) ⊕ ((Int32 × St) ⊕ ((Int32 × Int32 × St) ⊕ ((Int32 × St) ⊕ ((Int32 × St) ⊕ ((Int32 × St) ⊕ (Int32 × St))))))) :=
  if l4 = (4 : Int32) then (fX11_in t0 (0 : Int32) (3 : Int32)).bind fun q2 => if q2 = (0 : Int32) then some (.inr (.inr (.inr (.inr (.inr (.inl (l1, σ))))))) else fX11_readsPiece_j325 l1 l4 t0 σ else fX11_readsPiece_j325 l1 l4 t0 σ
theorem wfX11_readsPiece_j303 {G : ag_G} (l1 : Int32) (l4 : Int32) (t0 : Int32) (σ : St) {z : (Int32 × Int32 × St) ⊕ ((Int32 × St) ⊕ ((Int32 × Int32 × St) ⊕ ((Int32 × St) ⊕ ((Int32 × St) ⊕ ((Int32 × St) ⊕ (Int32 × St))))))} (hz : fX11_readsPiece_j303 l1 l4 t0 σ = some z) {Q : Option Value → St → Prop} (K : ((Int32 × Int32 × St) ⊕ ((Int32 × St) ⊕ ((Int32 × Int32 × St) ⊕ ((Int32 × St) ⊕ ((Int32 × St) ⊕ ((Int32 × St) ⊕ (Int32 × St))))))) → Prop) (hback : ∀ a : Int32 × Int32 × St, K (.inl a) → AX G mX11_readsPiece 2 44 30 [(0, .ref (G.2.2.1 44)), (1, .int a.1), (2, .int a.2.1)] [] a.2.2 Q) (hexit4 : ∀ a : Int32 × St, K (.inr (.inr (.inr (.inr (.inr (.inl a)))))) → AX G mX11_readsPiece 2 44 321 [(1, .int a.1)] [] a.2 Q) (hk : K z) : AX G mX11_readsPiece 2 44 303 [(0, .ref (G.2.2.1 44)), (1, .int l1), (4, .int l4)] [.int t0] σ Q := by
  unfold fX11_readsPiece_j303 at hz
  refine AX.istore (ls' := [(0, .ref (G.2.2.1 44)), (1, .int l1), (4, .int l4), (5, .int t0)]) dX11_readsPiece_303 (Nat.le_of_ble_eq_true rfl) rfl ?_
  refine AX.iload dX11_readsPiece_305 2 rfl ?_
  refine AX.iconst dX11_readsPiece_307 ic_4 ?_
  refine AX.icmp_ne (tgt := 325) dX11_readsPiece_308 rfl (fun c1 => ?_) (fun c1 => ?_)
  · replace hz := (if_neg c1).symm.trans hz
    exact AX.sub (ls' := [(0, .ref (G.2.2.1 44)), (1, .int l1), (4, .int l4), (5, .int t0)]) [0, 1, 2, 3] rfl (wfX11_readsPiece_j325 l1 l4 t0 σ hz K hback hk)
  · replace hz := (if_pos c1).symm.trans hz
    refine AX.iload dX11_readsPiece_311 3 rfl ?_
    refine AX.iconst dX11_readsPiece_313 ic_0 ?_
    refine AX.iconst dX11_readsPiece_314 ic_3 ?_
    obtain ⟨q2, hq2, hz⟩ := obind hz
    refine AX.callSw (As := [.int t0, .int 0, .int 3]) (rest := []) (w := some (.int q2)) (st' := [.int q2]) dX11_readsPiece_315 mlRX11_89 ylX11_in ysX11_in rfl rfl (Nat.le_of_ble_eq_true rfl) ⟨Nat.le_of_ble_eq_true rfl, Nat.le_of_ble_eq_true rfl⟩ (xX11_in t0 (0 : Int32) (3 : Int32) σ hq2) rfl ?_
    refine AX.if_ne (tgt := 325) dX11_readsPiece_318 rfl (fun c3 => ?_) (fun c3 => ?_)
    · replace hz := (if_neg c3).symm.trans hz
      exact AX.sub (ls' := [(0, .ref (G.2.2.1 44)), (1, .int l1), (4, .int l4), (5, .int t0)]) [0, 1, 2, 3] rfl (wfX11_readsPiece_j325 l1 l4 t0 σ hz K hback hk)
    · replace hz := (if_pos c3).symm.trans hz
      exact AX.sub (ls' := [(1, .int l1)]) [1] rfl (hexit4 (l1, σ) (kz (P := K) hz hk))
noncomputable def fX11_readsPiece_j302 (l1 : Int32) (l4 : Int32) (σ : St) : Option ((Int32 × Int32 × St) ⊕ ((Int32 × St) ⊕ ((Int32 × Int32 × St) ⊕ ((Int32 × St) ⊕ ((Int32 × St) ⊕ ((Int32 × St) ⊕ (Int32 × St))))))) :=
  fX11_readsPiece_j303 l1 l4 (-1) σ
theorem wfX11_readsPiece_j302 {G : ag_G} (l1 : Int32) (l4 : Int32) (σ : St) {z : (Int32 × Int32 × St) ⊕ ((Int32 × St) ⊕ ((Int32 × Int32 × St) ⊕ ((Int32 × St) ⊕ ((Int32 × St) ⊕ ((Int32 × St) ⊕ (Int32 × St))))))} (hz : fX11_readsPiece_j302 l1 l4 σ = some z) {Q : Option Value → St → Prop} (K : ((Int32 × Int32 × St) ⊕ ((Int32 × St) ⊕ ((Int32 × Int32 × St) ⊕ ((Int32 × St) ⊕ ((Int32 × St) ⊕ ((Int32 × St) ⊕ (Int32 × St))))))) → Prop) (hback : ∀ a : Int32 × Int32 × St, K (.inl a) → AX G mX11_readsPiece 2 44 30 [(0, .ref (G.2.2.1 44)), (1, .int a.1), (2, .int a.2.1)] [] a.2.2 Q) (hexit4 : ∀ a : Int32 × St, K (.inr (.inr (.inr (.inr (.inr (.inl a)))))) → AX G mX11_readsPiece 2 44 321 [(1, .int a.1)] [] a.2 Q) (hk : K z) : AX G mX11_readsPiece 2 44 302 [(0, .ref (G.2.2.1 44)), (1, .int l1), (4, .int l4)] [] σ Q := by
  unfold fX11_readsPiece_j302 at hz
  refine AX.iconst dX11_readsPiece_302 ic_m1 ?_
  exact AX.sub (ls' := [(0, .ref (G.2.2.1 44)), (1, .int l1), (4, .int l4)]) [0, 1, 2] rfl (wfX11_readsPiece_j303 l1 l4 (-1) σ hz K hback hexit4 hk)
noncomputable def fX11_readsPiece_j272 (l1 : Int32) (l4 : Int32) (σ : St) : Option ((Int32 × Int32 × St) ⊕ ((Int32 × St) ⊕ ((Int32 × Int32 × St) ⊕ ((Int32 × St) ⊕ ((Int32 × St) ⊕ ((Int32 × St) ⊕ (Int32 × St))))))) :=
  if l4 = (4 : Int32) then if (σ.1 44 1) ≤ (l1 + (1 : Int32)) then fX11_readsPiece_j302 l1 l4 σ else if inb (l1 + (1 : Int32)) 60 = true then fX11_readsPiece_j303 l1 l4 ((σ.1 45 ((l1 + (1 : Int32)).toNatClampNeg)) - (97 : Int32)) σ else none else fX11_readsPiece_j302 l1 l4 σ
theorem wfX11_readsPiece_j272 {G : ag_G} (l1 : Int32) (l4 : Int32) (σ : St) {z : (Int32 × Int32 × St) ⊕ ((Int32 × St) ⊕ ((Int32 × Int32 × St) ⊕ ((Int32 × St) ⊕ ((Int32 × St) ⊕ ((Int32 × St) ⊕ (Int32 × St))))))} (hz : fX11_readsPiece_j272 l1 l4 σ = some z) {Q : Option Value → St → Prop} (K : ((Int32 × Int32 × St) ⊕ ((Int32 × St) ⊕ ((Int32 × Int32 × St) ⊕ ((Int32 × St) ⊕ ((Int32 × St) ⊕ ((Int32 × St) ⊕ (Int32 × St))))))) → Prop) (hback : ∀ a : Int32 × Int32 × St, K (.inl a) → AX G mX11_readsPiece 2 44 30 [(0, .ref (G.2.2.1 44)), (1, .int a.1), (2, .int a.2.1)] [] a.2.2 Q) (hexit4 : ∀ a : Int32 × St, K (.inr (.inr (.inr (.inr (.inr (.inl a)))))) → AX G mX11_readsPiece 2 44 321 [(1, .int a.1)] [] a.2 Q) (hk : K z) : AX G mX11_readsPiece 2 44 272 [(0, .ref (G.2.2.1 44)), (1, .int l1), (4, .int l4)] [] σ Q := by
  unfold fX11_readsPiece_j272 at hz
  refine AX.iload dX11_readsPiece_272 2 rfl ?_
  refine AX.iconst dX11_readsPiece_274 ic_4 ?_
  refine AX.icmp_ne (tgt := 302) dX11_readsPiece_275 rfl (fun c1 => ?_) (fun c1 => ?_)
  · replace hz := (if_neg c1).symm.trans hz
    exact AX.sub (ls' := [(0, .ref (G.2.2.1 44)), (1, .int l1), (4, .int l4)]) [0, 1, 2] rfl (wfX11_readsPiece_j302 l1 l4 σ hz K hback hexit4 hk)
  · replace hz := (if_pos c1).symm.trans hz
    refine AX.iload_n dX11_readsPiece_278 1 rfl rfl ?_
    refine AX.iconst dX11_readsPiece_279 ic_1 ?_
    refine AX.iadd dX11_readsPiece_280 ?_
    refine AX.aload_n dX11_readsPiece_281 0 rfl rfl ?_
    refine AX.getIE (v := σ.1 44 1) dX11_readsPiece_282 flRX11_93 rfl rfl rfl ?_
    refine AX.icmp_ge (tgt := 302) dX11_readsPiece_285 rfl (fun c2 => ?_) (fun c2 => ?_)
    · replace hz := (if_pos c2).symm.trans hz
      exact AX.sub (ls' := [(0, .ref (G.2.2.1 44)), (1, .int l1), (4, .int l4)]) [0, 1, 2] rfl (wfX11_readsPiece_j302 l1 l4 σ hz K hback hexit4 hk)
    · replace hz := (if_neg c2).symm.trans hz
      refine AX.aload_n dX11_readsPiece_288 0 rfl rfl ?_
      refine AX.getR dX11_readsPiece_289 flRX11_7 rfl rfl ?_
      refine AX.iload_n dX11_readsPiece_292 1 rfl rfl ?_
      refine AX.iconst dX11_readsPiece_293 ic_1 ?_
      refine AX.iadd dX11_readsPiece_294 ?_
      obtain ⟨b3, hz⟩ := ite_n hz
      refine AX.ialdE (v := σ.1 45 ((l1 + (1 : Int32)).toNatClampNeg)) dX11_readsPiece_295 rfl b3 rfl ?_
      refine AX.bipush dX11_readsPiece_296 bp_97 ?_
      refine AX.isub dX11_readsPiece_298 ?_
      refine AX.goto (tgt := 303) dX11_readsPiece_299 rfl ?_
      exact AX.sub (ls' := [(0, .ref (G.2.2.1 44)), (1, .int l1), (4, .int l4)]) [0, 1, 2] rfl (wfX11_readsPiece_j303 l1 l4 ((σ.1 45 ((l1 + (1 : Int32)).toNatClampNeg)) - (97 : Int32)) σ hz K hback hexit4 hk)
noncomputable def fX11_readsPiece_j255 (l1 : Int32) (l4 : Int32) (σ : St) : Option ((Int32 × Int32 × St) ⊕ ((Int32 × St) ⊕ ((Int32 × Int32 × St) ⊕ ((Int32 × St) ⊕ ((Int32 × St) ⊕ ((Int32 × St) ⊕ (Int32 × St))))))) :=
  if l4 = (4 : Int32) then if (σ.1 44 7) = (6 : Int32) then some (.inr (.inr (.inr (.inr (.inl (l1, σ)))))) else fX11_readsPiece_j272 l1 l4 σ else fX11_readsPiece_j272 l1 l4 σ
theorem wfX11_readsPiece_j255 {G : ag_G} (l1 : Int32) (l4 : Int32) (σ : St) {z : (Int32 × Int32 × St) ⊕ ((Int32 × St) ⊕ ((Int32 × Int32 × St) ⊕ ((Int32 × St) ⊕ ((Int32 × St) ⊕ ((Int32 × St) ⊕ (Int32 × St))))))} (hz : fX11_readsPiece_j255 l1 l4 σ = some z) {Q : Option Value → St → Prop} (K : ((Int32 × Int32 × St) ⊕ ((Int32 × St) ⊕ ((Int32 × Int32 × St) ⊕ ((Int32 × St) ⊕ ((Int32 × St) ⊕ ((Int32 × St) ⊕ (Int32 × St))))))) → Prop) (hback : ∀ a : Int32 × Int32 × St, K (.inl a) → AX G mX11_readsPiece 2 44 30 [(0, .ref (G.2.2.1 44)), (1, .int a.1), (2, .int a.2.1)] [] a.2.2 Q) (hexit3 : ∀ a : Int32 × St, K (.inr (.inr (.inr (.inr (.inl a))))) → AX G mX11_readsPiece 2 44 270 [(1, .int a.1)] [] a.2 Q) (hexit4 : ∀ a : Int32 × St, K (.inr (.inr (.inr (.inr (.inr (.inl a)))))) → AX G mX11_readsPiece 2 44 321 [(1, .int a.1)] [] a.2 Q) (hk : K z) : AX G mX11_readsPiece 2 44 255 [(0, .ref (G.2.2.1 44)), (1, .int l1), (4, .int l4)] [] σ Q := by
  unfold fX11_readsPiece_j255 at hz
  refine AX.iload dX11_readsPiece_255 2 rfl ?_
  refine AX.iconst dX11_readsPiece_257 ic_4 ?_
  refine AX.icmp_ne (tgt := 272) dX11_readsPiece_258 rfl (fun c1 => ?_) (fun c1 => ?_)
  · replace hz := (if_neg c1).symm.trans hz
    exact AX.sub (ls' := [(0, .ref (G.2.2.1 44)), (1, .int l1), (4, .int l4)]) [0, 1, 2] rfl (wfX11_readsPiece_j272 l1 l4 σ hz K hback hexit4 hk)
  · replace hz := (if_pos c1).symm.trans hz
    refine AX.aload_n dX11_readsPiece_261 0 rfl rfl ?_
    refine AX.getIE (v := σ.1 44 7) dX11_readsPiece_262 flRX11_100 rfl rfl rfl ?_
    refine AX.bipush dX11_readsPiece_265 bp_6 ?_
    refine AX.icmp_ne (tgt := 272) dX11_readsPiece_267 rfl (fun c2 => ?_) (fun c2 => ?_)
    · replace hz := (if_neg c2).symm.trans hz
      exact AX.sub (ls' := [(0, .ref (G.2.2.1 44)), (1, .int l1), (4, .int l4)]) [0, 1, 2] rfl (wfX11_readsPiece_j272 l1 l4 σ hz K hback hexit4 hk)
    · replace hz := (if_pos c2).symm.trans hz
      exact AX.sub (ls' := [(1, .int l1)]) [1] rfl (hexit3 (l1, σ) (kz (P := K) hz hk))
noncomputable def fX11_readsPiece_b206 (l1 : Int32) (l2 : Int32) (l7 : Int32) (l8 : Int32) (σ : St) : Option ((Int32 × St) ⊕ St) :=
  if l7 ≤ l8 then some (.inr σ) else (fX11_adds (3 : Int32) (-1 : Int32) σ).bind fun q2 => some (.inl (l8 + 1, q2))
theorem wfX11_readsPiece_b206 {G : ag_G} (l1 : Int32) (l2 : Int32) (l7 : Int32) (l8 : Int32) (σ : St) {z : (Int32 × St) ⊕ St} (hz : fX11_readsPiece_b206 l1 l2 l7 l8 σ = some z) {Q : Option Value → St → Prop} (K : ((Int32 × St) ⊕ St) → Prop) (hback : ∀ a : Int32 × St, K (.inl a) → AX G mX11_readsPiece 2 44 206 [(0, .ref (G.2.2.1 44)), (1, .int l1), (2, .int l2), (7, .int l7), (8, .int a.1)] [] a.2 Q) (hexit0 : ∀ a : St, K (.inr a) → AX G mX11_readsPiece 2 44 225 [(0, .ref (G.2.2.1 44)), (1, .int l1), (2, .int l2)] [] a Q) (hk : K z) : AX G mX11_readsPiece 2 44 206 [(0, .ref (G.2.2.1 44)), (1, .int l1), (2, .int l2), (7, .int l7), (8, .int l8)] [] σ Q := by
  unfold fX11_readsPiece_b206 at hz
  refine AX.iload dX11_readsPiece_206 4 rfl ?_
  refine AX.iload dX11_readsPiece_208 3 rfl ?_
  refine AX.icmp_ge (tgt := 225) dX11_readsPiece_210 rfl (fun c1 => ?_) (fun c1 => ?_)
  · replace hz := (if_pos c1).symm.trans hz
    exact AX.sub (ls' := [(0, .ref (G.2.2.1 44)), (1, .int l1), (2, .int l2)]) [0, 1, 2] rfl (hexit0 σ (kz (P := K) hz hk))
  · replace hz := (if_neg c1).symm.trans hz
    refine AX.aload_n dX11_readsPiece_213 0 rfl rfl ?_
    refine AX.iconst dX11_readsPiece_214 ic_3 ?_
    refine AX.iconst dX11_readsPiece_215 ic_m1 ?_
    obtain ⟨q2, hq2, hz⟩ := obind hz
    refine AX.callVw (r := 44) (As := [.int 3, .int (-1)]) (rest := []) (w := none) (st' := []) dX11_readsPiece_216 mlRX11_110 ylX11_adds yvX11_adds rfl rfl rfl (Nat.le_of_ble_eq_true rfl) ⟨Nat.le_of_ble_eq_true rfl, Nat.le_of_ble_eq_true rfl⟩ (xX11_adds (3 : Int32) (-1 : Int32) σ hq2) rfl ?_
    refine AX.iinc (v := l8 + 1) (ls' := [(0, .ref (G.2.2.1 44)), (1, .int l1), (2, .int l2), (7, .int l7), (8, .int (l8 + 1))]) 4 dX11_readsPiece_219 rfl (Nat.le_of_ble_eq_true rfl) (congrArg (l8 + ·) ic_1) rfl ?_
    refine AX.goto (tgt := 206) dX11_readsPiece_222 rfl ?_
    exact AX.sub (ls' := [(0, .ref (G.2.2.1 44)), (1, .int l1), (2, .int l2), (7, .int l7), (8, .int (l8 + 1))]) [0, 1, 2, 3, 4] rfl (hback (l8 + 1, q2) (kz (P := K) hz hk))
noncomputable def fX11_readsPiece_j106 (l1 : Int32) (l2 : Int32) (t0 : Int32) (σ : St) : Option ((Int32 × Int32 × St) ⊕ ((Int32 × St) ⊕ ((Int32 × Int32 × St) ⊕ ((Int32 × St) ⊕ ((Int32 × St) ⊕ ((Int32 × St) ⊕ (Int32 × St))))))) :=
  if l2 = (0 : Int32) then if t0 = (-1 : Int32) then some (.inr (.inl (l1, σ))) else if t0 = (3 : Int32) then (fX11_figureAt (l1 + (1 : Int32)) σ).bind fun q7 => (fX11_figureAt (l1 + (2 : Int32)) σ).bind fun q8 => ltb (((10 : Int32) * q7) + q8) fun x9 => if q7 = (-1 : Int32) then some (.inr (.inr (.inl (l1, q7, σ)))) else if q8 = (-1 : Int32) then some (.inr (.inr (.inl (l1, q7, σ)))) else if x9 = (0 : Int32) then some (.inr (.inr (.inr (.inl (l1, σ))))) else if ((σ.1 44 2) + x9) ≤ (99 : Int32) then (lpc (fun s => fX11_readsPiece_b206 l1 l2 x9 s.1 s.2) (0, σ)).bind fun r14 => fX11_readsPiece_j369 (l1 + 3) l2 r14 else some (.inr (.inr (.inr (.inl (l1, σ))))) else if (σ.1 44 2) = (99 : Int32) then some (.inr (.inr (.inr (.inr (.inl (l1, σ)))))) else if (3 : Int32) ≤ t0 then fX11_readsPiece_j255 l1 t0 σ else if (σ.1 44 6) = (10 : Int32) then some (.inr (.inr (.inr (.inr (.inl (l1, σ)))))) else fX11_readsPiece_j255 l1 t0 σ else some (.inr (.inl (l1, σ)))
theorem wfX11_readsPiece_j106 {G : ag_G} (l1 : Int32) (l2 : Int32) (t0 : Int32) (σ : St) {z : (Int32 × Int32 × St) ⊕ ((Int32 × St) ⊕ ((Int32 × Int32 × St) ⊕ ((Int32 × St) ⊕ ((Int32 × St) ⊕ ((Int32 × St) ⊕ (Int32 × St))))))} (hz : fX11_readsPiece_j106 l1 l2 t0 σ = some z) {Q : Option Value → St → Prop} (K : ((Int32 × Int32 × St) ⊕ ((Int32 × St) ⊕ ((Int32 × Int32 × St) ⊕ ((Int32 × St) ⊕ ((Int32 × St) ⊕ ((Int32 × St) ⊕ (Int32 × St))))))) → Prop) (hback : ∀ a : Int32 × Int32 × St, K (.inl a) → AX G mX11_readsPiece 2 44 30 [(0, .ref (G.2.2.1 44)), (1, .int a.1), (2, .int a.2.1)] [] a.2.2 Q) (hexit0 : ∀ a : Int32 × St, K (.inr (.inl a)) → AX G mX11_readsPiece 2 44 118 [(1, .int a.1)] [] a.2 Q) (hexit1 : ∀ a : Int32 × Int32 × St, K (.inr (.inr (.inl a))) → AX G mX11_readsPiece 2 44 166 [(1, .int a.1), (5, .int a.2.1)] [] a.2.2 Q) (hexit2 : ∀ a : Int32 × St, K (.inr (.inr (.inr (.inl a)))) → AX G mX11_readsPiece 2 44 199 [(1, .int a.1)] [] a.2 Q) (hexit3 : ∀ a : Int32 × St, K (.inr (.inr (.inr (.inr (.inl a))))) → AX G mX11_readsPiece 2 44 270 [(1, .int a.1)] [] a.2 Q) (hexit4 : ∀ a : Int32 × St, K (.inr (.inr (.inr (.inr (.inr (.inl a)))))) → AX G mX11_readsPiece 2 44 321 [(1, .int a.1)] [] a.2 Q) (hk : K z) : AX G mX11_readsPiece 2 44 106 [(0, .ref (G.2.2.1 44)), (1, .int l1), (2, .int l2)] [.int t0] σ Q := by
  unfold fX11_readsPiece_j106 at hz
  refine AX.istore (ls' := [(0, .ref (G.2.2.1 44)), (1, .int l1), (2, .int l2), (4, .int t0)]) dX11_readsPiece_106 (Nat.le_of_ble_eq_true rfl) rfl ?_
  refine AX.iload_n dX11_readsPiece_108 2 rfl rfl ?_
  refine AX.if_ne (tgt := 118) dX11_readsPiece_109 rfl (fun c1 => ?_) (fun c1 => ?_)
  · replace hz := (if_neg c1).symm.trans hz
    exact AX.sub (ls' := [(1, .int l1)]) [1] rfl (hexit0 (l1, σ) (kz (P := K) hz hk))
  · replace hz := (if_pos c1).symm.trans hz
    refine AX.iload dX11_readsPiece_112 3 rfl ?_
    refine AX.iconst dX11_readsPiece_114 ic_m1 ?_
    refine AX.icmp_ne (tgt := 120) dX11_readsPiece_115 rfl (fun c2 => ?_) (fun c2 => ?_)
    · replace hz := (if_neg c2).symm.trans hz
      refine AX.iload dX11_readsPiece_120 3 rfl ?_
      refine AX.iconst dX11_readsPiece_122 ic_3 ?_
      refine AX.icmp_ne (tgt := 231) dX11_readsPiece_123 rfl (fun c3 => ?_) (fun c3 => ?_)
      · replace hz := (if_neg c3).symm.trans hz
        refine AX.aload_n dX11_readsPiece_231 0 rfl rfl ?_
        refine AX.getIE (v := σ.1 44 2) dX11_readsPiece_232 flRX11_97 rfl rfl rfl ?_
        refine AX.bipush dX11_readsPiece_235 bp_99 ?_
        refine AX.icmp_eq (tgt := 270) dX11_readsPiece_237 rfl (fun c4 => ?_) (fun c4 => ?_)
        · replace hz := (if_pos c4).symm.trans hz
          exact AX.sub (ls' := [(1, .int l1)]) [1] rfl (hexit3 (l1, σ) (kz (P := K) hz hk))
        · replace hz := (if_neg c4).symm.trans hz
          refine AX.iload dX11_readsPiece_240 3 rfl ?_
          refine AX.iconst dX11_readsPiece_242 ic_3 ?_
          refine AX.icmp_ge (tgt := 255) dX11_readsPiece_243 rfl (fun c5 => ?_) (fun c5 => ?_)
          · replace hz := (if_pos c5).symm.trans hz
            exact AX.sub (ls' := [(0, .ref (G.2.2.1 44)), (1, .int l1), (4, .int t0)]) [0, 1, 3] rfl (wfX11_readsPiece_j255 l1 t0 σ hz K hback hexit3 hexit4 hk)
          · replace hz := (if_neg c5).symm.trans hz
            refine AX.aload_n dX11_readsPiece_246 0 rfl rfl ?_
            refine AX.getIE (v := σ.1 44 6) dX11_readsPiece_247 flRX11_103 rfl rfl rfl ?_
            refine AX.bipush dX11_readsPiece_250 bp_10 ?_
            refine AX.icmp_eq (tgt := 270) dX11_readsPiece_252 rfl (fun c6 => ?_) (fun c6 => ?_)
            · replace hz := (if_pos c6).symm.trans hz
              exact AX.sub (ls' := [(1, .int l1)]) [1] rfl (hexit3 (l1, σ) (kz (P := K) hz hk))
            · replace hz := (if_neg c6).symm.trans hz
              exact AX.sub (ls' := [(0, .ref (G.2.2.1 44)), (1, .int l1), (4, .int t0)]) [0, 1, 3] rfl (wfX11_readsPiece_j255 l1 t0 σ hz K hback hexit3 hexit4 hk)
      · replace hz := (if_pos c3).symm.trans hz
        refine AX.aload_n dX11_readsPiece_126 0 rfl rfl ?_
        refine AX.iload_n dX11_readsPiece_127 1 rfl rfl ?_
        refine AX.iconst dX11_readsPiece_128 ic_1 ?_
        refine AX.iadd dX11_readsPiece_129 ?_
        obtain ⟨q7, hq7, hz⟩ := obind hz
        refine AX.callVw (r := 44) (As := [.int (l1 + (1 : Int32))]) (rest := []) (w := some (.int q7)) (st' := [.int q7]) dX11_readsPiece_130 mlRX11_106 ylX11_figureAt yvX11_figureAt rfl rfl rfl (Nat.le_of_ble_eq_true rfl) ⟨Nat.le_of_ble_eq_true rfl, Nat.le_of_ble_eq_true rfl⟩ (xX11_figureAt (l1 + (1 : Int32)) σ hq7) rfl ?_
        refine AX.istore (ls' := [(0, .ref (G.2.2.1 44)), (1, .int l1), (2, .int l2), (4, .int t0), (5, .int q7)]) dX11_readsPiece_133 (Nat.le_of_ble_eq_true rfl) rfl ?_
        refine AX.aload_n dX11_readsPiece_135 0 rfl rfl ?_
        refine AX.iload_n dX11_readsPiece_136 1 rfl rfl ?_
        refine AX.iconst dX11_readsPiece_137 ic_2 ?_
        refine AX.iadd dX11_readsPiece_138 ?_
        obtain ⟨q8, hq8, hz⟩ := obind hz
        refine AX.callVw (r := 44) (As := [.int (l1 + (2 : Int32))]) (rest := []) (w := some (.int q8)) (st' := [.int q8]) dX11_readsPiece_139 mlRX11_106 ylX11_figureAt yvX11_figureAt rfl rfl rfl (Nat.le_of_ble_eq_true rfl) ⟨Nat.le_of_ble_eq_true rfl, Nat.le_of_ble_eq_true rfl⟩ (xX11_figureAt (l1 + (2 : Int32)) σ hq8) rfl ?_
        refine AX.istore (ls' := [(0, .ref (G.2.2.1 44)), (1, .int l1), (2, .int l2), (4, .int t0), (5, .int q7), (6, .int q8)]) dX11_readsPiece_142 (Nat.le_of_ble_eq_true rfl) rfl ?_
        refine AX.bipush dX11_readsPiece_144 bp_10 ?_
        refine AX.iload dX11_readsPiece_146 4 rfl ?_
        refine AX.imul dX11_readsPiece_148 ?_
        refine AX.iload dX11_readsPiece_149 5 rfl ?_
        refine AX.iadd dX11_readsPiece_151 ?_
        obtain ⟨x9, hx9, hz⟩ := ltb_e hz
        refine AX.topI hx9 ?_
        refine AX.istore (ls' := [(0, .ref (G.2.2.1 44)), (1, .int l1), (2, .int l2), (4, .int t0), (5, .int q7), (6, .int q8), (7, .int x9)]) dX11_readsPiece_152 (Nat.le_of_ble_eq_true rfl) rfl ?_
        refine AX.iload dX11_readsPiece_154 4 rfl ?_
        refine AX.iconst dX11_readsPiece_156 ic_m1 ?_
        refine AX.icmp_eq (tgt := 166) dX11_readsPiece_157 rfl (fun c10 => ?_) (fun c10 => ?_)
        · replace hz := (if_pos c10).symm.trans hz
          exact AX.sub (ls' := [(1, .int l1), (5, .int q7)]) [1, 4] rfl (hexit1 (l1, q7, σ) (kz (P := K) hz hk))
        · replace hz := (if_neg c10).symm.trans hz
          refine AX.iload dX11_readsPiece_160 5 rfl ?_
          refine AX.iconst dX11_readsPiece_162 ic_m1 ?_
          refine AX.icmp_ne (tgt := 182) dX11_readsPiece_163 rfl (fun c11 => ?_) (fun c11 => ?_)
          · replace hz := (if_neg c11).symm.trans hz
            refine AX.iload dX11_readsPiece_182 6 rfl ?_
            refine AX.if_eq (tgt := 199) dX11_readsPiece_184 rfl (fun c12 => ?_) (fun c12 => ?_)
            · replace hz := (if_pos c12).symm.trans hz
              exact AX.sub (ls' := [(1, .int l1)]) [1] rfl (hexit2 (l1, σ) (kz (P := K) hz hk))
            · replace hz := (if_neg c12).symm.trans hz
              refine AX.aload_n dX11_readsPiece_187 0 rfl rfl ?_
              refine AX.getIE (v := σ.1 44 2) dX11_readsPiece_188 flRX11_97 rfl rfl rfl ?_
              refine AX.iload dX11_readsPiece_191 6 rfl ?_
              refine AX.iadd dX11_readsPiece_193 ?_
              refine AX.bipush dX11_readsPiece_194 bp_99 ?_
              refine AX.icmp_le (tgt := 203) dX11_readsPiece_196 rfl (fun c13 => ?_) (fun c13 => ?_)
              · replace hz := (if_pos c13).symm.trans hz
                refine AX.iconst dX11_readsPiece_203 ic_0 ?_
                refine AX.istore (ls' := [(0, .ref (G.2.2.1 44)), (1, .int l1), (2, .int l2), (4, .int t0), (5, .int q7), (6, .int q8), (7, .int x9), (8, .int 0)]) dX11_readsPiece_204 (Nat.le_of_ble_eq_true rfl) rfl ?_
                obtain ⟨r14, hr14, hz⟩ := obind hz
                refine AX.sub (ls' := [(0, .ref (G.2.2.1 44)), (1, .int l1), (2, .int l2), (7, .int x9), (8, .int 0)]) [0, 1, 2, 6, 7] rfl ?_
                refine lpc_ind (s := (0, σ)) (r := r14) (fun s => AX G mX11_readsPiece 2 44 206 [(0, .ref (G.2.2.1 44)), (1, .int l1), (2, .int l2), (7, .int x9), (8, .int s.1)] [] s.2 Q) (fun a : St => AX G mX11_readsPiece 2 44 225 [(0, .ref (G.2.2.1 44)), (1, .int l1), (2, .int l2)] [] a Q) hr14 (fun s z hb hK => wfX11_readsPiece_b206 l1 l2 x9 s.1 s.2 hb (Sum.elim (fun s => AX G mX11_readsPiece 2 44 206 [(0, .ref (G.2.2.1 44)), (1, .int l1), (2, .int l2), (7, .int x9), (8, .int s.1)] [] s.2 Q) (fun a : St => AX G mX11_readsPiece 2 44 225 [(0, .ref (G.2.2.1 44)), (1, .int l1), (2, .int l2)] [] a Q)) (fun _ h9 => h9) (fun _ h9 => h9) hK) ?_
                refine AX.iinc (v := l1 + 3) (ls' := [(0, .ref (G.2.2.1 44)), (1, .int (l1 + 3)), (2, .int l2)]) 1 dX11_readsPiece_225 rfl (Nat.le_of_ble_eq_true rfl) (congrArg (l1 + ·) ic_3) rfl ?_
                refine AX.goto (tgt := 369) dX11_readsPiece_228 rfl ?_
                exact AX.sub (ls' := [(0, .ref (G.2.2.1 44)), (1, .int (l1 + 3)), (2, .int l2)]) [0, 1, 2] rfl (wfX11_readsPiece_j369 (l1 + 3) l2 r14 hz K hback hk)
              · replace hz := (if_neg c13).symm.trans hz
                exact AX.sub (ls' := [(1, .int l1)]) [1] rfl (hexit2 (l1, σ) (kz (P := K) hz hk))
          · replace hz := (if_pos c11).symm.trans hz
            exact AX.sub (ls' := [(1, .int l1), (5, .int q7)]) [1, 4] rfl (hexit1 (l1, q7, σ) (kz (P := K) hz hk))
    · replace hz := (if_pos c2).symm.trans hz
      exact AX.sub (ls' := [(1, .int l1)]) [1] rfl (hexit0 (l1, σ) (kz (P := K) hz hk))
noncomputable def fX11_readsPiece_b30 (l1 : Int32) (l2 : Int32) (σ : St) : Option ((Int32 × Int32 × St) ⊕ ((Int32 × St) ⊕ ((Int32 × Int32 × St) ⊕ ((Int32 × St) ⊕ ((Int32 × St) ⊕ ((Int32 × St) ⊕ (Int32 × St))))))) :=
  if (σ.1 44 1) ≤ l1 then some (.inr (.inr (.inr (.inr (.inr (.inr (l2, σ))))))) else if inb l1 60 = true then ltb (σ.1 45 l1.toNatClampNeg) fun x3 => if x3 = (100 : Int32) then fX11_readsPiece_j106 l1 l2 0 σ else if x3 = (119 : Int32) then fX11_readsPiece_j106 l1 l2 1 σ else if x3 = (109 : Int32) then fX11_readsPiece_j106 l1 l2 2 σ else if x3 = (112 : Int32) then fX11_readsPiece_j106 l1 l2 3 σ else if x3 = (99 : Int32) then fX11_readsPiece_j106 l1 l2 4 σ else if x3 = (120 : Int32) then fX11_readsPiece_j106 l1 l2 5 σ else fX11_readsPiece_j106 l1 l2 (-1) σ else none
theorem wfX11_readsPiece_b30 {G : ag_G} (l1 : Int32) (l2 : Int32) (σ : St) {z : (Int32 × Int32 × St) ⊕ ((Int32 × St) ⊕ ((Int32 × Int32 × St) ⊕ ((Int32 × St) ⊕ ((Int32 × St) ⊕ ((Int32 × St) ⊕ (Int32 × St))))))} (hz : fX11_readsPiece_b30 l1 l2 σ = some z) {Q : Option Value → St → Prop} (K : ((Int32 × Int32 × St) ⊕ ((Int32 × St) ⊕ ((Int32 × Int32 × St) ⊕ ((Int32 × St) ⊕ ((Int32 × St) ⊕ ((Int32 × St) ⊕ (Int32 × St))))))) → Prop) (hback : ∀ a : Int32 × Int32 × St, K (.inl a) → AX G mX11_readsPiece 2 44 30 [(0, .ref (G.2.2.1 44)), (1, .int a.1), (2, .int a.2.1)] [] a.2.2 Q) (hexit0 : ∀ a : Int32 × St, K (.inr (.inl a)) → AX G mX11_readsPiece 2 44 118 [(1, .int a.1)] [] a.2 Q) (hexit1 : ∀ a : Int32 × Int32 × St, K (.inr (.inr (.inl a))) → AX G mX11_readsPiece 2 44 166 [(1, .int a.1), (5, .int a.2.1)] [] a.2.2 Q) (hexit2 : ∀ a : Int32 × St, K (.inr (.inr (.inr (.inl a)))) → AX G mX11_readsPiece 2 44 199 [(1, .int a.1)] [] a.2 Q) (hexit3 : ∀ a : Int32 × St, K (.inr (.inr (.inr (.inr (.inl a))))) → AX G mX11_readsPiece 2 44 270 [(1, .int a.1)] [] a.2 Q) (hexit4 : ∀ a : Int32 × St, K (.inr (.inr (.inr (.inr (.inr (.inl a)))))) → AX G mX11_readsPiece 2 44 321 [(1, .int a.1)] [] a.2 Q) (hexit5 : ∀ a : Int32 × St, K (.inr (.inr (.inr (.inr (.inr (.inr a)))))) → AX G mX11_readsPiece 2 44 372 [(0, .ref (G.2.2.1 44)), (2, .int a.1)] [] a.2 Q) (hk : K z) : AX G mX11_readsPiece 2 44 30 [(0, .ref (G.2.2.1 44)), (1, .int l1), (2, .int l2)] [] σ Q := by
  unfold fX11_readsPiece_b30 at hz
  refine AX.iload_n dX11_readsPiece_30 1 rfl rfl ?_
  refine AX.aload_n dX11_readsPiece_31 0 rfl rfl ?_
  refine AX.getIE (v := σ.1 44 1) dX11_readsPiece_32 flRX11_93 rfl rfl rfl ?_
  refine AX.icmp_ge (tgt := 372) dX11_readsPiece_35 rfl (fun c1 => ?_) (fun c1 => ?_)
  · replace hz := (if_pos c1).symm.trans hz
    exact AX.sub (ls' := [(0, .ref (G.2.2.1 44)), (2, .int l2)]) [0, 2] rfl (hexit5 (l2, σ) (kz (P := K) hz hk))
  · replace hz := (if_neg c1).symm.trans hz
    refine AX.aload_n dX11_readsPiece_38 0 rfl rfl ?_
    refine AX.getR dX11_readsPiece_39 flRX11_7 rfl rfl ?_
    refine AX.iload_n dX11_readsPiece_42 1 rfl rfl ?_
    obtain ⟨b2, hz⟩ := ite_n hz
    refine AX.ialdE (v := σ.1 45 l1.toNatClampNeg) dX11_readsPiece_43 rfl b2 rfl ?_
    obtain ⟨x3, hx3, hz⟩ := ltb_e hz
    refine AX.topI hx3 ?_
    refine AX.istore_n (ls' := [(0, .ref (G.2.2.1 44)), (1, .int l1), (2, .int l2), (3, .int x3)]) dX11_readsPiece_44 rfl (Nat.le_of_ble_eq_true rfl) rfl ?_
    refine AX.iload_n dX11_readsPiece_45 3 rfl rfl ?_
    refine AX.bipush dX11_readsPiece_46 bp_100 ?_
    refine AX.icmp_ne (tgt := 55) dX11_readsPiece_48 rfl (fun c4 => ?_) (fun c4 => ?_)
    · replace hz := (if_neg c4).symm.trans hz
      refine AX.iload_n dX11_readsPiece_55 3 rfl rfl ?_
      refine AX.bipush dX11_readsPiece_56 bp_119 ?_
      refine AX.icmp_ne (tgt := 65) dX11_readsPiece_58 rfl (fun c5 => ?_) (fun c5 => ?_)
      · replace hz := (if_neg c5).symm.trans hz
        refine AX.iload_n dX11_readsPiece_65 3 rfl rfl ?_
        refine AX.bipush dX11_readsPiece_66 bp_109 ?_
        refine AX.icmp_ne (tgt := 75) dX11_readsPiece_68 rfl (fun c6 => ?_) (fun c6 => ?_)
        · replace hz := (if_neg c6).symm.trans hz
          refine AX.iload_n dX11_readsPiece_75 3 rfl rfl ?_
          refine AX.bipush dX11_readsPiece_76 bp_112 ?_
          refine AX.icmp_ne (tgt := 85) dX11_readsPiece_78 rfl (fun c7 => ?_) (fun c7 => ?_)
          · replace hz := (if_neg c7).symm.trans hz
            refine AX.iload_n dX11_readsPiece_85 3 rfl rfl ?_
            refine AX.bipush dX11_readsPiece_86 bp_99 ?_
            refine AX.icmp_ne (tgt := 95) dX11_readsPiece_88 rfl (fun c8 => ?_) (fun c8 => ?_)
            · replace hz := (if_neg c8).symm.trans hz
              refine AX.iload_n dX11_readsPiece_95 3 rfl rfl ?_
              refine AX.bipush dX11_readsPiece_96 bp_120 ?_
              refine AX.icmp_ne (tgt := 105) dX11_readsPiece_98 rfl (fun c9 => ?_) (fun c9 => ?_)
              · replace hz := (if_neg c9).symm.trans hz
                refine AX.iconst dX11_readsPiece_105 ic_m1 ?_
                exact AX.sub (ls' := [(0, .ref (G.2.2.1 44)), (1, .int l1), (2, .int l2)]) [0, 1, 2] rfl (wfX11_readsPiece_j106 l1 l2 (-1) σ hz K hback hexit0 hexit1 hexit2 hexit3 hexit4 hk)
              · replace hz := (if_pos c9).symm.trans hz
                refine AX.iconst dX11_readsPiece_101 ic_5 ?_
                refine AX.goto (tgt := 106) dX11_readsPiece_102 rfl ?_
                exact AX.sub (ls' := [(0, .ref (G.2.2.1 44)), (1, .int l1), (2, .int l2)]) [0, 1, 2] rfl (wfX11_readsPiece_j106 l1 l2 5 σ hz K hback hexit0 hexit1 hexit2 hexit3 hexit4 hk)
            · replace hz := (if_pos c8).symm.trans hz
              refine AX.iconst dX11_readsPiece_91 ic_4 ?_
              refine AX.goto (tgt := 106) dX11_readsPiece_92 rfl ?_
              exact AX.sub (ls' := [(0, .ref (G.2.2.1 44)), (1, .int l1), (2, .int l2)]) [0, 1, 2] rfl (wfX11_readsPiece_j106 l1 l2 4 σ hz K hback hexit0 hexit1 hexit2 hexit3 hexit4 hk)
          · replace hz := (if_pos c7).symm.trans hz
            refine AX.iconst dX11_readsPiece_81 ic_3 ?_
            refine AX.goto (tgt := 106) dX11_readsPiece_82 rfl ?_
            exact AX.sub (ls' := [(0, .ref (G.2.2.1 44)), (1, .int l1), (2, .int l2)]) [0, 1, 2] rfl (wfX11_readsPiece_j106 l1 l2 3 σ hz K hback hexit0 hexit1 hexit2 hexit3 hexit4 hk)
        · replace hz := (if_pos c6).symm.trans hz
          refine AX.iconst dX11_readsPiece_71 ic_2 ?_
          refine AX.goto (tgt := 106) dX11_readsPiece_72 rfl ?_
          exact AX.sub (ls' := [(0, .ref (G.2.2.1 44)), (1, .int l1), (2, .int l2)]) [0, 1, 2] rfl (wfX11_readsPiece_j106 l1 l2 2 σ hz K hback hexit0 hexit1 hexit2 hexit3 hexit4 hk)
      · replace hz := (if_pos c5).symm.trans hz
        refine AX.iconst dX11_readsPiece_61 ic_1 ?_
        refine AX.goto (tgt := 106) dX11_readsPiece_62 rfl ?_
        exact AX.sub (ls' := [(0, .ref (G.2.2.1 44)), (1, .int l1), (2, .int l2)]) [0, 1, 2] rfl (wfX11_readsPiece_j106 l1 l2 1 σ hz K hback hexit0 hexit1 hexit2 hexit3 hexit4 hk)
    · replace hz := (if_pos c4).symm.trans hz
      refine AX.iconst dX11_readsPiece_51 ic_0 ?_
      refine AX.goto (tgt := 106) dX11_readsPiece_52 rfl ?_
      exact AX.sub (ls' := [(0, .ref (G.2.2.1 44)), (1, .int l1), (2, .int l2)]) [0, 1, 2] rfl (wfX11_readsPiece_j106 l1 l2 0 σ hz K hback hexit0 hexit1 hexit2 hexit3 hexit4 hk)
noncomputable def fX11_readsPiece_j29 (l1 : Int32) (t0 : Int32) (σ : St) : Option (Int32 × St) :=
  (lpc (fun s => fX11_readsPiece_b30  s.1 s.2.1 s.2.2) (l1, t0, σ)).bind fun r1 => Sum.elim (fun r1_0 => some (r1_0.1, r1_0.2)) (Sum.elim (fun r1_1 => if r1_1.2.1 = (-1 : Int32) then some ((r1_1.1 + (1 : Int32)), r1_1.2.2) else some ((r1_1.1 + (2 : Int32)), r1_1.2.2)) (Sum.elim (fun r1_2 => some ((r1_2.1 + (2 : Int32)), r1_2.2)) (Sum.elim (fun r1_3 => some (r1_3.1, r1_3.2)) (Sum.elim (fun r1_4 => some ((r1_4.1 + (1 : Int32)), r1_4.2)) (fun r1_5 => if r1_5.1 = (0 : Int32) then some ((r1_5.2.1 44 1), r1_5.2) else some ((-1 : Int32), r1_5.2)))))) r1
theorem wfX11_readsPiece_j29 {G : ag_G} (l1 : Int32) (t0 : Int32) (σ : St) {z : Int32 × St} (hz : fX11_readsPiece_j29 l1 t0 σ = some z) {Q : Option Value → St → Prop} (hk : Q (some (.int z.1)) z.2) : AX G mX11_readsPiece 2 44 29 [(0, .ref (G.2.2.1 44)), (1, .int l1)] [.int t0] σ Q := by
  unfold fX11_readsPiece_j29 at hz
  refine AX.istore_n (ls' := [(0, .ref (G.2.2.1 44)), (1, .int l1), (2, .int t0)]) dX11_readsPiece_29 rfl (Nat.le_of_ble_eq_true rfl) rfl ?_
  obtain ⟨r1, hr1, hz⟩ := obind hz
  refine AX.sub (ls' := [(0, .ref (G.2.2.1 44)), (1, .int l1), (2, .int t0)]) [0, 1, 2] rfl ?_
  refine lpc_ind (s := (l1, t0, σ)) (r := r1) (fun s => AX G mX11_readsPiece 2 44 30 [(0, .ref (G.2.2.1 44)), (1, .int s.1), (2, .int s.2.1)] [] s.2.2 Q) (Sum.elim (fun a : Int32 × St => AX G mX11_readsPiece 2 44 118 [(1, .int a.1)] [] a.2 Q) (Sum.elim (fun a : Int32 × Int32 × St => AX G mX11_readsPiece 2 44 166 [(1, .int a.1), (5, .int a.2.1)] [] a.2.2 Q) (Sum.elim (fun a : Int32 × St => AX G mX11_readsPiece 2 44 199 [(1, .int a.1)] [] a.2 Q) (Sum.elim (fun a : Int32 × St => AX G mX11_readsPiece 2 44 270 [(1, .int a.1)] [] a.2 Q) (Sum.elim (fun a : Int32 × St => AX G mX11_readsPiece 2 44 321 [(1, .int a.1)] [] a.2 Q) (fun a : Int32 × St => AX G mX11_readsPiece 2 44 372 [(0, .ref (G.2.2.1 44)), (2, .int a.1)] [] a.2 Q)))))) hr1 (fun s z hb hK => wfX11_readsPiece_b30  s.1 s.2.1 s.2.2 hb (Sum.elim (fun s => AX G mX11_readsPiece 2 44 30 [(0, .ref (G.2.2.1 44)), (1, .int s.1), (2, .int s.2.1)] [] s.2.2 Q) (Sum.elim (fun a : Int32 × St => AX G mX11_readsPiece 2 44 118 [(1, .int a.1)] [] a.2 Q) (Sum.elim (fun a : Int32 × Int32 × St => AX G mX11_readsPiece 2 44 166 [(1, .int a.1), (5, .int a.2.1)] [] a.2.2 Q) (Sum.elim (fun a : Int32 × St => AX G mX11_readsPiece 2 44 199 [(1, .int a.1)] [] a.2 Q) (Sum.elim (fun a : Int32 × St => AX G mX11_readsPiece 2 44 270 [(1, .int a.1)] [] a.2 Q) (Sum.elim (fun a : Int32 × St => AX G mX11_readsPiece 2 44 321 [(1, .int a.1)] [] a.2 Q) (fun a : Int32 × St => AX G mX11_readsPiece 2 44 372 [(0, .ref (G.2.2.1 44)), (2, .int a.1)] [] a.2 Q))))))) (fun _ h9 => h9) (fun _ h9 => h9) (fun _ h9 => h9) (fun _ h9 => h9) (fun _ h9 => h9) (fun _ h9 => h9) (fun _ h9 => h9) hK) ?_
  rcases r1 with r1_0 | r1_1 | r1_2 | r1_3 | r1_4 | r1_5
  · dsimp only [Sum.elim_inl, Sum.elim_inr] at hz ⊢
    refine AX.iload_n dX11_readsPiece_118 0 rfl rfl ?_
    exact AX.ireturn dX11_readsPiece_119 rfl (vp_nar_int _) (kz (P := fun z => Q (some (.int z.1)) z.2) hz hk)
  · dsimp only [Sum.elim_inl, Sum.elim_inr] at hz ⊢
    refine AX.iload dX11_readsPiece_166 1 rfl ?_
    refine AX.iconst dX11_readsPiece_168 ic_m1 ?_
    refine AX.icmp_ne (tgt := 178) dX11_readsPiece_169 rfl (fun c2 => ?_) (fun c2 => ?_)
    · replace hz := (if_neg c2).symm.trans hz
      refine AX.iload_n dX11_readsPiece_178 0 rfl rfl ?_
      refine AX.iconst dX11_readsPiece_179 ic_2 ?_
      refine AX.iadd dX11_readsPiece_180 ?_
      exact AX.ireturn dX11_readsPiece_181 rfl (vp_nar_int _) (kz (P := fun z => Q (some (.int z.1)) z.2) hz hk)
    · replace hz := (if_pos c2).symm.trans hz
      refine AX.iload_n dX11_readsPiece_172 0 rfl rfl ?_
      refine AX.iconst dX11_readsPiece_173 ic_1 ?_
      refine AX.iadd dX11_readsPiece_174 ?_
      refine AX.goto (tgt := 181) dX11_readsPiece_175 rfl ?_
      exact AX.ireturn dX11_readsPiece_181 rfl (vp_nar_int _) (kz (P := fun z => Q (some (.int z.1)) z.2) hz hk)
  · dsimp only [Sum.elim_inl, Sum.elim_inr] at hz ⊢
    refine AX.iload_n dX11_readsPiece_199 0 rfl rfl ?_
    refine AX.iconst dX11_readsPiece_200 ic_2 ?_
    refine AX.iadd dX11_readsPiece_201 ?_
    exact AX.ireturn dX11_readsPiece_202 rfl (vp_nar_int _) (kz (P := fun z => Q (some (.int z.1)) z.2) hz hk)
  · dsimp only [Sum.elim_inl, Sum.elim_inr] at hz ⊢
    refine AX.iload_n dX11_readsPiece_270 0 rfl rfl ?_
    exact AX.ireturn dX11_readsPiece_271 rfl (vp_nar_int _) (kz (P := fun z => Q (some (.int z.1)) z.2) hz hk)
  · dsimp only [Sum.elim_inl, Sum.elim_inr] at hz ⊢
    refine AX.iload_n dX11_readsPiece_321 0 rfl rfl ?_
    refine AX.iconst dX11_readsPiece_322 ic_1 ?_
    refine AX.iadd dX11_readsPiece_323 ?_
    exact AX.ireturn dX11_readsPiece_324 rfl (vp_nar_int _) (kz (P := fun z => Q (some (.int z.1)) z.2) hz hk)
  · dsimp only [Sum.elim_inl, Sum.elim_inr] at hz ⊢
    refine AX.iload_n dX11_readsPiece_372 1 rfl rfl ?_
    refine AX.if_eq (tgt := 380) dX11_readsPiece_373 rfl (fun c3 => ?_) (fun c3 => ?_)
    · replace hz := (if_pos c3).symm.trans hz
      refine AX.aload_n dX11_readsPiece_380 0 rfl rfl ?_
      refine AX.getIE (v := r1_5.2.1 44 1) dX11_readsPiece_381 flRX11_93 rfl rfl rfl ?_
      exact AX.ireturn dX11_readsPiece_384 rfl (vp_nar_int _) (kz (P := fun z => Q (some (.int z.1)) z.2) hz hk)
    · replace hz := (if_neg c3).symm.trans hz
      refine AX.iconst dX11_readsPiece_376 ic_m1 ?_
      refine AX.goto (tgt := 384) dX11_readsPiece_377 rfl ?_
      exact AX.ireturn dX11_readsPiece_384 rfl (vp_nar_int _) (kz (P := fun z => Q (some (.int z.1)) z.2) hz hk)
noncomputable def fX11_readsPiece  (σ : St) : Option (Int32 × St) :=
  if (σ.1 44 1) = (0 : Int32) then fX11_readsPiece_j29 0 1 (sI (sI (sI σ 44 2 0) 44 6 0) 44 7 0) else fX11_readsPiece_j29 0 0 (sI (sI (sI σ 44 2 0) 44 6 0) 44 7 0)
theorem wfX11_readsPiece {G : ag_G}  (σ : St) {z : Int32 × St} (hz : fX11_readsPiece  σ = some z) {Q : Option Value → St → Prop} (hk : Q (some (.int z.1)) z.2) : AX G mX11_readsPiece 2 44 0 [(0, .ref (G.2.2.1 44))] [] σ Q := by
  unfold fX11_readsPiece at hz
  refine AX.aload_n dX11_readsPiece_0 0 rfl rfl ?_
  refine AX.iconst dX11_readsPiece_1 ic_0 ?_
  refine AX.putI dX11_readsPiece_2 fpRX11_97 rfl rfl (vp_nar_int _) rfl ?_
  refine AX.aload_n dX11_readsPiece_5 0 rfl rfl ?_
  refine AX.iconst dX11_readsPiece_6 ic_0 ?_
  refine AX.putI dX11_readsPiece_7 fpRX11_103 rfl rfl (vp_nar_int _) rfl ?_
  refine AX.aload_n dX11_readsPiece_10 0 rfl rfl ?_
  refine AX.iconst dX11_readsPiece_11 ic_0 ?_
  refine AX.putI dX11_readsPiece_12 fpRX11_100 rfl rfl (vp_nar_int _) rfl ?_
  refine AX.iconst dX11_readsPiece_15 ic_0 ?_
  refine AX.istore_n (ls' := [(0, .ref (G.2.2.1 44)), (1, .int 0)]) dX11_readsPiece_16 rfl (Nat.le_of_ble_eq_true rfl) rfl ?_
  refine AX.aload_n dX11_readsPiece_17 0 rfl rfl ?_
  refine AX.getIE (v := σ.1 44 1) dX11_readsPiece_18 flRX11_93 rfl rfl rfl ?_
  refine AX.if_ne (tgt := 28) dX11_readsPiece_21 rfl (fun c1 => ?_) (fun c1 => ?_)
  · replace hz := (if_neg c1).symm.trans hz
    refine AX.iconst dX11_readsPiece_28 ic_0 ?_
    exact AX.sub (ls' := [(0, .ref (G.2.2.1 44)), (1, .int 0)]) [0, 1] rfl (wfX11_readsPiece_j29 0 0 (sI (sI (sI σ 44 2 0) 44 6 0) 44 7 0) hz hk)
  · replace hz := (if_pos c1).symm.trans hz
    refine AX.iconst dX11_readsPiece_24 ic_1 ?_
    refine AX.goto (tgt := 29) dX11_readsPiece_25 rfl ?_
    exact AX.sub (ls' := [(0, .ref (G.2.2.1 44)), (1, .int 0)]) [0, 1] rfl (wfX11_readsPiece_j29 0 1 (sI (sI (sI σ 44 2 0) 44 6 0) 44 7 0) hz hk)
theorem xX11_readsPiece {G : ag_G}  (σ : St) {z : Int32 × St} (hz : fX11_readsPiece  σ = some z) : AC G yX11_readsPiece mX11_readsPiece 2 44 [.ref (G.2.2.1 44)] σ (fun v σ1 => v = some (.int z.1) ∧ σ1 = z.2) := AC.of (plainFor_of_name (by decide)) rfl (Nat.le_of_ble_eq_true rfl) (wfX11_readsPiece  σ hz ⟨rfl, rfl⟩)
noncomputable def fX11_faultNow_j53 (l1 : Int32) (t1 : Int32) (σ : St) : Option (Int32 × St) :=
  some (l1, (sI σ 44 7 t1))
theorem wfX11_faultNow_j53 {G : ag_G} (l1 : Int32) (t1 : Int32) (σ : St) {z : Int32 × St} (hz : fX11_faultNow_j53 l1 t1 σ = some z) {Q : Option Value → St → Prop} (hk : Q (some (.int z.1)) z.2) : AX G mX11_faultNow 3 72 53 [(1, .int l1)] [.int t1, .ref (G.2.2.1 44)] σ Q := by
  unfold fX11_faultNow_j53 at hz
  refine AX.putI dX11_faultNow_53 fpRX11_100 rfl rfl (vp_nar_int _) rfl ?_
  refine AX.iload_n dX11_faultNow_56 0 rfl rfl ?_
  exact AX.ireturn dX11_faultNow_57 rfl (vp_nar_int _) (kz (P := fun z => Q (some (.int z.1)) z.2) hz hk)
noncomputable def fX11_faultNow_j36 (l1 : Int32) (t1 : Int32) (σ : St) : Option (Int32 × St) :=
  if l1 = (-1 : Int32) then fX11_faultNow_j53 l1 (σ.1 44 7) (sI σ 44 6 t1) else fX11_faultNow_j53 l1 0 (sI σ 44 6 t1)
theorem wfX11_faultNow_j36 {G : ag_G} (l1 : Int32) (t1 : Int32) (σ : St) {z : Int32 × St} (hz : fX11_faultNow_j36 l1 t1 σ = some z) {Q : Option Value → St → Prop} (hk : Q (some (.int z.1)) z.2) : AX G mX11_faultNow 3 72 36 [(0, .ref (G.2.2.1 44)), (1, .int l1)] [.int t1, .ref (G.2.2.1 44)] σ Q := by
  unfold fX11_faultNow_j36 at hz
  refine AX.putI dX11_faultNow_36 fpRX11_103 rfl rfl (vp_nar_int _) rfl ?_
  refine AX.aload_n dX11_faultNow_39 0 rfl rfl ?_
  refine AX.iload_n dX11_faultNow_40 1 rfl rfl ?_
  refine AX.iconst dX11_faultNow_41 ic_m1 ?_
  refine AX.icmp_ne (tgt := 52) dX11_faultNow_42 rfl (fun c1 => ?_) (fun c1 => ?_)
  · replace hz := (if_neg c1).symm.trans hz
    refine AX.iconst dX11_faultNow_52 ic_0 ?_
    exact AX.sub (ls' := [(1, .int l1)]) [1] rfl (wfX11_faultNow_j53 l1 0 (sI σ 44 6 t1) hz hk)
  · replace hz := (if_pos c1).symm.trans hz
    refine AX.aload_n dX11_faultNow_45 0 rfl rfl ?_
    refine AX.getIE (v := σ.1 44 7) dX11_faultNow_46 flRX11_100 rfl rfl rfl ?_
    refine AX.goto (tgt := 53) dX11_faultNow_49 rfl ?_
    exact AX.sub (ls' := [(1, .int l1)]) [1] rfl (wfX11_faultNow_j53 l1 (σ.1 44 7) (sI σ 44 6 t1) hz hk)
noncomputable def fX11_faultNow_j19 (l1 : Int32) (t1 : Int32) (σ : St) : Option (Int32 × St) :=
  if l1 = (-1 : Int32) then fX11_faultNow_j36 l1 (σ.1 44 6) (sI σ 44 2 t1) else fX11_faultNow_j36 l1 0 (sI σ 44 2 t1)
theorem wfX11_faultNow_j19 {G : ag_G} (l1 : Int32) (t1 : Int32) (σ : St) {z : Int32 × St} (hz : fX11_faultNow_j19 l1 t1 σ = some z) {Q : Option Value → St → Prop} (hk : Q (some (.int z.1)) z.2) : AX G mX11_faultNow 3 72 19 [(0, .ref (G.2.2.1 44)), (1, .int l1)] [.int t1, .ref (G.2.2.1 44)] σ Q := by
  unfold fX11_faultNow_j19 at hz
  refine AX.putI dX11_faultNow_19 fpRX11_97 rfl rfl (vp_nar_int _) rfl ?_
  refine AX.aload_n dX11_faultNow_22 0 rfl rfl ?_
  refine AX.iload_n dX11_faultNow_23 1 rfl rfl ?_
  refine AX.iconst dX11_faultNow_24 ic_m1 ?_
  refine AX.icmp_ne (tgt := 35) dX11_faultNow_25 rfl (fun c1 => ?_) (fun c1 => ?_)
  · replace hz := (if_neg c1).symm.trans hz
    refine AX.iconst dX11_faultNow_35 ic_0 ?_
    exact AX.sub (ls' := [(0, .ref (G.2.2.1 44)), (1, .int l1)]) [0, 1] rfl (wfX11_faultNow_j36 l1 0 (sI σ 44 2 t1) hz hk)
  · replace hz := (if_pos c1).symm.trans hz
    refine AX.aload_n dX11_faultNow_28 0 rfl rfl ?_
    refine AX.getIE (v := σ.1 44 6) dX11_faultNow_29 flRX11_103 rfl rfl rfl ?_
    refine AX.goto (tgt := 36) dX11_faultNow_32 rfl ?_
    exact AX.sub (ls' := [(0, .ref (G.2.2.1 44)), (1, .int l1)]) [0, 1] rfl (wfX11_faultNow_j36 l1 (σ.1 44 6) (sI σ 44 2 t1) hz hk)
noncomputable def fX11_faultNow  (σ : St) : Option (Int32 × St) :=
  (fX11_readsPiece  σ).bind fun q1 => if q1.1 = (-1 : Int32) then fX11_faultNow_j19 q1.1 (q1.2.1 44 2) q1.2 else fX11_faultNow_j19 q1.1 0 q1.2
theorem wfX11_faultNow {G : ag_G}  (σ : St) {z : Int32 × St} (hz : fX11_faultNow  σ = some z) {Q : Option Value → St → Prop} (hk : Q (some (.int z.1)) z.2) : AX G mX11_faultNow 3 72 0 [(0, .ref (G.2.2.1 44))] [] σ Q := by
  unfold fX11_faultNow at hz
  refine AX.aload_n dX11_faultNow_0 0 rfl rfl ?_
  obtain ⟨q1, hq1, hz⟩ := obind hz
  refine AX.callVw (r := 44) (As := []) (rest := []) (w := some (.int q1.1)) (st' := [.int q1.1]) dX11_faultNow_1 mlRX11_114 ylX11_readsPiece yvX11_readsPiece rfl rfl rfl (Nat.le_of_ble_eq_true rfl) ⟨Nat.le_of_ble_eq_true rfl, Nat.le_of_ble_eq_true rfl⟩ (xX11_readsPiece  σ hq1) rfl ?_
  refine AX.istore_n (ls' := [(0, .ref (G.2.2.1 44)), (1, .int q1.1)]) dX11_faultNow_4 rfl (Nat.le_of_ble_eq_true rfl) rfl ?_
  refine AX.aload_n dX11_faultNow_5 0 rfl rfl ?_
  refine AX.iload_n dX11_faultNow_6 1 rfl rfl ?_
  refine AX.iconst dX11_faultNow_7 ic_m1 ?_
  refine AX.icmp_ne (tgt := 18) dX11_faultNow_8 rfl (fun c2 => ?_) (fun c2 => ?_)
  · replace hz := (if_neg c2).symm.trans hz
    refine AX.iconst dX11_faultNow_18 ic_0 ?_
    exact AX.sub (ls' := [(0, .ref (G.2.2.1 44)), (1, .int q1.1)]) [0, 1] rfl (wfX11_faultNow_j19 q1.1 0 q1.2 hz hk)
  · replace hz := (if_pos c2).symm.trans hz
    refine AX.aload_n dX11_faultNow_11 0 rfl rfl ?_
    refine AX.getIE (v := q1.2.1 44 2) dX11_faultNow_12 flRX11_97 rfl rfl rfl ?_
    refine AX.goto (tgt := 19) dX11_faultNow_15 rfl ?_
    exact AX.sub (ls' := [(0, .ref (G.2.2.1 44)), (1, .int q1.1)]) [0, 1] rfl (wfX11_faultNow_j19 q1.1 (q1.2.1 44 2) q1.2 hz hk)
theorem xX11_faultNow {G : ag_G}  (σ : St) {z : Int32 × St} (hz : fX11_faultNow  σ = some z) : AC G yX11_faultNow mX11_faultNow 3 72 [.ref (G.2.2.1 44)] σ (fun v σ1 => v = some (.int z.1) ∧ σ1 = z.2) := AC.of (plainFor_of_name (by decide)) rfl (Nat.le_of_ble_eq_true rfl) (wfX11_faultNow  σ hz ⟨rfl, rfl⟩)
noncomputable def fX11_fault  (σ : St) : Option (Int32 × St) :=
  (fX11_faultNow  σ).bind fun q1 => some (q1.1, q1.2)
theorem wfX11_fault {G : ag_G}  (σ : St) {z : Int32 × St} (hz : fX11_fault  σ = some z) {Q : Option Value → St → Prop} (hk : Q (some (.int z.1)) z.2) : AX G mX11_fault 4 93 0 [(0, .ref (G.2.2.1 44))] [] σ Q := by
  unfold fX11_fault at hz
  refine AX.aload_n dX11_fault_0 0 rfl rfl ?_
  obtain ⟨q1, hq1, hz⟩ := obind hz
  refine AX.callVw (r := 44) (As := []) (rest := []) (w := some (.int q1.1)) (st' := [.int q1.1]) dX11_fault_1 mlRX11_118 ylX11_faultNow yvX11_faultNow rfl rfl rfl (Nat.le_of_ble_eq_true rfl) ⟨Nat.le_of_ble_eq_true rfl, Nat.le_of_ble_eq_true rfl⟩ (xX11_faultNow  σ hq1) rfl ?_
  exact AX.ireturn dX11_fault_4 rfl (vp_nar_int _) (kz (P := fun z => Q (some (.int z.1)) z.2) hz hk)
theorem xX11_fault {G : ag_G}  (σ : St) {z : Int32 × St} (hz : fX11_fault  σ = some z) : AC G yX11_fault mX11_fault 4 93 [.ref (G.2.2.1 44)] σ (fun v σ1 => v = some (.int z.1) ∧ σ1 = z.2) := AC.of (plainFor_of_name (by decide)) rfl (Nat.le_of_ble_eq_true rfl) (wfX11_fault  σ hz ⟨rfl, rfl⟩)
noncomputable def fX11_reads  (σ : St) : Option (St) :=
  (fX11_faultNow  σ).bind fun q1 => some q1.2
theorem wfX11_reads {G : ag_G}  (σ : St) {z : St} (hz : fX11_reads  σ = some z) {Q : Option Value → St → Prop} (hk : Q (none) z) : AX G mX11_reads 4 93 0 [(0, .ref (G.2.2.1 44))] [] σ Q := by
  unfold fX11_reads at hz
  refine AX.aload_n dX11_reads_0 0 rfl rfl ?_
  obtain ⟨q1, hq1, hz⟩ := obind hz
  refine AX.callVw (r := 44) (As := []) (rest := []) (w := some (.int q1.1)) (st' := [.int q1.1]) dX11_reads_1 mlRX11_118 ylX11_faultNow yvX11_faultNow rfl rfl rfl (Nat.le_of_ble_eq_true rfl) ⟨Nat.le_of_ble_eq_true rfl, Nat.le_of_ble_eq_true rfl⟩ (xX11_faultNow  σ hq1) rfl ?_
  refine AX.istore_n (ls' := [(0, .ref (G.2.2.1 44)), (1, .int q1.1)]) dX11_reads_4 rfl (Nat.le_of_ble_eq_true rfl) rfl ?_
  exact AX.vreturn dX11_reads_5 rfl (kz (P := fun z => Q (none) z) hz hk)
theorem xX11_reads {G : ag_G}  (σ : St) {z : St} (hz : fX11_reads  σ = some z) : AC G yX11_reads mX11_reads 4 93 [.ref (G.2.2.1 44)] σ (fun v σ1 => v = none ∧ σ1 = z) := AC.of (plainFor_of_name (by decide)) rfl (Nat.le_of_ble_eq_true rfl) (wfX11_reads  σ hz ⟨rfl, rfl⟩)
noncomputable def fX11_isBar (p0 : Int32) (σ : St) : Option (Int32 × St) :=
  (fX11_reads  σ).bind fun q1 => (fX11_in p0 (0 : Int32) ((q1.1 44 2) - (1 : Int32))).bind fun q2 => if zb q2 = true then some (q2, q1) else none
theorem wfX11_isBar {G : ag_G} (p0 : Int32) (σ : St) {z : Int32 × St} (hz : fX11_isBar p0 σ = some z) {Q : Option Value → St → Prop} (hk : Q (some (.int z.1)) z.2) : AX G mX11_isBar 5 114 0 [(0, .ref (G.2.2.1 44)), (1, .int p0)] [] σ Q := by
  unfold fX11_isBar at hz
  refine AX.aload_n dX11_isBar_0 0 rfl rfl ?_
  obtain ⟨q1, hq1, hz⟩ := obind hz
  refine AX.callVw (r := 44) (As := []) (rest := []) (w := none) (st' := []) dX11_isBar_1 mlRX11_121 ylX11_reads yvX11_reads rfl rfl rfl (Nat.le_of_ble_eq_true rfl) ⟨Nat.le_of_ble_eq_true rfl, Nat.le_of_ble_eq_true rfl⟩ (xX11_reads  σ hq1) rfl ?_
  refine AX.iload_n dX11_isBar_4 1 rfl rfl ?_
  refine AX.iconst dX11_isBar_5 ic_0 ?_
  refine AX.aload_n dX11_isBar_6 0 rfl rfl ?_
  refine AX.getIE (v := q1.1 44 2) dX11_isBar_7 flRX11_97 rfl rfl rfl ?_
  refine AX.iconst dX11_isBar_10 ic_1 ?_
  refine AX.isub dX11_isBar_11 ?_
  obtain ⟨q2, hq2, hz⟩ := obind hz
  refine AX.callSw (As := [.int p0, .int 0, .int ((q1.1 44 2) - (1 : Int32))]) (rest := []) (w := some (.int q2)) (st' := [.int q2]) dX11_isBar_12 mlRX11_89 ylX11_in ysX11_in rfl rfl (Nat.le_of_ble_eq_true rfl) ⟨Nat.le_of_ble_eq_true rfl, Nat.le_of_ble_eq_true rfl⟩ (xX11_in p0 (0 : Int32) ((q1.1 44 2) - (1 : Int32)) q1 hq2) rfl ?_
  obtain ⟨b3, hz⟩ := ite_n hz
  exact AX.ireturn dX11_isBar_15 rfl (zb_nar b3) (kz (P := fun z => Q (some (.int z.1)) z.2) hz hk)
theorem xX11_isBar {G : ag_G} (p0 : Int32) (σ : St) {z : Int32 × St} (hz : fX11_isBar p0 σ = some z) : AC G yX11_isBar mX11_isBar 5 114 [.ref (G.2.2.1 44), .int p0] σ (fun v σ1 => v = some (.int z.1) ∧ σ1 = z.2) := AC.of (plainFor_of_name (by decide)) rfl (Nat.le_of_ble_eq_true rfl) (wfX11_isBar p0 σ hz ⟨rfl, rfl⟩)
noncomputable def fX11_barOf (p0 : Int32) (p1 : Int32) (σ : St) : Option (Int32) :=
  if p1 = (0 : Int32) then if inb p0 100 = true then some (σ.1 46 p0.toNatClampNeg) else none else if p1 = (1 : Int32) then if inb p0 100 = true then some (σ.1 47 p0.toNatClampNeg) else none else if inb p0 100 = true then some (σ.1 48 p0.toNatClampNeg) else none
theorem wfX11_barOf {G : ag_G} (p0 : Int32) (p1 : Int32) (σ : St) {z : Int32} (hz : fX11_barOf p0 p1 σ = some z) {Q : Option Value → St → Prop} (hk : Q (some (.int z)) σ) : AX G mX11_barOf 0 0 0 [(0, .ref (G.2.2.1 44)), (1, .int p0), (2, .int p1)] [] σ Q := by
  unfold fX11_barOf at hz
  refine AX.iload_n dX11_barOf_0 2 rfl rfl ?_
  refine AX.if_ne (tgt := 13) dX11_barOf_1 rfl (fun c1 => ?_) (fun c1 => ?_)
  · replace hz := (if_neg c1).symm.trans hz
    refine AX.iload_n dX11_barOf_13 2 rfl rfl ?_
    refine AX.iconst dX11_barOf_14 ic_1 ?_
    refine AX.icmp_ne (tgt := 27) dX11_barOf_15 rfl (fun c2 => ?_) (fun c2 => ?_)
    · replace hz := (if_neg c2).symm.trans hz
      refine AX.aload_n dX11_barOf_27 0 rfl rfl ?_
      refine AX.getR dX11_barOf_28 flRX11_19 rfl rfl ?_
      refine AX.iload_n dX11_barOf_31 1 rfl rfl ?_
      obtain ⟨b3, hz⟩ := ite_n hz
      refine AX.ialdE (v := σ.1 48 p0.toNatClampNeg) dX11_barOf_32 rfl b3 rfl ?_
      exact AX.ireturn dX11_barOf_33 rfl (vp_nar_int _) (kz (P := fun z => Q (some (.int z)) σ) hz hk)
    · replace hz := (if_pos c2).symm.trans hz
      refine AX.aload_n dX11_barOf_18 0 rfl rfl ?_
      refine AX.getR dX11_barOf_19 flRX11_16 rfl rfl ?_
      refine AX.iload_n dX11_barOf_22 1 rfl rfl ?_
      obtain ⟨b4, hz⟩ := ite_n hz
      refine AX.ialdE (v := σ.1 47 p0.toNatClampNeg) dX11_barOf_23 rfl b4 rfl ?_
      refine AX.goto (tgt := 33) dX11_barOf_24 rfl ?_
      exact AX.ireturn dX11_barOf_33 rfl (vp_nar_int _) (kz (P := fun z => Q (some (.int z)) σ) hz hk)
  · replace hz := (if_pos c1).symm.trans hz
    refine AX.aload_n dX11_barOf_4 0 rfl rfl ?_
    refine AX.getR dX11_barOf_5 flRX11_13 rfl rfl ?_
    refine AX.iload_n dX11_barOf_8 1 rfl rfl ?_
    obtain ⟨b5, hz⟩ := ite_n hz
    refine AX.ialdE (v := σ.1 46 p0.toNatClampNeg) dX11_barOf_9 rfl b5 rfl ?_
    refine AX.goto (tgt := 33) dX11_barOf_10 rfl ?_
    exact AX.ireturn dX11_barOf_33 rfl (vp_nar_int _) (kz (P := fun z => Q (some (.int z)) σ) hz hk)
theorem xX11_barOf {G : ag_G} (p0 : Int32) (p1 : Int32) (σ : St) {z : Int32} (hz : fX11_barOf p0 p1 σ = some z) : AC G yX11_barOf mX11_barOf 0 0 [.ref (G.2.2.1 44), .int p0, .int p1] σ (fun v σ1 => v = some (.int z) ∧ σ1 = σ) := AC.of (plainFor_of_name (by decide)) rfl (Nat.le_of_ble_eq_true rfl) (wfX11_barOf p0 p1 σ hz ⟨rfl, rfl⟩)
noncomputable def fX11_bar_j26  (σ : St) : Option (Int32 × St) :=
  some ((-2 : Int32), σ)
theorem wfX11_bar_j26 {G : ag_G}  (σ : St) {z : Int32 × St} (hz : fX11_bar_j26  σ = some z) {Q : Option Value → St → Prop} (hk : Q (some (.int z.1)) z.2) : AX G mX11_bar 6 135 26 [] [] σ Q := by
  unfold fX11_bar_j26 at hz
  refine AX.bipush dX11_bar_26 bp_m2 ?_
  exact AX.ireturn dX11_bar_28 rfl (vp_nar_int _) (kz (P := fun z => Q (some (.int z.1)) z.2) hz hk)
noncomputable def fX11_bar (p0 : Int32) (p1 : Int32) (σ : St) : Option (Int32 × St) :=
  (fX11_isBar p0 σ).bind fun q1 => if q1.1 = (0 : Int32) then fX11_bar_j26  q1.2 else (fX11_in p1 (0 : Int32) (2 : Int32)).bind fun q3 => if q3 = (0 : Int32) then fX11_bar_j26  q1.2 else (fX11_barOf p0 p1 q1.2).bind fun q5 => some (q5, q1.2)
theorem wfX11_bar {G : ag_G} (p0 : Int32) (p1 : Int32) (σ : St) {z : Int32 × St} (hz : fX11_bar p0 p1 σ = some z) {Q : Option Value → St → Prop} (hk : Q (some (.int z.1)) z.2) : AX G mX11_bar 6 135 0 [(0, .ref (G.2.2.1 44)), (1, .int p0), (2, .int p1)] [] σ Q := by
  unfold fX11_bar at hz
  refine AX.aload_n dX11_bar_0 0 rfl rfl ?_
  refine AX.iload_n dX11_bar_1 1 rfl rfl ?_
  obtain ⟨q1, hq1, hz⟩ := obind hz
  refine AX.callVw (r := 44) (As := [.int p0]) (rest := []) (w := some (.int q1.1)) (st' := [.int q1.1]) dX11_bar_2 mlRX11_124 ylX11_isBar yvX11_isBar rfl rfl rfl (Nat.le_of_ble_eq_true rfl) ⟨Nat.le_of_ble_eq_true rfl, Nat.le_of_ble_eq_true rfl⟩ (xX11_isBar p0 σ hq1) rfl ?_
  refine AX.if_eq (tgt := 26) dX11_bar_5 rfl (fun c2 => ?_) (fun c2 => ?_)
  · replace hz := (if_pos c2).symm.trans hz
    exact AX.sub (ls' := []) [] rfl (wfX11_bar_j26  q1.2 hz hk)
  · replace hz := (if_neg c2).symm.trans hz
    refine AX.iload_n dX11_bar_8 2 rfl rfl ?_
    refine AX.iconst dX11_bar_9 ic_0 ?_
    refine AX.iconst dX11_bar_10 ic_2 ?_
    obtain ⟨q3, hq3, hz⟩ := obind hz
    refine AX.callSw (As := [.int p1, .int 0, .int 2]) (rest := []) (w := some (.int q3)) (st' := [.int q3]) dX11_bar_11 mlRX11_89 ylX11_in ysX11_in rfl rfl (Nat.le_of_ble_eq_true rfl) ⟨Nat.le_of_ble_eq_true rfl, Nat.le_of_ble_eq_true rfl⟩ (xX11_in p1 (0 : Int32) (2 : Int32) q1.2 hq3) rfl ?_
    refine AX.if_eq (tgt := 26) dX11_bar_14 rfl (fun c4 => ?_) (fun c4 => ?_)
    · replace hz := (if_pos c4).symm.trans hz
      exact AX.sub (ls' := []) [] rfl (wfX11_bar_j26  q1.2 hz hk)
    · replace hz := (if_neg c4).symm.trans hz
      refine AX.aload_n dX11_bar_17 0 rfl rfl ?_
      refine AX.iload_n dX11_bar_18 1 rfl rfl ?_
      refine AX.iload_n dX11_bar_19 2 rfl rfl ?_
      obtain ⟨q5, hq5, hz⟩ := obind hz
      refine AX.callVw (r := 44) (As := [.int p0, .int p1]) (rest := []) (w := some (.int q5)) (st' := [.int q5]) dX11_bar_20 mlRX11_128 ylX11_barOf yvX11_barOf rfl rfl rfl (Nat.le_of_ble_eq_true rfl) ⟨Nat.le_of_ble_eq_true rfl, Nat.le_of_ble_eq_true rfl⟩ (xX11_barOf p0 p1 q1.2 hq5) rfl ?_
      refine AX.goto (tgt := 28) dX11_bar_23 rfl ?_
      exact AX.ireturn dX11_bar_28 rfl (vp_nar_int _) (kz (P := fun z => Q (some (.int z.1)) z.2) hz hk)
theorem xX11_bar {G : ag_G} (p0 : Int32) (p1 : Int32) (σ : St) {z : Int32 × St} (hz : fX11_bar p0 p1 σ = some z) : AC G yX11_bar mX11_bar 6 135 [.ref (G.2.2.1 44), .int p0, .int p1] σ (fun v σ1 => v = some (.int z.1) ∧ σ1 = z.2) := AC.of (plainFor_of_name (by decide)) rfl (Nat.le_of_ble_eq_true rfl) (wfX11_bar p0 p1 σ hz ⟨rfl, rfl⟩)
noncomputable def fX11_odds_j37  (σ : St) : Option (Int32 × St) :=
  some ((-2 : Int32), σ)
theorem wfX11_odds_j37 {G : ag_G}  (σ : St) {z : Int32 × St} (hz : fX11_odds_j37  σ = some z) {Q : Option Value → St → Prop} (hk : Q (some (.int z.1)) z.2) : AX G mX11_odds 1 22 37 [] [] σ Q := by
  unfold fX11_odds_j37 at hz
  refine AX.bipush dX11_odds_37 bp_m2 ?_
  exact AX.ireturn dX11_odds_39 rfl (vp_nar_int _) (kz (P := fun z => Q (some (.int z.1)) z.2) hz hk)
noncomputable def fX11_odds (p0 : Int32) (p1 : Int32) (p2 : Int32) (σ : St) : Option (Int32 × St) :=
  (fX11_in p0 (0 : Int32) (2 : Int32)).bind fun q1 => if q1 = (0 : Int32) then fX11_odds_j37  σ else (fX11_in p1 (0 : Int32) (16 : Int32)).bind fun q3 => if q3 = (0 : Int32) then fX11_odds_j37  σ else (fX11_in p2 (0 : Int32) (16 : Int32)).bind fun q5 => if q5 = (0 : Int32) then fX11_odds_j37  σ else if (p1 + p2) ≤ (16 : Int32) then if inb p0 3 = true then ltb (((16 : Int32) * (σ.1 50 p0.toNatClampNeg)) + (σ.1 51 p0.toNatClampNeg)) fun x9 => some (x9, (sI (sI σ 50 p0.toNatClampNeg p1) 51 p0.toNatClampNeg p2)) else none else fX11_odds_j37  σ
theorem wfX11_odds {G : ag_G} (p0 : Int32) (p1 : Int32) (p2 : Int32) (σ : St) {z : Int32 × St} (hz : fX11_odds p0 p1 p2 σ = some z) {Q : Option Value → St → Prop} (hk : Q (some (.int z.1)) z.2) : AX G mX11_odds 1 22 0 [(0, .ref (G.2.2.1 44)), (1, .int p0), (2, .int p1), (3, .int p2)] [] σ Q := by
  unfold fX11_odds at hz
  refine AX.iload_n dX11_odds_0 1 rfl rfl ?_
  refine AX.iconst dX11_odds_1 ic_0 ?_
  refine AX.iconst dX11_odds_2 ic_2 ?_
  obtain ⟨q1, hq1, hz⟩ := obind hz
  refine AX.callSw (As := [.int p0, .int 0, .int 2]) (rest := []) (w := some (.int q1)) (st' := [.int q1]) dX11_odds_3 mlRX11_89 ylX11_in ysX11_in rfl rfl (Nat.le_of_ble_eq_true rfl) ⟨Nat.le_of_ble_eq_true rfl, Nat.le_of_ble_eq_true rfl⟩ (xX11_in p0 (0 : Int32) (2 : Int32) σ hq1) rfl ?_
  refine AX.if_eq (tgt := 37) dX11_odds_6 rfl (fun c2 => ?_) (fun c2 => ?_)
  · replace hz := (if_pos c2).symm.trans hz
    exact AX.sub (ls' := []) [] rfl (wfX11_odds_j37  σ hz hk)
  · replace hz := (if_neg c2).symm.trans hz
    refine AX.iload_n dX11_odds_9 2 rfl rfl ?_
    refine AX.iconst dX11_odds_10 ic_0 ?_
    refine AX.bipush dX11_odds_11 bp_16 ?_
    obtain ⟨q3, hq3, hz⟩ := obind hz
    refine AX.callSw (As := [.int p1, .int 0, .int 16]) (rest := []) (w := some (.int q3)) (st' := [.int q3]) dX11_odds_13 mlRX11_89 ylX11_in ysX11_in rfl rfl (Nat.le_of_ble_eq_true rfl) ⟨Nat.le_of_ble_eq_true rfl, Nat.le_of_ble_eq_true rfl⟩ (xX11_in p1 (0 : Int32) (16 : Int32) σ hq3) rfl ?_
    refine AX.if_eq (tgt := 37) dX11_odds_16 rfl (fun c4 => ?_) (fun c4 => ?_)
    · replace hz := (if_pos c4).symm.trans hz
      exact AX.sub (ls' := []) [] rfl (wfX11_odds_j37  σ hz hk)
    · replace hz := (if_neg c4).symm.trans hz
      refine AX.iload_n dX11_odds_19 3 rfl rfl ?_
      refine AX.iconst dX11_odds_20 ic_0 ?_
      refine AX.bipush dX11_odds_21 bp_16 ?_
      obtain ⟨q5, hq5, hz⟩ := obind hz
      refine AX.callSw (As := [.int p2, .int 0, .int 16]) (rest := []) (w := some (.int q5)) (st' := [.int q5]) dX11_odds_23 mlRX11_89 ylX11_in ysX11_in rfl rfl (Nat.le_of_ble_eq_true rfl) ⟨Nat.le_of_ble_eq_true rfl, Nat.le_of_ble_eq_true rfl⟩ (xX11_in p2 (0 : Int32) (16 : Int32) σ hq5) rfl ?_
      refine AX.if_eq (tgt := 37) dX11_odds_26 rfl (fun c6 => ?_) (fun c6 => ?_)
      · replace hz := (if_pos c6).symm.trans hz
        exact AX.sub (ls' := []) [] rfl (wfX11_odds_j37  σ hz hk)
      · replace hz := (if_neg c6).symm.trans hz
        refine AX.iload_n dX11_odds_29 2 rfl rfl ?_
        refine AX.iload_n dX11_odds_30 3 rfl rfl ?_
        refine AX.iadd dX11_odds_31 ?_
        refine AX.bipush dX11_odds_32 bp_16 ?_
        refine AX.icmp_le (tgt := 40) dX11_odds_34 rfl (fun c7 => ?_) (fun c7 => ?_)
        · replace hz := (if_pos c7).symm.trans hz
          refine AX.bipush dX11_odds_40 bp_16 ?_
          refine AX.aload_n dX11_odds_42 0 rfl rfl ?_
          refine AX.getR dX11_odds_43 flRX11_25 rfl rfl ?_
          refine AX.iload_n dX11_odds_46 1 rfl rfl ?_
          obtain ⟨b8, hz⟩ := ite_n hz
          refine AX.ialdE (v := σ.1 50 p0.toNatClampNeg) dX11_odds_47 rfl b8 rfl ?_
          refine AX.imul dX11_odds_48 ?_
          refine AX.aload_n dX11_odds_49 0 rfl rfl ?_
          refine AX.getR dX11_odds_50 flRX11_28 rfl rfl ?_
          refine AX.iload_n dX11_odds_53 1 rfl rfl ?_
          refine AX.ialdE (v := σ.1 51 p0.toNatClampNeg) dX11_odds_54 rfl b8 rfl ?_
          refine AX.iadd dX11_odds_55 ?_
          obtain ⟨x9, hx9, hz⟩ := ltb_e hz
          refine AX.topI hx9 ?_
          refine AX.istore (ls' := [(0, .ref (G.2.2.1 44)), (1, .int p0), (2, .int p1), (3, .int p2), (4, .int x9)]) dX11_odds_56 (Nat.le_of_ble_eq_true rfl) rfl ?_
          refine AX.aload_n dX11_odds_58 0 rfl rfl ?_
          refine AX.getR dX11_odds_59 flRX11_25 rfl rfl ?_
          refine AX.iload_n dX11_odds_62 1 rfl rfl ?_
          refine AX.iload_n dX11_odds_63 2 rfl rfl ?_
          refine AX.iast dX11_odds_64 rfl b8 ?_
          refine AX.aload_n dX11_odds_65 0 rfl rfl ?_
          refine AX.getR dX11_odds_66 flRX11_28 rfl rfl ?_
          refine AX.iload_n dX11_odds_69 1 rfl rfl ?_
          refine AX.iload_n dX11_odds_70 3 rfl rfl ?_
          refine AX.iast dX11_odds_71 rfl b8 ?_
          refine AX.iload dX11_odds_72 4 rfl ?_
          exact AX.ireturn dX11_odds_74 rfl (vp_nar_int _) (kz (P := fun z => Q (some (.int z.1)) z.2) hz hk)
        · replace hz := (if_neg c7).symm.trans hz
          exact AX.sub (ls' := []) [] rfl (wfX11_odds_j37  σ hz hk)
theorem xX11_odds {G : ag_G} (p0 : Int32) (p1 : Int32) (p2 : Int32) (σ : St) {z : Int32 × St} (hz : fX11_odds p0 p1 p2 σ = some z) : AC G yX11_odds mX11_odds 1 22 [.ref (G.2.2.1 44), .int p0, .int p1, .int p2] σ (fun v σ1 => v = some (.int z.1) ∧ σ1 = z.2) := AC.of (plainFor_of_name (by decide)) rfl (Nat.le_of_ble_eq_true rfl) (wfX11_odds p0 p1 p2 σ hz ⟨rfl, rfl⟩)
noncomputable def fX11_set_j47  (σ : St) : Option (Int32 × St) :=
  some ((-2 : Int32), σ)
theorem wfX11_set_j47 {G : ag_G}  (σ : St) {z : Int32 × St} (hz : fX11_set_j47  σ = some z) {Q : Option Value → St → Prop} (hk : Q (some (.int z.1)) z.2) : AX G mX11_set 1 22 47 [] [] σ Q := by
  unfold fX11_set_j47 at hz
  refine AX.bipush dX11_set_47 bp_m2 ?_
  exact AX.ireturn dX11_set_49 rfl (vp_nar_int _) (kz (P := fun z => Q (some (.int z.1)) z.2) hz hk)
noncomputable def fX11_set_j27 (l1 : Int32) (l2 : Int32) (t0 : Int32) (σ : St) : Option (Int32 × St) :=
  (fX11_in l1 (0 : Int32) (8 : Int32)).bind fun q1 => if q1 = (0 : Int32) then fX11_set_j47  σ else (fX11_in l2 (0 : Int32) t0).bind fun q3 => if q3 = (0 : Int32) then fX11_set_j47  σ else if inb l1 9 = true then ltb (σ.1 52 l1.toNatClampNeg) fun x6 => some (x6, (sI σ 52 l1.toNatClampNeg l2)) else none
theorem wfX11_set_j27 {G : ag_G} (l1 : Int32) (l2 : Int32) (t0 : Int32) (σ : St) {z : Int32 × St} (hz : fX11_set_j27 l1 l2 t0 σ = some z) {Q : Option Value → St → Prop} (hk : Q (some (.int z.1)) z.2) : AX G mX11_set 1 22 27 [(0, .ref (G.2.2.1 44)), (1, .int l1), (2, .int l2)] [.int t0] σ Q := by
  unfold fX11_set_j27 at hz
  refine AX.istore_n (ls' := [(0, .ref (G.2.2.1 44)), (1, .int l1), (2, .int l2), (3, .int t0)]) dX11_set_27 rfl (Nat.le_of_ble_eq_true rfl) rfl ?_
  refine AX.iload_n dX11_set_28 1 rfl rfl ?_
  refine AX.iconst dX11_set_29 ic_0 ?_
  refine AX.bipush dX11_set_30 bp_8 ?_
  obtain ⟨q1, hq1, hz⟩ := obind hz
  refine AX.callSw (As := [.int l1, .int 0, .int 8]) (rest := []) (w := some (.int q1)) (st' := [.int q1]) dX11_set_32 mlRX11_89 ylX11_in ysX11_in rfl rfl (Nat.le_of_ble_eq_true rfl) ⟨Nat.le_of_ble_eq_true rfl, Nat.le_of_ble_eq_true rfl⟩ (xX11_in l1 (0 : Int32) (8 : Int32) σ hq1) rfl ?_
  refine AX.if_eq (tgt := 47) dX11_set_35 rfl (fun c2 => ?_) (fun c2 => ?_)
  · replace hz := (if_pos c2).symm.trans hz
    exact AX.sub (ls' := []) [] rfl (wfX11_set_j47  σ hz hk)
  · replace hz := (if_neg c2).symm.trans hz
    refine AX.iload_n dX11_set_38 2 rfl rfl ?_
    refine AX.iconst dX11_set_39 ic_0 ?_
    refine AX.iload_n dX11_set_40 3 rfl rfl ?_
    obtain ⟨q3, hq3, hz⟩ := obind hz
    refine AX.callSw (As := [.int l2, .int 0, .int t0]) (rest := []) (w := some (.int q3)) (st' := [.int q3]) dX11_set_41 mlRX11_89 ylX11_in ysX11_in rfl rfl (Nat.le_of_ble_eq_true rfl) ⟨Nat.le_of_ble_eq_true rfl, Nat.le_of_ble_eq_true rfl⟩ (xX11_in l2 (0 : Int32) t0 σ hq3) rfl ?_
    refine AX.if_ne (tgt := 50) dX11_set_44 rfl (fun c4 => ?_) (fun c4 => ?_)
    · replace hz := (if_neg c4).symm.trans hz
      refine AX.aload_n dX11_set_50 0 rfl rfl ?_
      refine AX.getR dX11_set_51 flRX11_31 rfl rfl ?_
      refine AX.iload_n dX11_set_54 1 rfl rfl ?_
      obtain ⟨b5, hz⟩ := ite_n hz
      refine AX.ialdE (v := σ.1 52 l1.toNatClampNeg) dX11_set_55 rfl b5 rfl ?_
      obtain ⟨x6, hx6, hz⟩ := ltb_e hz
      refine AX.topI hx6 ?_
      refine AX.istore (ls' := [(0, .ref (G.2.2.1 44)), (1, .int l1), (2, .int l2), (3, .int t0), (4, .int x6)]) dX11_set_56 (Nat.le_of_ble_eq_true rfl) rfl ?_
      refine AX.aload_n dX11_set_58 0 rfl rfl ?_
      refine AX.getR dX11_set_59 flRX11_31 rfl rfl ?_
      refine AX.iload_n dX11_set_62 1 rfl rfl ?_
      refine AX.iload_n dX11_set_63 2 rfl rfl ?_
      refine AX.iast dX11_set_64 rfl b5 ?_
      refine AX.iload dX11_set_65 4 rfl ?_
      exact AX.ireturn dX11_set_67 rfl (vp_nar_int _) (kz (P := fun z => Q (some (.int z.1)) z.2) hz hk)
    · replace hz := (if_pos c4).symm.trans hz
      exact AX.sub (ls' := []) [] rfl (wfX11_set_j47  σ hz hk)
noncomputable def fX11_set_j10 (l1 : Int32) (l2 : Int32) (σ : St) : Option (Int32 × St) :=
  fX11_set_j27 l1 l2 99 σ
theorem wfX11_set_j10 {G : ag_G} (l1 : Int32) (l2 : Int32) (σ : St) {z : Int32 × St} (hz : fX11_set_j10 l1 l2 σ = some z) {Q : Option Value → St → Prop} (hk : Q (some (.int z.1)) z.2) : AX G mX11_set 1 22 10 [(0, .ref (G.2.2.1 44)), (1, .int l1), (2, .int l2)] [] σ Q := by
  unfold fX11_set_j10 at hz
  refine AX.bipush dX11_set_10 bp_99 ?_
  refine AX.goto (tgt := 27) dX11_set_12 rfl ?_
  exact AX.sub (ls' := [(0, .ref (G.2.2.1 44)), (1, .int l1), (2, .int l2)]) [0, 1, 2] rfl (wfX11_set_j27 l1 l2 99 σ hz hk)
noncomputable def fX11_set (p0 : Int32) (p1 : Int32) (σ : St) : Option (Int32 × St) :=
  if p0 = (4 : Int32) then fX11_set_j10 p0 p1 σ else if p0 = (5 : Int32) then fX11_set_j10 p0 p1 σ else if p0 ≤ (6 : Int32) then fX11_set_j27 p0 p1 16 σ else fX11_set_j27 p0 p1 4 σ
theorem wfX11_set {G : ag_G} (p0 : Int32) (p1 : Int32) (σ : St) {z : Int32 × St} (hz : fX11_set p0 p1 σ = some z) {Q : Option Value → St → Prop} (hk : Q (some (.int z.1)) z.2) : AX G mX11_set 1 22 0 [(0, .ref (G.2.2.1 44)), (1, .int p0), (2, .int p1)] [] σ Q := by
  unfold fX11_set at hz
  refine AX.iload_n dX11_set_0 1 rfl rfl ?_
  refine AX.iconst dX11_set_1 ic_4 ?_
  refine AX.icmp_eq (tgt := 10) dX11_set_2 rfl (fun c1 => ?_) (fun c1 => ?_)
  · replace hz := (if_pos c1).symm.trans hz
    exact AX.sub (ls' := [(0, .ref (G.2.2.1 44)), (1, .int p0), (2, .int p1)]) [0, 1, 2] rfl (wfX11_set_j10 p0 p1 σ hz hk)
  · replace hz := (if_neg c1).symm.trans hz
    refine AX.iload_n dX11_set_5 1 rfl rfl ?_
    refine AX.iconst dX11_set_6 ic_5 ?_
    refine AX.icmp_ne (tgt := 15) dX11_set_7 rfl (fun c2 => ?_) (fun c2 => ?_)
    · replace hz := (if_neg c2).symm.trans hz
      refine AX.iload_n dX11_set_15 1 rfl rfl ?_
      refine AX.bipush dX11_set_16 bp_6 ?_
      refine AX.icmp_le (tgt := 25) dX11_set_18 rfl (fun c3 => ?_) (fun c3 => ?_)
      · replace hz := (if_pos c3).symm.trans hz
        refine AX.bipush dX11_set_25 bp_16 ?_
        exact AX.sub (ls' := [(0, .ref (G.2.2.1 44)), (1, .int p0), (2, .int p1)]) [0, 1, 2] rfl (wfX11_set_j27 p0 p1 16 σ hz hk)
      · replace hz := (if_neg c3).symm.trans hz
        refine AX.iconst dX11_set_21 ic_4 ?_
        refine AX.goto (tgt := 27) dX11_set_22 rfl ?_
        exact AX.sub (ls' := [(0, .ref (G.2.2.1 44)), (1, .int p0), (2, .int p1)]) [0, 1, 2] rfl (wfX11_set_j27 p0 p1 4 σ hz hk)
    · replace hz := (if_pos c2).symm.trans hz
      exact AX.sub (ls' := [(0, .ref (G.2.2.1 44)), (1, .int p0), (2, .int p1)]) [0, 1, 2] rfl (wfX11_set_j10 p0 p1 σ hz hk)
theorem xX11_set {G : ag_G} (p0 : Int32) (p1 : Int32) (σ : St) {z : Int32 × St} (hz : fX11_set p0 p1 σ = some z) : AC G yX11_set mX11_set 1 22 [.ref (G.2.2.1 44), .int p0, .int p1] σ (fun v σ1 => v = some (.int z.1) ∧ σ1 = z.2) := AC.of (plainFor_of_name (by decide)) rfl (Nat.le_of_ble_eq_true rfl) (wfX11_set p0 p1 σ hz ⟨rfl, rfl⟩)
noncomputable def fX11_isNumber (p0 : Int32) : Option (Int32) :=
  (fX11_in p0 (1 : Int32) (110 : Int32)).bind fun q1 => if zb q1 = true then some q1 else none
theorem wfX11_isNumber {G : ag_G} (p0 : Int32) (σ : St) {z : Int32} (hz : fX11_isNumber p0 = some z) {Q : Option Value → St → Prop} (hk : Q (some (.int z)) σ) : AX G mX11_isNumber 1 22 0 [(0, .int p0)] [] σ Q := by
  unfold fX11_isNumber at hz
  refine AX.iload_n dX11_isNumber_0 0 rfl rfl ?_
  refine AX.iconst dX11_isNumber_1 ic_1 ?_
  refine AX.bipush dX11_isNumber_2 bp_110 ?_
  obtain ⟨q1, hq1, hz⟩ := obind hz
  refine AX.callSw (As := [.int p0, .int 1, .int 110]) (rest := []) (w := some (.int q1)) (st' := [.int q1]) dX11_isNumber_4 mlRX11_89 ylX11_in ysX11_in rfl rfl (Nat.le_of_ble_eq_true rfl) ⟨Nat.le_of_ble_eq_true rfl, Nat.le_of_ble_eq_true rfl⟩ (xX11_in p0 (1 : Int32) (110 : Int32) σ hq1) rfl ?_
  obtain ⟨b2, hz⟩ := ite_n hz
  exact AX.ireturn dX11_isNumber_7 rfl (zb_nar b2) (kz (P := fun z => Q (some (.int z)) σ) hz hk)
theorem xX11_isNumber {G : ag_G} (p0 : Int32) (σ : St) {z : Int32} (hz : fX11_isNumber p0 = some z) : AC G yX11_isNumber mX11_isNumber 1 22 [.int p0] σ (fun v σ1 => v = some (.int z) ∧ σ1 = σ) := AC.of (plainFor_of_name (by decide)) rfl (Nat.le_of_ble_eq_true rfl) (wfX11_isNumber p0 σ hz ⟨rfl, rfl⟩)
noncomputable def fX11_isSheet (p0 : Int32) : Option (Int32) :=
  (fX11_in p0 (0 : Int32) (3 : Int32)).bind fun q1 => if zb q1 = true then some q1 else none
theorem wfX11_isSheet {G : ag_G} (p0 : Int32) (σ : St) {z : Int32} (hz : fX11_isSheet p0 = some z) {Q : Option Value → St → Prop} (hk : Q (some (.int z)) σ) : AX G mX11_isSheet 1 22 0 [(0, .int p0)] [] σ Q := by
  unfold fX11_isSheet at hz
  refine AX.iload_n dX11_isSheet_0 0 rfl rfl ?_
  refine AX.iconst dX11_isSheet_1 ic_0 ?_
  refine AX.iconst dX11_isSheet_2 ic_3 ?_
  obtain ⟨q1, hq1, hz⟩ := obind hz
  refine AX.callSw (As := [.int p0, .int 0, .int 3]) (rest := []) (w := some (.int q1)) (st' := [.int q1]) dX11_isSheet_3 mlRX11_89 ylX11_in ysX11_in rfl rfl (Nat.le_of_ble_eq_true rfl) ⟨Nat.le_of_ble_eq_true rfl, Nat.le_of_ble_eq_true rfl⟩ (xX11_in p0 (0 : Int32) (3 : Int32) σ hq1) rfl ?_
  obtain ⟨b2, hz⟩ := ite_n hz
  exact AX.ireturn dX11_isSheet_6 rfl (zb_nar b2) (kz (P := fun z => Q (some (.int z)) σ) hz hk)
theorem xX11_isSheet {G : ag_G} (p0 : Int32) (σ : St) {z : Int32} (hz : fX11_isSheet p0 = some z) : AC G yX11_isSheet mX11_isSheet 1 22 [.int p0] σ (fun v σ1 => v = some (.int z) ∧ σ1 = σ) := AC.of (plainFor_of_name (by decide)) rfl (Nat.le_of_ble_eq_true rfl) (wfX11_isSheet p0 σ hz ⟨rfl, rfl⟩)
noncomputable def fX11_meets (p0 : Int32) (σ : St) : Option (Int32 × St) :=
  some (((-10 : Int32) - p0), (sI σ 44 35 p0))
theorem wfX11_meets {G : ag_G} (p0 : Int32) (σ : St) {z : Int32 × St} (hz : fX11_meets p0 σ = some z) {Q : Option Value → St → Prop} (hk : Q (some (.int z.1)) z.2) : AX G mX11_meets 0 0 0 [(0, .ref (G.2.2.1 44)), (1, .int p0)] [] σ Q := by
  unfold fX11_meets at hz
  refine AX.aload_n dX11_meets_0 0 rfl rfl ?_
  refine AX.iload_n dX11_meets_1 1 rfl rfl ?_
  refine AX.putI dX11_meets_2 fpRX11_273 rfl rfl (vp_nar_int _) rfl ?_
  refine AX.bipush dX11_meets_5 bp_m10 ?_
  refine AX.iload_n dX11_meets_7 1 rfl rfl ?_
  refine AX.isub dX11_meets_8 ?_
  exact AX.ireturn dX11_meets_9 rfl (vp_nar_int _) (kz (P := fun z => Q (some (.int z.1)) z.2) hz hk)
theorem xX11_meets {G : ag_G} (p0 : Int32) (σ : St) {z : Int32 × St} (hz : fX11_meets p0 σ = some z) : AC G yX11_meets mX11_meets 0 0 [.ref (G.2.2.1 44), .int p0] σ (fun v σ1 => v = some (.int z.1) ∧ σ1 = z.2) := AC.of (plainFor_of_name (by decide)) rfl (Nat.le_of_ble_eq_true rfl) (wfX11_meets p0 σ hz ⟨rfl, rfl⟩)
noncomputable def fX11_read_b27 (l1 : Int32) (l2 : Int32) (σ : St) : Option ((Int32 × St) ⊕ (Int32 × St)) :=
  if inb l1 4 = true then if (σ.1 67 l1.toNatClampNeg) ≤ l2 then some (.inr (l2, σ)) else if (20 : Int32) ≤ l2 then some (.inr (l2, σ)) else if inb (((48 : Int32) * l1) + l2) 192 = true then (fX11_isNumber (σ.1 68 ((((48 : Int32) * l1) + l2).toNatClampNeg))).bind fun q5 => if q5 = (0 : Int32) then some (.inr (l2, σ)) else if inb l2 20 = true then some (.inl (l2 + 1, (sI σ 53 l2.toNatClampNeg (σ.1 68 ((((48 : Int32) * l1) + l2).toNatClampNeg))))) else none else none else none
theorem wfX11_read_b27 {G : ag_G} (l1 : Int32) (l2 : Int32) (σ : St) {z : (Int32 × St) ⊕ (Int32 × St)} (hz : fX11_read_b27 l1 l2 σ = some z) {Q : Option Value → St → Prop} (K : ((Int32 × St) ⊕ (Int32 × St)) → Prop) (hback : ∀ a : Int32 × St, K (.inl a) → AX G mX11_read 2 42 27 [(0, .ref (G.2.2.1 44)), (1, .int l1), (2, .int a.1)] [] a.2 Q) (hexit0 : ∀ a : Int32 × St, K (.inr a) → AX G mX11_read 2 42 83 [(0, .ref (G.2.2.1 44)), (2, .int a.1)] [] a.2 Q) (hk : K z) : AX G mX11_read 2 42 27 [(0, .ref (G.2.2.1 44)), (1, .int l1), (2, .int l2)] [] σ Q := by
  unfold fX11_read_b27 at hz
  refine AX.iload_n dX11_read_27 2 rfl rfl ?_
  refine AX.aload_n dX11_read_28 0 rfl rfl ?_
  refine AX.getR dX11_read_29 flRX11_78 rfl rfl ?_
  refine AX.iload_n dX11_read_32 1 rfl rfl ?_
  obtain ⟨b1, hz⟩ := ite_n hz
  refine AX.ialdE (v := σ.1 67 l1.toNatClampNeg) dX11_read_33 rfl b1 rfl ?_
  refine AX.icmp_ge (tgt := 83) dX11_read_34 rfl (fun c2 => ?_) (fun c2 => ?_)
  · replace hz := (if_pos c2).symm.trans hz
    exact AX.sub (ls' := [(0, .ref (G.2.2.1 44)), (2, .int l2)]) [0, 2] rfl (hexit0 (l2, σ) (kz (P := K) hz hk))
  · replace hz := (if_neg c2).symm.trans hz
    refine AX.iload_n dX11_read_37 2 rfl rfl ?_
    refine AX.bipush dX11_read_38 bp_20 ?_
    refine AX.icmp_ge (tgt := 83) dX11_read_40 rfl (fun c3 => ?_) (fun c3 => ?_)
    · replace hz := (if_pos c3).symm.trans hz
      exact AX.sub (ls' := [(0, .ref (G.2.2.1 44)), (2, .int l2)]) [0, 2] rfl (hexit0 (l2, σ) (kz (P := K) hz hk))
    · replace hz := (if_neg c3).symm.trans hz
      refine AX.aload_n dX11_read_43 0 rfl rfl ?_
      refine AX.getR dX11_read_44 flRX11_81 rfl rfl ?_
      refine AX.bipush dX11_read_47 bp_48 ?_
      refine AX.iload_n dX11_read_49 1 rfl rfl ?_
      refine AX.imul dX11_read_50 ?_
      refine AX.iload_n dX11_read_51 2 rfl rfl ?_
      refine AX.iadd dX11_read_52 ?_
      obtain ⟨b4, hz⟩ := ite_n hz
      refine AX.ialdE (v := σ.1 68 ((((48 : Int32) * l1) + l2).toNatClampNeg)) dX11_read_53 rfl b4 rfl ?_
      obtain ⟨q5, hq5, hz⟩ := obind hz
      refine AX.callSw (As := [.int (σ.1 68 ((((48 : Int32) * l1) + l2).toNatClampNeg))]) (rest := []) (w := some (.int q5)) (st' := [.int q5]) dX11_read_54 mlRX11_138 ylX11_isNumber ysX11_isNumber rfl rfl (Nat.le_of_ble_eq_true rfl) ⟨Nat.le_of_ble_eq_true rfl, Nat.le_of_ble_eq_true rfl⟩ (xX11_isNumber (σ.1 68 ((((48 : Int32) * l1) + l2).toNatClampNeg)) σ hq5) rfl ?_
      refine AX.if_eq (tgt := 83) dX11_read_57 rfl (fun c6 => ?_) (fun c6 => ?_)
      · replace hz := (if_pos c6).symm.trans hz
        exact AX.sub (ls' := [(0, .ref (G.2.2.1 44)), (2, .int l2)]) [0, 2] rfl (hexit0 (l2, σ) (kz (P := K) hz hk))
      · replace hz := (if_neg c6).symm.trans hz
        refine AX.aload_n dX11_read_60 0 rfl rfl ?_
        refine AX.getR dX11_read_61 flRX11_34 rfl rfl ?_
        refine AX.iload_n dX11_read_64 2 rfl rfl ?_
        refine AX.aload_n dX11_read_65 0 rfl rfl ?_
        refine AX.getR dX11_read_66 flRX11_81 rfl rfl ?_
        refine AX.bipush dX11_read_69 bp_48 ?_
        refine AX.iload_n dX11_read_71 1 rfl rfl ?_
        refine AX.imul dX11_read_72 ?_
        refine AX.iload_n dX11_read_73 2 rfl rfl ?_
        refine AX.iadd dX11_read_74 ?_
        refine AX.ialdE (v := σ.1 68 ((((48 : Int32) * l1) + l2).toNatClampNeg)) dX11_read_75 rfl b4 rfl ?_
        obtain ⟨b7, hz⟩ := ite_n hz
        refine AX.iast dX11_read_76 rfl b7 ?_
        refine AX.iinc (v := l2 + 1) (ls' := [(0, .ref (G.2.2.1 44)), (1, .int l1), (2, .int (l2 + 1))]) 2 dX11_read_77 rfl (Nat.le_of_ble_eq_true rfl) (congrArg (l2 + ·) ic_1) rfl ?_
        refine AX.goto (tgt := 27) dX11_read_80 rfl ?_
        exact AX.sub (ls' := [(0, .ref (G.2.2.1 44)), (1, .int l1), (2, .int (l2 + 1))]) [0, 1, 2] rfl (hback (l2 + 1, (sI σ 53 l2.toNatClampNeg (σ.1 68 ((((48 : Int32) * l1) + l2).toNatClampNeg)))) (kz (P := K) hz hk))
noncomputable def fX11_read (p0 : Int32) (σ : St) : Option (Int32 × St) :=
  (fX11_isSheet p0).bind fun q1 => if q1 = (0 : Int32) then some ((-2 : Int32), σ) else if inb p0 4 = true then if (σ.1 65 p0.toNatClampNeg) = (0 : Int32) then (fX11_meets (1 : Int32) σ).bind fun q6 => some (q6.1, q6.2) else (lpc (fun s => fX11_read_b27 p0 s.1 s.2) (0, σ)).bind fun r5 => some (r5.1, (sI r5.2 44 12 r5.1)) else none
theorem wfX11_read {G : ag_G} (p0 : Int32) (σ : St) {z : Int32 × St} (hz : fX11_read p0 σ = some z) {Q : Option Value → St → Prop} (hk : Q (some (.int z.1)) z.2) : AX G mX11_read 2 42 0 [(0, .ref (G.2.2.1 44)), (1, .int p0)] [] σ Q := by
  unfold fX11_read at hz
  refine AX.iload_n dX11_read_0 1 rfl rfl ?_
  obtain ⟨q1, hq1, hz⟩ := obind hz
  refine AX.callSw (As := [.int p0]) (rest := []) (w := some (.int q1)) (st' := [.int q1]) dX11_read_1 mlRX11_132 ylX11_isSheet ysX11_isSheet rfl rfl (Nat.le_of_ble_eq_true rfl) ⟨Nat.le_of_ble_eq_true rfl, Nat.le_of_ble_eq_true rfl⟩ (xX11_isSheet p0 σ hq1) rfl ?_
  refine AX.if_ne (tgt := 10) dX11_read_4 rfl (fun c2 => ?_) (fun c2 => ?_)
  · replace hz := (if_neg c2).symm.trans hz
    refine AX.aload_n dX11_read_10 0 rfl rfl ?_
    refine AX.getR dX11_read_11 flRX11_71 rfl rfl ?_
    refine AX.iload_n dX11_read_14 1 rfl rfl ?_
    obtain ⟨b3, hz⟩ := ite_n hz
    refine AX.zaldE (v := σ.1 65 p0.toNatClampNeg) (n := 4) (rs := []) dX11_read_15 rfl b3 rfl ?_
    refine AX.if_ne (tgt := 25) dX11_read_16 rfl (fun c4 => ?_) (fun c4 => ?_)
    · replace hz := (if_neg c4).symm.trans hz
      refine AX.iconst dX11_read_25 ic_0 ?_
      refine AX.istore_n (ls' := [(0, .ref (G.2.2.1 44)), (1, .int p0), (2, .int 0)]) dX11_read_26 rfl (Nat.le_of_ble_eq_true rfl) rfl ?_
      obtain ⟨r5, hr5, hz⟩ := obind hz
      refine AX.sub (ls' := [(0, .ref (G.2.2.1 44)), (1, .int p0), (2, .int 0)]) [0, 1, 2] rfl ?_
      refine lpc_ind (s := (0, σ)) (r := r5) (fun s => AX G mX11_read 2 42 27 [(0, .ref (G.2.2.1 44)), (1, .int p0), (2, .int s.1)] [] s.2 Q) (fun a : Int32 × St => AX G mX11_read 2 42 83 [(0, .ref (G.2.2.1 44)), (2, .int a.1)] [] a.2 Q) hr5 (fun s z hb hK => wfX11_read_b27 p0 s.1 s.2 hb (Sum.elim (fun s => AX G mX11_read 2 42 27 [(0, .ref (G.2.2.1 44)), (1, .int p0), (2, .int s.1)] [] s.2 Q) (fun a : Int32 × St => AX G mX11_read 2 42 83 [(0, .ref (G.2.2.1 44)), (2, .int a.1)] [] a.2 Q)) (fun _ h9 => h9) (fun _ h9 => h9) hK) ?_
      refine AX.aload_n dX11_read_83 0 rfl rfl ?_
      refine AX.iload_n dX11_read_84 1 rfl rfl ?_
      refine AX.putI dX11_read_85 fpRX11_141 rfl rfl (vp_nar_int _) rfl ?_
      refine AX.iload_n dX11_read_88 1 rfl rfl ?_
      exact AX.ireturn dX11_read_89 rfl (vp_nar_int _) (kz (P := fun z => Q (some (.int z.1)) z.2) hz hk)
    · replace hz := (if_pos c4).symm.trans hz
      refine AX.aload_n dX11_read_19 0 rfl rfl ?_
      refine AX.iconst dX11_read_20 ic_1 ?_
      obtain ⟨q6, hq6, hz⟩ := obind hz
      refine AX.callVw (r := 44) (As := [.int 1]) (rest := []) (w := some (.int q6.1)) (st' := [.int q6.1]) dX11_read_21 mlRX11_135 ylX11_meets yvX11_meets rfl rfl rfl (Nat.le_of_ble_eq_true rfl) ⟨Nat.le_of_ble_eq_true rfl, Nat.le_of_ble_eq_true rfl⟩ (xX11_meets (1 : Int32) σ hq6) rfl ?_
      exact AX.ireturn dX11_read_24 rfl (vp_nar_int _) (kz (P := fun z => Q (some (.int z.1)) z.2) hz hk)
  · replace hz := (if_pos c2).symm.trans hz
    refine AX.bipush dX11_read_7 bp_m2 ?_
    exact AX.ireturn dX11_read_9 rfl (vp_nar_int _) (kz (P := fun z => Q (some (.int z.1)) z.2) hz hk)
theorem xX11_read {G : ag_G} (p0 : Int32) (σ : St) {z : Int32 × St} (hz : fX11_read p0 σ = some z) : AC G yX11_read mX11_read 2 42 [.ref (G.2.2.1 44), .int p0] σ (fun v σ1 => v = some (.int z.1) ∧ σ1 = z.2) := AC.of (plainFor_of_name (by decide)) rfl (Nat.le_of_ble_eq_true rfl) (wfX11_read p0 σ hz ⟨rfl, rfl⟩)
noncomputable def fX11_notesMore (p0 : Int32) (p1 : Int32) (p2 : Int32) (σ : St) : Option (Int32 × St) :=
  if (σ.1 44 15) = (4 : Int32) then some ((-4 : Int32), σ) else if inb (σ.1 44 15) 4 = true then some (((σ.1 44 15) + (1 : Int32)), (sI (sI (sI (sI σ 54 ((σ.1 44 15).toNatClampNeg) p0) 55 ((σ.1 44 15).toNatClampNeg) p1) 56 ((σ.1 44 15).toNatClampNeg) p2) 44 15 ((σ.1 44 15) + (1 : Int32)))) else none
theorem wfX11_notesMore {G : ag_G} (p0 : Int32) (p1 : Int32) (p2 : Int32) (σ : St) {z : Int32 × St} (hz : fX11_notesMore p0 p1 p2 σ = some z) {Q : Option Value → St → Prop} (hk : Q (some (.int z.1)) z.2) : AX G mX11_notesMore 0 0 0 [(0, .ref (G.2.2.1 44)), (1, .int p0), (2, .int p1), (3, .int p2)] [] σ Q := by
  unfold fX11_notesMore at hz
  refine AX.aload_n dX11_notesMore_0 0 rfl rfl ?_
  refine AX.getIE (v := σ.1 44 15) dX11_notesMore_1 flRX11_144 rfl rfl rfl ?_
  refine AX.iconst dX11_notesMore_4 ic_4 ?_
  refine AX.icmp_ne (tgt := 11) dX11_notesMore_5 rfl (fun c1 => ?_) (fun c1 => ?_)
  · replace hz := (if_neg c1).symm.trans hz
    refine AX.aload_n dX11_notesMore_11 0 rfl rfl ?_
    refine AX.getR dX11_notesMore_12 flRX11_37 rfl rfl ?_
    refine AX.aload_n dX11_notesMore_15 0 rfl rfl ?_
    refine AX.getIE (v := σ.1 44 15) dX11_notesMore_16 flRX11_144 rfl rfl rfl ?_
    refine AX.iload_n dX11_notesMore_19 1 rfl rfl ?_
    obtain ⟨b2, hz⟩ := ite_n hz
    refine AX.iast dX11_notesMore_20 rfl b2 ?_
    refine AX.aload_n dX11_notesMore_21 0 rfl rfl ?_
    refine AX.getR dX11_notesMore_22 flRX11_40 rfl rfl ?_
    refine AX.aload_n dX11_notesMore_25 0 rfl rfl ?_
    refine AX.getIE (v := σ.1 44 15) dX11_notesMore_26 flRX11_144 rfl rfl rfl ?_
    refine AX.iload_n dX11_notesMore_29 2 rfl rfl ?_
    refine AX.iast dX11_notesMore_30 rfl b2 ?_
    refine AX.aload_n dX11_notesMore_31 0 rfl rfl ?_
    refine AX.getR dX11_notesMore_32 flRX11_43 rfl rfl ?_
    refine AX.aload_n dX11_notesMore_35 0 rfl rfl ?_
    refine AX.getIE (v := σ.1 44 15) dX11_notesMore_36 flRX11_144 rfl rfl rfl ?_
    refine AX.iload_n dX11_notesMore_39 3 rfl rfl ?_
    refine AX.iast dX11_notesMore_40 rfl b2 ?_
    refine AX.aload_n dX11_notesMore_41 0 rfl rfl ?_
    refine AX.dup dX11_notesMore_42 rfl ?_
    refine AX.getIE (v := σ.1 44 15) dX11_notesMore_43 flRX11_144 rfl rfl rfl ?_
    refine AX.iconst dX11_notesMore_46 ic_1 ?_
    refine AX.iadd dX11_notesMore_47 ?_
    refine AX.putI dX11_notesMore_48 fpRX11_144 rfl rfl (vp_nar_int _) rfl ?_
    refine AX.aload_n dX11_notesMore_51 0 rfl rfl ?_
    refine AX.getIE (v := (σ.1 44 15) + (1 : Int32)) dX11_notesMore_52 flRX11_144 rfl rfl rfl ?_
    exact AX.ireturn dX11_notesMore_55 rfl (vp_nar_int _) (kz (P := fun z => Q (some (.int z.1)) z.2) hz hk)
  · replace hz := (if_pos c1).symm.trans hz
    refine AX.bipush dX11_notesMore_8 bp_m4 ?_
    exact AX.ireturn dX11_notesMore_10 rfl (vp_nar_int _) (kz (P := fun z => Q (some (.int z.1)) z.2) hz hk)
theorem xX11_notesMore {G : ag_G} (p0 : Int32) (p1 : Int32) (p2 : Int32) (σ : St) {z : Int32 × St} (hz : fX11_notesMore p0 p1 p2 σ = some z) : AC G yX11_notesMore mX11_notesMore 0 0 [.ref (G.2.2.1 44), .int p0, .int p1, .int p2] σ (fun v σ1 => v = some (.int z.1) ∧ σ1 = z.2) := AC.of (plainFor_of_name (by decide)) rfl (Nat.le_of_ble_eq_true rfl) (wfX11_notesMore p0 p1 p2 σ hz ⟨rfl, rfl⟩)
noncomputable def fX11_hear_j26  (σ : St) : Option (Int32 × St) :=
  some ((-2 : Int32), σ)
theorem wfX11_hear_j26 {G : ag_G}  (σ : St) {z : Int32 × St} (hz : fX11_hear_j26  σ = some z) {Q : Option Value → St → Prop} (hk : Q (some (.int z.1)) z.2) : AX G mX11_hear 2 42 26 [] [] σ Q := by
  unfold fX11_hear_j26 at hz
  refine AX.bipush dX11_hear_26 bp_m2 ?_
  exact AX.ireturn dX11_hear_28 rfl (vp_nar_int _) (kz (P := fun z => Q (some (.int z.1)) z.2) hz hk)
noncomputable def fX11_hear (p0 : Int32) (p1 : Int32) (σ : St) : Option (Int32 × St) :=
  (fX11_isNumber p0).bind fun q1 => if q1 = (0 : Int32) then fX11_hear_j26  σ else (fX11_in p1 (0 : Int32) (3 : Int32)).bind fun q3 => if q3 = (0 : Int32) then fX11_hear_j26  σ else (fX11_notesMore p0 p1 (-1 : Int32) σ).bind fun q5 => some (q5.1, q5.2)
theorem wfX11_hear {G : ag_G} (p0 : Int32) (p1 : Int32) (σ : St) {z : Int32 × St} (hz : fX11_hear p0 p1 σ = some z) {Q : Option Value → St → Prop} (hk : Q (some (.int z.1)) z.2) : AX G mX11_hear 2 42 0 [(0, .ref (G.2.2.1 44)), (1, .int p0), (2, .int p1)] [] σ Q := by
  unfold fX11_hear at hz
  refine AX.iload_n dX11_hear_0 1 rfl rfl ?_
  obtain ⟨q1, hq1, hz⟩ := obind hz
  refine AX.callSw (As := [.int p0]) (rest := []) (w := some (.int q1)) (st' := [.int q1]) dX11_hear_1 mlRX11_138 ylX11_isNumber ysX11_isNumber rfl rfl (Nat.le_of_ble_eq_true rfl) ⟨Nat.le_of_ble_eq_true rfl, Nat.le_of_ble_eq_true rfl⟩ (xX11_isNumber p0 σ hq1) rfl ?_
  refine AX.if_eq (tgt := 26) dX11_hear_4 rfl (fun c2 => ?_) (fun c2 => ?_)
  · replace hz := (if_pos c2).symm.trans hz
    exact AX.sub (ls' := []) [] rfl (wfX11_hear_j26  σ hz hk)
  · replace hz := (if_neg c2).symm.trans hz
    refine AX.iload_n dX11_hear_7 2 rfl rfl ?_
    refine AX.iconst dX11_hear_8 ic_0 ?_
    refine AX.iconst dX11_hear_9 ic_3 ?_
    obtain ⟨q3, hq3, hz⟩ := obind hz
    refine AX.callSw (As := [.int p1, .int 0, .int 3]) (rest := []) (w := some (.int q3)) (st' := [.int q3]) dX11_hear_10 mlRX11_89 ylX11_in ysX11_in rfl rfl (Nat.le_of_ble_eq_true rfl) ⟨Nat.le_of_ble_eq_true rfl, Nat.le_of_ble_eq_true rfl⟩ (xX11_in p1 (0 : Int32) (3 : Int32) σ hq3) rfl ?_
    refine AX.if_eq (tgt := 26) dX11_hear_13 rfl (fun c4 => ?_) (fun c4 => ?_)
    · replace hz := (if_pos c4).symm.trans hz
      exact AX.sub (ls' := []) [] rfl (wfX11_hear_j26  σ hz hk)
    · replace hz := (if_neg c4).symm.trans hz
      refine AX.aload_n dX11_hear_16 0 rfl rfl ?_
      refine AX.iload_n dX11_hear_17 1 rfl rfl ?_
      refine AX.iload_n dX11_hear_18 2 rfl rfl ?_
      refine AX.iconst dX11_hear_19 ic_m1 ?_
      obtain ⟨q5, hq5, hz⟩ := obind hz
      refine AX.callVw (r := 44) (As := [.int p0, .int p1, .int (-1)]) (rest := []) (w := some (.int q5.1)) (st' := [.int q5.1]) dX11_hear_20 mlRX11_147 ylX11_notesMore yvX11_notesMore rfl rfl rfl (Nat.le_of_ble_eq_true rfl) ⟨Nat.le_of_ble_eq_true rfl, Nat.le_of_ble_eq_true rfl⟩ (xX11_notesMore p0 p1 (-1 : Int32) σ hq5) rfl ?_
      refine AX.goto (tgt := 28) dX11_hear_23 rfl ?_
      exact AX.ireturn dX11_hear_28 rfl (vp_nar_int _) (kz (P := fun z => Q (some (.int z.1)) z.2) hz hk)
theorem xX11_hear {G : ag_G} (p0 : Int32) (p1 : Int32) (σ : St) {z : Int32 × St} (hz : fX11_hear p0 p1 σ = some z) : AC G yX11_hear mX11_hear 2 42 [.ref (G.2.2.1 44), .int p0, .int p1] σ (fun v σ1 => v = some (.int z.1) ∧ σ1 = z.2) := AC.of (plainFor_of_name (by decide)) rfl (Nat.le_of_ble_eq_true rfl) (wfX11_hear p0 p1 σ hz ⟨rfl, rfl⟩)
noncomputable def fX11_shown_j27  (σ : St) : Option (Int32 × St) :=
  some ((-2 : Int32), σ)
theorem wfX11_shown_j27 {G : ag_G}  (σ : St) {z : Int32 × St} (hz : fX11_shown_j27  σ = some z) {Q : Option Value → St → Prop} (hk : Q (some (.int z.1)) z.2) : AX G mX11_shown 2 42 27 [] [] σ Q := by
  unfold fX11_shown_j27 at hz
  refine AX.bipush dX11_shown_27 bp_m2 ?_
  exact AX.ireturn dX11_shown_29 rfl (vp_nar_int _) (kz (P := fun z => Q (some (.int z.1)) z.2) hz hk)
noncomputable def fX11_shown (p0 : Int32) (p1 : Int32) (σ : St) : Option (Int32 × St) :=
  (fX11_isNumber p0).bind fun q1 => if q1 = (0 : Int32) then fX11_shown_j27  σ else (fX11_in p1 (0 : Int32) (98 : Int32)).bind fun q3 => if q3 = (0 : Int32) then fX11_shown_j27  σ else (fX11_notesMore p0 (-1 : Int32) p1 σ).bind fun q5 => some (q5.1, q5.2)
theorem wfX11_shown {G : ag_G} (p0 : Int32) (p1 : Int32) (σ : St) {z : Int32 × St} (hz : fX11_shown p0 p1 σ = some z) {Q : Option Value → St → Prop} (hk : Q (some (.int z.1)) z.2) : AX G mX11_shown 2 42 0 [(0, .ref (G.2.2.1 44)), (1, .int p0), (2, .int p1)] [] σ Q := by
  unfold fX11_shown at hz
  refine AX.iload_n dX11_shown_0 1 rfl rfl ?_
  obtain ⟨q1, hq1, hz⟩ := obind hz
  refine AX.callSw (As := [.int p0]) (rest := []) (w := some (.int q1)) (st' := [.int q1]) dX11_shown_1 mlRX11_138 ylX11_isNumber ysX11_isNumber rfl rfl (Nat.le_of_ble_eq_true rfl) ⟨Nat.le_of_ble_eq_true rfl, Nat.le_of_ble_eq_true rfl⟩ (xX11_isNumber p0 σ hq1) rfl ?_
  refine AX.if_eq (tgt := 27) dX11_shown_4 rfl (fun c2 => ?_) (fun c2 => ?_)
  · replace hz := (if_pos c2).symm.trans hz
    exact AX.sub (ls' := []) [] rfl (wfX11_shown_j27  σ hz hk)
  · replace hz := (if_neg c2).symm.trans hz
    refine AX.iload_n dX11_shown_7 2 rfl rfl ?_
    refine AX.iconst dX11_shown_8 ic_0 ?_
    refine AX.bipush dX11_shown_9 bp_98 ?_
    obtain ⟨q3, hq3, hz⟩ := obind hz
    refine AX.callSw (As := [.int p1, .int 0, .int 98]) (rest := []) (w := some (.int q3)) (st' := [.int q3]) dX11_shown_11 mlRX11_89 ylX11_in ysX11_in rfl rfl (Nat.le_of_ble_eq_true rfl) ⟨Nat.le_of_ble_eq_true rfl, Nat.le_of_ble_eq_true rfl⟩ (xX11_in p1 (0 : Int32) (98 : Int32) σ hq3) rfl ?_
    refine AX.if_eq (tgt := 27) dX11_shown_14 rfl (fun c4 => ?_) (fun c4 => ?_)
    · replace hz := (if_pos c4).symm.trans hz
      exact AX.sub (ls' := []) [] rfl (wfX11_shown_j27  σ hz hk)
    · replace hz := (if_neg c4).symm.trans hz
      refine AX.aload_n dX11_shown_17 0 rfl rfl ?_
      refine AX.iload_n dX11_shown_18 1 rfl rfl ?_
      refine AX.iconst dX11_shown_19 ic_m1 ?_
      refine AX.iload_n dX11_shown_20 2 rfl rfl ?_
      obtain ⟨q5, hq5, hz⟩ := obind hz
      refine AX.callVw (r := 44) (As := [.int p0, .int (-1), .int p1]) (rest := []) (w := some (.int q5.1)) (st' := [.int q5.1]) dX11_shown_21 mlRX11_147 ylX11_notesMore yvX11_notesMore rfl rfl rfl (Nat.le_of_ble_eq_true rfl) ⟨Nat.le_of_ble_eq_true rfl, Nat.le_of_ble_eq_true rfl⟩ (xX11_notesMore p0 (-1 : Int32) p1 σ hq5) rfl ?_
      refine AX.goto (tgt := 29) dX11_shown_24 rfl ?_
      exact AX.ireturn dX11_shown_29 rfl (vp_nar_int _) (kz (P := fun z => Q (some (.int z.1)) z.2) hz hk)
theorem xX11_shown {G : ag_G} (p0 : Int32) (p1 : Int32) (σ : St) {z : Int32 × St} (hz : fX11_shown p0 p1 σ = some z) : AC G yX11_shown mX11_shown 2 42 [.ref (G.2.2.1 44), .int p0, .int p1] σ (fun v σ1 => v = some (.int z.1) ∧ σ1 = z.2) := AC.of (plainFor_of_name (by decide)) rfl (Nat.le_of_ble_eq_true rfl) (wfX11_shown p0 p1 σ hz ⟨rfl, rfl⟩)
noncomputable def fX11_forget  (σ : St) : Option (Int32 × St) :=
  ltb (σ.1 44 15) fun x1 => some (x1, (sI σ 44 15 0))
theorem wfX11_forget {G : ag_G}  (σ : St) {z : Int32 × St} (hz : fX11_forget  σ = some z) {Q : Option Value → St → Prop} (hk : Q (some (.int z.1)) z.2) : AX G mX11_forget 0 0 0 [(0, .ref (G.2.2.1 44))] [] σ Q := by
  unfold fX11_forget at hz
  refine AX.aload_n dX11_forget_0 0 rfl rfl ?_
  refine AX.getIE (v := σ.1 44 15) dX11_forget_1 flRX11_144 rfl rfl rfl ?_
  obtain ⟨x1, hx1, hz⟩ := ltb_e hz
  refine AX.topI hx1 ?_
  refine AX.istore_n (ls' := [(0, .ref (G.2.2.1 44)), (1, .int x1)]) dX11_forget_4 rfl (Nat.le_of_ble_eq_true rfl) rfl ?_
  refine AX.aload_n dX11_forget_5 0 rfl rfl ?_
  refine AX.iconst dX11_forget_6 ic_0 ?_
  refine AX.putI dX11_forget_7 fpRX11_144 rfl rfl (vp_nar_int _) rfl ?_
  refine AX.iload_n dX11_forget_10 1 rfl rfl ?_
  exact AX.ireturn dX11_forget_11 rfl (vp_nar_int _) (kz (P := fun z => Q (some (.int z.1)) z.2) hz hk)
theorem xX11_forget {G : ag_G}  (σ : St) {z : Int32 × St} (hz : fX11_forget  σ = some z) : AC G yX11_forget mX11_forget 0 0 [.ref (G.2.2.1 44)] σ (fun v σ1 => v = some (.int z.1) ∧ σ1 = z.2) := AC.of (plainFor_of_name (by decide)) rfl (Nat.le_of_ble_eq_true rfl) (wfX11_forget  σ hz ⟨rfl, rfl⟩)
noncomputable def fX11_notesWeigh_j140 (l1 : Int32) (l2 : Int32) (l3 : Int64) (l5 : Int32) (σ : St) : Option ((Int64 × Int32) ⊕ Int64) :=
  some (.inl (l3, l5 + 1))
theorem wfX11_notesWeigh_j140 {G : ag_G} (l1 : Int32) (l2 : Int32) (l3 : Int64) (l5 : Int32) (σ : St) {z : (Int64 × Int32) ⊕ Int64} (hz : fX11_notesWeigh_j140 l1 l2 l3 l5 σ = some z) {Q : Option Value → St → Prop} (K : ((Int64 × Int32) ⊕ Int64) → Prop) (hback : ∀ a : Int64 × Int32, K (.inl a) → AX G mX11_notesWeigh 0 0 5 [(0, .ref (G.2.2.1 44)), (1, .int l1), (2, .int l2), (3, .long a.1), (5, .int a.2)] [] σ Q) (hk : K z) : AX G mX11_notesWeigh 0 0 140 [(0, .ref (G.2.2.1 44)), (1, .int l1), (2, .int l2), (3, .long l3), (5, .int l5)] [] σ Q := by
  unfold fX11_notesWeigh_j140 at hz
  refine AX.iinc (v := l5 + 1) (ls' := [(0, .ref (G.2.2.1 44)), (1, .int l1), (2, .int l2), (3, .long l3), (5, .int (l5 + 1))]) 4 dX11_notesWeigh_140 rfl (Nat.le_of_ble_eq_true rfl) (congrArg (l5 + ·) ic_1) rfl ?_
  refine AX.goto (tgt := 5) dX11_notesWeigh_143 rfl ?_
  exact AX.sub (ls' := [(0, .ref (G.2.2.1 44)), (1, .int l1), (2, .int l2), (3, .long l3), (5, .int (l5 + 1))]) [0, 1, 2, 3, 4] rfl (hback (l3, l5 + 1) (kz (P := K) hz hk))
noncomputable def fX11_notesWeigh_j138 (l1 : Int32) (l2 : Int32) (l5 : Int32) (t0 : Int64) (t1 : Int64) (σ : St) : Option ((Int64 × Int32) ⊕ Int64) :=
  ltb (t0 * t1) fun x1 => fX11_notesWeigh_j140 l1 l2 x1 l5 σ
theorem wfX11_notesWeigh_j138 {G : ag_G} (l1 : Int32) (l2 : Int32) (l5 : Int32) (t0 : Int64) (t1 : Int64) (σ : St) {z : (Int64 × Int32) ⊕ Int64} (hz : fX11_notesWeigh_j138 l1 l2 l5 t0 t1 σ = some z) {Q : Option Value → St → Prop} (K : ((Int64 × Int32) ⊕ Int64) → Prop) (hback : ∀ a : Int64 × Int32, K (.inl a) → AX G mX11_notesWeigh 0 0 5 [(0, .ref (G.2.2.1 44)), (1, .int l1), (2, .int l2), (3, .long a.1), (5, .int a.2)] [] σ Q) (hk : K z) : AX G mX11_notesWeigh 0 0 138 [(0, .ref (G.2.2.1 44)), (1, .int l1), (2, .int l2), (5, .int l5)] [.long t1, .long t0] σ Q := by
  unfold fX11_notesWeigh_j138 at hz
  refine AX.lmul dX11_notesWeigh_138 ?_
  obtain ⟨x1, hx1, hz⟩ := ltb_e hz
  refine AX.topL hx1 ?_
  refine AX.lstore_n (ls' := [(0, .ref (G.2.2.1 44)), (1, .int l1), (2, .int l2), (3, .long x1), (5, .int l5)]) dX11_notesWeigh_139 rfl (Nat.le_of_ble_eq_true rfl) rfl ?_
  exact AX.sub (ls' := [(0, .ref (G.2.2.1 44)), (1, .int l1), (2, .int l2), (3, .long x1), (5, .int l5)]) [0, 1, 2, 3, 4] rfl (wfX11_notesWeigh_j140 l1 l2 x1 l5 σ hz K hback hk)
noncomputable def fX11_notesWeigh_j73 (l1 : Int32) (l2 : Int32) (l3 : Int64) (l5 : Int32) (σ : St) : Option ((Int64 × Int32) ⊕ Int64) :=
  if inb l5 4 = true then if (σ.1 54 l5.toNatClampNeg) = l1 then if inb l2 100 = true then if (σ.1 46 l2.toNatClampNeg) = (4 : Int32) then if (σ.1 47 l2.toNatClampNeg) = (σ.1 55 l5.toNatClampNeg) then fX11_notesWeigh_j138 l1 l2 l5 l3 ((σ.1 52 0).toInt64) σ else fX11_notesWeigh_j138 l1 l2 l5 l3 ((σ.1 52 1).toInt64) σ else fX11_notesWeigh_j138 l1 l2 l5 l3 ((σ.1 52 2).toInt64) σ else none else fX11_notesWeigh_j140 l1 l2 l3 l5 σ else none
theorem wfX11_notesWeigh_j73 {G : ag_G} (l1 : Int32) (l2 : Int32) (l3 : Int64) (l5 : Int32) (σ : St) {z : (Int64 × Int32) ⊕ Int64} (hz : fX11_notesWeigh_j73 l1 l2 l3 l5 σ = some z) {Q : Option Value → St → Prop} (K : ((Int64 × Int32) ⊕ Int64) → Prop) (hback : ∀ a : Int64 × Int32, K (.inl a) → AX G mX11_notesWeigh 0 0 5 [(0, .ref (G.2.2.1 44)), (1, .int l1), (2, .int l2), (3, .long a.1), (5, .int a.2)] [] σ Q) (hk : K z) : AX G mX11_notesWeigh 0 0 73 [(0, .ref (G.2.2.1 44)), (1, .int l1), (2, .int l2), (3, .long l3), (5, .int l5)] [] σ Q := by
  unfold fX11_notesWeigh_j73 at hz
  refine AX.aload_n dX11_notesWeigh_73 0 rfl rfl ?_
  refine AX.getR dX11_notesWeigh_74 flRX11_37 rfl rfl ?_
  refine AX.iload dX11_notesWeigh_77 4 rfl ?_
  obtain ⟨b1, hz⟩ := ite_n hz
  refine AX.ialdE (v := σ.1 54 l5.toNatClampNeg) dX11_notesWeigh_79 rfl b1 rfl ?_
  refine AX.iload_n dX11_notesWeigh_80 1 rfl rfl ?_
  refine AX.icmp_ne (tgt := 140) dX11_notesWeigh_81 rfl (fun c2 => ?_) (fun c2 => ?_)
  · replace hz := (if_neg c2).symm.trans hz
    exact AX.sub (ls' := [(0, .ref (G.2.2.1 44)), (1, .int l1), (2, .int l2), (3, .long l3), (5, .int l5)]) [0, 1, 2, 3, 4] rfl (wfX11_notesWeigh_j140 l1 l2 l3 l5 σ hz K hback hk)
  · replace hz := (if_pos c2).symm.trans hz
    refine AX.lload_n dX11_notesWeigh_84 3 rfl rfl ?_
    refine AX.aload_n dX11_notesWeigh_85 0 rfl rfl ?_
    refine AX.getR dX11_notesWeigh_86 flRX11_13 rfl rfl ?_
    refine AX.iload_n dX11_notesWeigh_89 2 rfl rfl ?_
    obtain ⟨b3, hz⟩ := ite_n hz
    refine AX.ialdE (v := σ.1 46 l2.toNatClampNeg) dX11_notesWeigh_90 rfl b3 rfl ?_
    refine AX.iconst dX11_notesWeigh_91 ic_4 ?_
    refine AX.icmp_eq (tgt := 105) dX11_notesWeigh_92 rfl (fun c4 => ?_) (fun c4 => ?_)
    · replace hz := (if_pos c4).symm.trans hz
      refine AX.aload_n dX11_notesWeigh_105 0 rfl rfl ?_
      refine AX.getR dX11_notesWeigh_106 flRX11_16 rfl rfl ?_
      refine AX.iload_n dX11_notesWeigh_109 2 rfl rfl ?_
      refine AX.ialdE (v := σ.1 47 l2.toNatClampNeg) dX11_notesWeigh_110 rfl b3 rfl ?_
      refine AX.aload_n dX11_notesWeigh_111 0 rfl rfl ?_
      refine AX.getR dX11_notesWeigh_112 flRX11_40 rfl rfl ?_
      refine AX.iload dX11_notesWeigh_115 4 rfl ?_
      refine AX.ialdE (v := σ.1 55 l5.toNatClampNeg) dX11_notesWeigh_117 rfl b1 rfl ?_
      refine AX.icmp_ne (tgt := 131) dX11_notesWeigh_118 rfl (fun c5 => ?_) (fun c5 => ?_)
      · replace hz := (if_neg c5).symm.trans hz
        refine AX.aload_n dX11_notesWeigh_131 0 rfl rfl ?_
        refine AX.getR dX11_notesWeigh_132 flRX11_31 rfl rfl ?_
        refine AX.iconst dX11_notesWeigh_135 ic_1 ?_
        refine AX.ialdE (v := σ.1 52 1) dX11_notesWeigh_136 rfl rfl rfl ?_
        refine AX.i2l dX11_notesWeigh_137 ?_
        exact AX.sub (ls' := [(0, .ref (G.2.2.1 44)), (1, .int l1), (2, .int l2), (5, .int l5)]) [0, 1, 2, 4] rfl (wfX11_notesWeigh_j138 l1 l2 l5 l3 ((σ.1 52 1).toInt64) σ hz K hback hk)
      · replace hz := (if_pos c5).symm.trans hz
        refine AX.aload_n dX11_notesWeigh_121 0 rfl rfl ?_
        refine AX.getR dX11_notesWeigh_122 flRX11_31 rfl rfl ?_
        refine AX.iconst dX11_notesWeigh_125 ic_0 ?_
        refine AX.ialdE (v := σ.1 52 0) dX11_notesWeigh_126 rfl rfl rfl ?_
        refine AX.i2l dX11_notesWeigh_127 ?_
        refine AX.goto (tgt := 138) dX11_notesWeigh_128 rfl ?_
        exact AX.sub (ls' := [(0, .ref (G.2.2.1 44)), (1, .int l1), (2, .int l2), (5, .int l5)]) [0, 1, 2, 4] rfl (wfX11_notesWeigh_j138 l1 l2 l5 l3 ((σ.1 52 0).toInt64) σ hz K hback hk)
    · replace hz := (if_neg c4).symm.trans hz
      refine AX.aload_n dX11_notesWeigh_95 0 rfl rfl ?_
      refine AX.getR dX11_notesWeigh_96 flRX11_31 rfl rfl ?_
      refine AX.iconst dX11_notesWeigh_99 ic_2 ?_
      refine AX.ialdE (v := σ.1 52 2) dX11_notesWeigh_100 rfl rfl rfl ?_
      refine AX.i2l dX11_notesWeigh_101 ?_
      refine AX.goto (tgt := 138) dX11_notesWeigh_102 rfl ?_
      exact AX.sub (ls' := [(0, .ref (G.2.2.1 44)), (1, .int l1), (2, .int l2), (5, .int l5)]) [0, 1, 2, 4] rfl (wfX11_notesWeigh_j138 l1 l2 l5 l3 ((σ.1 52 2).toInt64) σ hz K hback hk)
noncomputable def fX11_notesWeigh_j68 (l1 : Int32) (l2 : Int32) (l5 : Int32) (t0 : Int64) (t1 : Int64) (σ : St) : Option ((Int64 × Int32) ⊕ Int64) :=
  ltb (t0 * t1) fun x1 => fX11_notesWeigh_j140 l1 l2 x1 l5 σ
theorem wfX11_notesWeigh_j68 {G : ag_G} (l1 : Int32) (l2 : Int32) (l5 : Int32) (t0 : Int64) (t1 : Int64) (σ : St) {z : (Int64 × Int32) ⊕ Int64} (hz : fX11_notesWeigh_j68 l1 l2 l5 t0 t1 σ = some z) {Q : Option Value → St → Prop} (K : ((Int64 × Int32) ⊕ Int64) → Prop) (hback : ∀ a : Int64 × Int32, K (.inl a) → AX G mX11_notesWeigh 0 0 5 [(0, .ref (G.2.2.1 44)), (1, .int l1), (2, .int l2), (3, .long a.1), (5, .int a.2)] [] σ Q) (hk : K z) : AX G mX11_notesWeigh 0 0 68 [(0, .ref (G.2.2.1 44)), (1, .int l1), (2, .int l2), (5, .int l5)] [.long t1, .long t0] σ Q := by
  unfold fX11_notesWeigh_j68 at hz
  refine AX.lmul dX11_notesWeigh_68 ?_
  obtain ⟨x1, hx1, hz⟩ := ltb_e hz
  refine AX.topL hx1 ?_
  refine AX.lstore_n (ls' := [(0, .ref (G.2.2.1 44)), (1, .int l1), (2, .int l2), (3, .long x1), (5, .int l5)]) dX11_notesWeigh_69 rfl (Nat.le_of_ble_eq_true rfl) rfl ?_
  refine AX.goto (tgt := 140) dX11_notesWeigh_70 rfl ?_
  exact AX.sub (ls' := [(0, .ref (G.2.2.1 44)), (1, .int l1), (2, .int l2), (3, .long x1), (5, .int l5)]) [0, 1, 2, 3, 4] rfl (wfX11_notesWeigh_j140 l1 l2 x1 l5 σ hz K hback hk)
noncomputable def fX11_notesWeigh_b5 (l1 : Int32) (l2 : Int32) (l3 : Int64) (l5 : Int32) (σ : St) : Option ((Int64 × Int32) ⊕ Int64) :=
  if (σ.1 44 15) ≤ l5 then some (.inr l3) else if inb l5 4 = true then if (σ.1 54 l5.toNatClampNeg) = l1 then if (σ.1 55 l5.toNatClampNeg) = (-1 : Int32) then if (σ.1 56 l5.toNatClampNeg) = l2 then fX11_notesWeigh_j68 l1 l2 l5 l3 ((σ.1 52 3).toInt64) σ else fX11_notesWeigh_j68 l1 l2 l5 l3 (((16 : Int32) - (σ.1 52 3)).toInt64) σ else fX11_notesWeigh_j73 l1 l2 l3 l5 σ else fX11_notesWeigh_j73 l1 l2 l3 l5 σ else none
theorem wfX11_notesWeigh_b5 {G : ag_G} (l1 : Int32) (l2 : Int32) (l3 : Int64) (l5 : Int32) (σ : St) {z : (Int64 × Int32) ⊕ Int64} (hz : fX11_notesWeigh_b5 l1 l2 l3 l5 σ = some z) {Q : Option Value → St → Prop} (K : ((Int64 × Int32) ⊕ Int64) → Prop) (hback : ∀ a : Int64 × Int32, K (.inl a) → AX G mX11_notesWeigh 0 0 5 [(0, .ref (G.2.2.1 44)), (1, .int l1), (2, .int l2), (3, .long a.1), (5, .int a.2)] [] σ Q) (hexit0 : ∀ a : Int64, K (.inr a) → AX G mX11_notesWeigh 0 0 146 [(3, .long a)] [] σ Q) (hk : K z) : AX G mX11_notesWeigh 0 0 5 [(0, .ref (G.2.2.1 44)), (1, .int l1), (2, .int l2), (3, .long l3), (5, .int l5)] [] σ Q := by
  unfold fX11_notesWeigh_b5 at hz
  refine AX.iload dX11_notesWeigh_5 4 rfl ?_
  refine AX.aload_n dX11_notesWeigh_7 0 rfl rfl ?_
  refine AX.getIE (v := σ.1 44 15) dX11_notesWeigh_8 flRX11_144 rfl rfl rfl ?_
  refine AX.icmp_ge (tgt := 146) dX11_notesWeigh_11 rfl (fun c1 => ?_) (fun c1 => ?_)
  · replace hz := (if_pos c1).symm.trans hz
    exact AX.sub (ls' := [(3, .long l3)]) [3] rfl (hexit0 l3 (kz (P := K) hz hk))
  · replace hz := (if_neg c1).symm.trans hz
    refine AX.aload_n dX11_notesWeigh_14 0 rfl rfl ?_
    refine AX.getR dX11_notesWeigh_15 flRX11_37 rfl rfl ?_
    refine AX.iload dX11_notesWeigh_18 4 rfl ?_
    obtain ⟨b2, hz⟩ := ite_n hz
    refine AX.ialdE (v := σ.1 54 l5.toNatClampNeg) dX11_notesWeigh_20 rfl b2 rfl ?_
    refine AX.iload_n dX11_notesWeigh_21 1 rfl rfl ?_
    refine AX.icmp_ne (tgt := 73) dX11_notesWeigh_22 rfl (fun c3 => ?_) (fun c3 => ?_)
    · replace hz := (if_neg c3).symm.trans hz
      exact AX.sub (ls' := [(0, .ref (G.2.2.1 44)), (1, .int l1), (2, .int l2), (3, .long l3), (5, .int l5)]) [0, 1, 2, 3, 4] rfl (wfX11_notesWeigh_j73 l1 l2 l3 l5 σ hz K hback hk)
    · replace hz := (if_pos c3).symm.trans hz
      refine AX.aload_n dX11_notesWeigh_25 0 rfl rfl ?_
      refine AX.getR dX11_notesWeigh_26 flRX11_40 rfl rfl ?_
      refine AX.iload dX11_notesWeigh_29 4 rfl ?_
      refine AX.ialdE (v := σ.1 55 l5.toNatClampNeg) dX11_notesWeigh_31 rfl b2 rfl ?_
      refine AX.iconst dX11_notesWeigh_32 ic_m1 ?_
      refine AX.icmp_ne (tgt := 73) dX11_notesWeigh_33 rfl (fun c4 => ?_) (fun c4 => ?_)
      · replace hz := (if_neg c4).symm.trans hz
        exact AX.sub (ls' := [(0, .ref (G.2.2.1 44)), (1, .int l1), (2, .int l2), (3, .long l3), (5, .int l5)]) [0, 1, 2, 3, 4] rfl (wfX11_notesWeigh_j73 l1 l2 l3 l5 σ hz K hback hk)
      · replace hz := (if_pos c4).symm.trans hz
        refine AX.lload_n dX11_notesWeigh_36 3 rfl rfl ?_
        refine AX.aload_n dX11_notesWeigh_37 0 rfl rfl ?_
        refine AX.getR dX11_notesWeigh_38 flRX11_43 rfl rfl ?_
        refine AX.iload dX11_notesWeigh_41 4 rfl ?_
        refine AX.ialdE (v := σ.1 56 l5.toNatClampNeg) dX11_notesWeigh_43 rfl b2 rfl ?_
        refine AX.iload_n dX11_notesWeigh_44 2 rfl rfl ?_
        refine AX.icmp_ne (tgt := 58) dX11_notesWeigh_45 rfl (fun c5 => ?_) (fun c5 => ?_)
        · replace hz := (if_neg c5).symm.trans hz
          refine AX.bipush dX11_notesWeigh_58 bp_16 ?_
          refine AX.aload_n dX11_notesWeigh_60 0 rfl rfl ?_
          refine AX.getR dX11_notesWeigh_61 flRX11_31 rfl rfl ?_
          refine AX.iconst dX11_notesWeigh_64 ic_3 ?_
          refine AX.ialdE (v := σ.1 52 3) dX11_notesWeigh_65 rfl rfl rfl ?_
          refine AX.isub dX11_notesWeigh_66 ?_
          refine AX.i2l dX11_notesWeigh_67 ?_
          exact AX.sub (ls' := [(0, .ref (G.2.2.1 44)), (1, .int l1), (2, .int l2), (5, .int l5)]) [0, 1, 2, 4] rfl (wfX11_notesWeigh_j68 l1 l2 l5 l3 (((16 : Int32) - (σ.1 52 3)).toInt64) σ hz K hback hk)
        · replace hz := (if_pos c5).symm.trans hz
          refine AX.aload_n dX11_notesWeigh_48 0 rfl rfl ?_
          refine AX.getR dX11_notesWeigh_49 flRX11_31 rfl rfl ?_
          refine AX.iconst dX11_notesWeigh_52 ic_3 ?_
          refine AX.ialdE (v := σ.1 52 3) dX11_notesWeigh_53 rfl rfl rfl ?_
          refine AX.i2l dX11_notesWeigh_54 ?_
          refine AX.goto (tgt := 68) dX11_notesWeigh_55 rfl ?_
          exact AX.sub (ls' := [(0, .ref (G.2.2.1 44)), (1, .int l1), (2, .int l2), (5, .int l5)]) [0, 1, 2, 4] rfl (wfX11_notesWeigh_j68 l1 l2 l5 l3 ((σ.1 52 3).toInt64) σ hz K hback hk)
noncomputable def fX11_notesWeigh (p0 : Int32) (p1 : Int32) (σ : St) : Option (Int64) :=
  (lpc (fun s => fX11_notesWeigh_b5 p0 p1 s.1 s.2 σ) (1, 0)).bind fun r1 => some r1
theorem wfX11_notesWeigh {G : ag_G} (p0 : Int32) (p1 : Int32) (σ : St) {z : Int64} (hz : fX11_notesWeigh p0 p1 σ = some z) {Q : Option Value → St → Prop} (hk : Q (some (.long z)) σ) : AX G mX11_notesWeigh 0 0 0 [(0, .ref (G.2.2.1 44)), (1, .int p0), (2, .int p1)] [] σ Q := by
  unfold fX11_notesWeigh at hz
  refine AX.lconst dX11_notesWeigh_0 lc_1 ?_
  refine AX.lstore_n (ls' := [(0, .ref (G.2.2.1 44)), (1, .int p0), (2, .int p1), (3, .long 1)]) dX11_notesWeigh_1 rfl (Nat.le_of_ble_eq_true rfl) rfl ?_
  refine AX.iconst dX11_notesWeigh_2 ic_0 ?_
  refine AX.istore (ls' := [(0, .ref (G.2.2.1 44)), (1, .int p0), (2, .int p1), (3, .long 1), (5, .int 0)]) dX11_notesWeigh_3 (Nat.le_of_ble_eq_true rfl) rfl ?_
  obtain ⟨r1, hr1, hz⟩ := obind hz
  refine AX.sub (ls' := [(0, .ref (G.2.2.1 44)), (1, .int p0), (2, .int p1), (3, .long 1), (5, .int 0)]) [0, 1, 2, 3, 4] rfl ?_
  refine lpc_ind (s := (1, 0)) (r := r1) (fun s => AX G mX11_notesWeigh 0 0 5 [(0, .ref (G.2.2.1 44)), (1, .int p0), (2, .int p1), (3, .long s.1), (5, .int s.2)] [] σ Q) (fun a : Int64 => AX G mX11_notesWeigh 0 0 146 [(3, .long a)] [] σ Q) hr1 (fun s z hb hK => wfX11_notesWeigh_b5 p0 p1 s.1 s.2 σ hb (Sum.elim (fun s => AX G mX11_notesWeigh 0 0 5 [(0, .ref (G.2.2.1 44)), (1, .int p0), (2, .int p1), (3, .long s.1), (5, .int s.2)] [] σ Q) (fun a : Int64 => AX G mX11_notesWeigh 0 0 146 [(3, .long a)] [] σ Q)) (fun _ h9 => h9) (fun _ h9 => h9) hK) ?_
  refine AX.lload_n dX11_notesWeigh_146 0 rfl rfl ?_
  exact AX.lreturn dX11_notesWeigh_147 rfl (kz (P := fun z => Q (some (.long z)) σ) hz hk)
theorem xX11_notesWeigh {G : ag_G} (p0 : Int32) (p1 : Int32) (σ : St) {z : Int64} (hz : fX11_notesWeigh p0 p1 σ = some z) : AC G yX11_notesWeigh mX11_notesWeigh 0 0 [.ref (G.2.2.1 44), .int p0, .int p1] σ (fun v σ1 => v = some (.long z) ∧ σ1 = σ) := AC.of (plainFor_of_name (by decide)) rfl (Nat.le_of_ble_eq_true rfl) (wfX11_notesWeigh p0 p1 σ hz ⟨rfl, rfl⟩)
noncomputable def fX11_saysOdds (p0 : Int32) (p1 : Int32) (σ : St) : Option (Int32) :=
  if inb p0 100 = true then ltb (σ.1 46 p0.toNatClampNeg) fun x2 => if x2 ≤ (2 : Int32) then if p1 = (0 : Int32) then if inb x2 3 = true then some (σ.1 50 x2.toNatClampNeg) else none else if p1 = (2 : Int32) then if inb x2 3 = true then some (σ.1 51 x2.toNatClampNeg) else none else if inb x2 3 = true then some (((16 : Int32) - (σ.1 50 x2.toNatClampNeg)) - (σ.1 51 x2.toNatClampNeg)) else none else if p1 = (1 : Int32) then some (1 : Int32) else some (0 : Int32) else none
theorem wfX11_saysOdds {G : ag_G} (p0 : Int32) (p1 : Int32) (σ : St) {z : Int32} (hz : fX11_saysOdds p0 p1 σ = some z) {Q : Option Value → St → Prop} (hk : Q (some (.int z)) σ) : AX G mX11_saysOdds 0 0 0 [(0, .ref (G.2.2.1 44)), (1, .int p0), (2, .int p1)] [] σ Q := by
  unfold fX11_saysOdds at hz
  refine AX.aload_n dX11_saysOdds_0 0 rfl rfl ?_
  refine AX.getR dX11_saysOdds_1 flRX11_13 rfl rfl ?_
  refine AX.iload_n dX11_saysOdds_4 1 rfl rfl ?_
  obtain ⟨b1, hz⟩ := ite_n hz
  refine AX.ialdE (v := σ.1 46 p0.toNatClampNeg) dX11_saysOdds_5 rfl b1 rfl ?_
  obtain ⟨x2, hx2, hz⟩ := ltb_e hz
  refine AX.topI hx2 ?_
  refine AX.istore_n (ls' := [(0, .ref (G.2.2.1 44)), (1, .int p0), (2, .int p1), (3, .int x2)]) dX11_saysOdds_6 rfl (Nat.le_of_ble_eq_true rfl) rfl ?_
  refine AX.iload_n dX11_saysOdds_7 3 rfl rfl ?_
  refine AX.iconst dX11_saysOdds_8 ic_2 ?_
  refine AX.icmp_le (tgt := 23) dX11_saysOdds_9 rfl (fun c3 => ?_) (fun c3 => ?_)
  · replace hz := (if_pos c3).symm.trans hz
    refine AX.iload_n dX11_saysOdds_23 2 rfl rfl ?_
    refine AX.if_ne (tgt := 36) dX11_saysOdds_24 rfl (fun c4 => ?_) (fun c4 => ?_)
    · replace hz := (if_neg c4).symm.trans hz
      refine AX.iload_n dX11_saysOdds_36 2 rfl rfl ?_
      refine AX.iconst dX11_saysOdds_37 ic_2 ?_
      refine AX.icmp_ne (tgt := 50) dX11_saysOdds_38 rfl (fun c5 => ?_) (fun c5 => ?_)
      · replace hz := (if_neg c5).symm.trans hz
        refine AX.bipush dX11_saysOdds_50 bp_16 ?_
        refine AX.aload_n dX11_saysOdds_52 0 rfl rfl ?_
        refine AX.getR dX11_saysOdds_53 flRX11_25 rfl rfl ?_
        refine AX.iload_n dX11_saysOdds_56 3 rfl rfl ?_
        obtain ⟨b6, hz⟩ := ite_n hz
        refine AX.ialdE (v := σ.1 50 x2.toNatClampNeg) dX11_saysOdds_57 rfl b6 rfl ?_
        refine AX.isub dX11_saysOdds_58 ?_
        refine AX.aload_n dX11_saysOdds_59 0 rfl rfl ?_
        refine AX.getR dX11_saysOdds_60 flRX11_28 rfl rfl ?_
        refine AX.iload_n dX11_saysOdds_63 3 rfl rfl ?_
        refine AX.ialdE (v := σ.1 51 x2.toNatClampNeg) dX11_saysOdds_64 rfl b6 rfl ?_
        refine AX.isub dX11_saysOdds_65 ?_
        exact AX.ireturn dX11_saysOdds_66 rfl (vp_nar_int _) (kz (P := fun z => Q (some (.int z)) σ) hz hk)
      · replace hz := (if_pos c5).symm.trans hz
        refine AX.aload_n dX11_saysOdds_41 0 rfl rfl ?_
        refine AX.getR dX11_saysOdds_42 flRX11_28 rfl rfl ?_
        refine AX.iload_n dX11_saysOdds_45 3 rfl rfl ?_
        obtain ⟨b7, hz⟩ := ite_n hz
        refine AX.ialdE (v := σ.1 51 x2.toNatClampNeg) dX11_saysOdds_46 rfl b7 rfl ?_
        refine AX.goto (tgt := 66) dX11_saysOdds_47 rfl ?_
        exact AX.ireturn dX11_saysOdds_66 rfl (vp_nar_int _) (kz (P := fun z => Q (some (.int z)) σ) hz hk)
    · replace hz := (if_pos c4).symm.trans hz
      refine AX.aload_n dX11_saysOdds_27 0 rfl rfl ?_
      refine AX.getR dX11_saysOdds_28 flRX11_25 rfl rfl ?_
      refine AX.iload_n dX11_saysOdds_31 3 rfl rfl ?_
      obtain ⟨b8, hz⟩ := ite_n hz
      refine AX.ialdE (v := σ.1 50 x2.toNatClampNeg) dX11_saysOdds_32 rfl b8 rfl ?_
      refine AX.goto (tgt := 66) dX11_saysOdds_33 rfl ?_
      exact AX.ireturn dX11_saysOdds_66 rfl (vp_nar_int _) (kz (P := fun z => Q (some (.int z)) σ) hz hk)
  · replace hz := (if_neg c3).symm.trans hz
    refine AX.iload_n dX11_saysOdds_12 2 rfl rfl ?_
    refine AX.iconst dX11_saysOdds_13 ic_1 ?_
    refine AX.icmp_ne (tgt := 21) dX11_saysOdds_14 rfl (fun c9 => ?_) (fun c9 => ?_)
    · replace hz := (if_neg c9).symm.trans hz
      refine AX.iconst dX11_saysOdds_21 ic_0 ?_
      exact AX.ireturn dX11_saysOdds_22 rfl (vp_nar_int _) (kz (P := fun z => Q (some (.int z)) σ) hz hk)
    · replace hz := (if_pos c9).symm.trans hz
      refine AX.iconst dX11_saysOdds_17 ic_1 ?_
      refine AX.goto (tgt := 22) dX11_saysOdds_18 rfl ?_
      exact AX.ireturn dX11_saysOdds_22 rfl (vp_nar_int _) (kz (P := fun z => Q (some (.int z)) σ) hz hk)
theorem xX11_saysOdds {G : ag_G} (p0 : Int32) (p1 : Int32) (σ : St) {z : Int32} (hz : fX11_saysOdds p0 p1 σ = some z) : AC G yX11_saysOdds mX11_saysOdds 0 0 [.ref (G.2.2.1 44), .int p0, .int p1] σ (fun v σ1 => v = some (.int z) ∧ σ1 = σ) := AC.of (plainFor_of_name (by decide)) rfl (Nat.le_of_ble_eq_true rfl) (wfX11_saysOdds p0 p1 σ hz ⟨rfl, rfl⟩)
noncomputable def fX11_findsWhere_b9 (l1 : Int32) (l2 : Int64) (l4 : Int32) (σ : St) : Option ((Int64 × Int32) ⊕ Int64) :=
  if (σ.1 44 6) ≤ l4 then some (.inr l2) else ltb (l2 * (16 : Int64)) fun x2 => some (.inl (x2, l4 + 1))
theorem wfX11_findsWhere_b9 {G : ag_G} (l1 : Int32) (l2 : Int64) (l4 : Int32) (σ : St) {z : (Int64 × Int32) ⊕ Int64} (hz : fX11_findsWhere_b9 l1 l2 l4 σ = some z) {Q : Option Value → St → Prop} (K : ((Int64 × Int32) ⊕ Int64) → Prop) (hback : ∀ a : Int64 × Int32, K (.inl a) → AX G mX11_findsWhere 5 114 9 [(0, .ref (G.2.2.1 44)), (1, .int l1), (2, .long a.1), (4, .int a.2)] [] σ Q) (hexit0 : ∀ a : Int64, K (.inr a) → AX G mX11_findsWhere 5 114 30 [(0, .ref (G.2.2.1 44)), (1, .int l1), (2, .long a)] [] σ Q) (hk : K z) : AX G mX11_findsWhere 5 114 9 [(0, .ref (G.2.2.1 44)), (1, .int l1), (2, .long l2), (4, .int l4)] [] σ Q := by
  unfold fX11_findsWhere_b9 at hz
  refine AX.iload dX11_findsWhere_9 3 rfl ?_
  refine AX.aload_n dX11_findsWhere_11 0 rfl rfl ?_
  refine AX.getIE (v := σ.1 44 6) dX11_findsWhere_12 flRX11_103 rfl rfl rfl ?_
  refine AX.icmp_ge (tgt := 30) dX11_findsWhere_15 rfl (fun c1 => ?_) (fun c1 => ?_)
  · replace hz := (if_pos c1).symm.trans hz
    exact AX.sub (ls' := [(0, .ref (G.2.2.1 44)), (1, .int l1), (2, .long l2)]) [0, 1, 2] rfl (hexit0 l2 (kz (P := K) hz hk))
  · replace hz := (if_neg c1).symm.trans hz
    refine AX.lload_n dX11_findsWhere_18 2 rfl rfl ?_
    refine AX.ldc2 dX11_findsWhere_19 kcRX11_151 ?_
    refine AX.lmul dX11_findsWhere_22 ?_
    obtain ⟨x2, hx2, hz⟩ := ltb_e hz
    refine AX.topL hx2 ?_
    refine AX.lstore_n (ls' := [(0, .ref (G.2.2.1 44)), (1, .int l1), (2, .long x2), (4, .int l4)]) dX11_findsWhere_23 rfl (Nat.le_of_ble_eq_true rfl) rfl ?_
    refine AX.iinc (v := l4 + 1) (ls' := [(0, .ref (G.2.2.1 44)), (1, .int l1), (2, .long x2), (4, .int (l4 + 1))]) 3 dX11_findsWhere_24 rfl (Nat.le_of_ble_eq_true rfl) (congrArg (l4 + ·) ic_1) rfl ?_
    refine AX.goto (tgt := 9) dX11_findsWhere_27 rfl ?_
    exact AX.sub (ls' := [(0, .ref (G.2.2.1 44)), (1, .int l1), (2, .long x2), (4, .int (l4 + 1))]) [0, 1, 2, 3] rfl (hback (x2, l4 + 1) (kz (P := K) hz hk))
noncomputable def fX11_findsWhere_j56 (l1 : Int32) (l2 : Int64) (l4 : Int32) (t1 : Int32) (t2 : Int64) (σ : St) : Option ((Int32 × St) ⊕ St) :=
  if inb t1 112 = true then some (.inl (l4 + 1, (sL σ 57 t1.toNatClampNeg t2))) else none
theorem wfX11_findsWhere_j56 {G : ag_G} (l1 : Int32) (l2 : Int64) (l4 : Int32) (t1 : Int32) (t2 : Int64) (σ : St) {z : (Int32 × St) ⊕ St} (hz : fX11_findsWhere_j56 l1 l2 l4 t1 t2 σ = some z) {Q : Option Value → St → Prop} (K : ((Int32 × St) ⊕ St) → Prop) (hback : ∀ a : Int32 × St, K (.inl a) → AX G mX11_findsWhere 5 114 33 [(0, .ref (G.2.2.1 44)), (1, .int l1), (2, .long l2), (4, .int a.1)] [] a.2 Q) (hk : K z) : AX G mX11_findsWhere 5 114 56 [(0, .ref (G.2.2.1 44)), (1, .int l1), (2, .long l2), (4, .int l4)] [.long t2, .int t1, .ref (G.2.2.1 57)] σ Q := by
  unfold fX11_findsWhere_j56 at hz
  obtain ⟨b1, hz⟩ := ite_n hz
  refine AX.last dX11_findsWhere_56 rfl b1 ?_
  refine AX.iinc (v := l4 + 1) (ls' := [(0, .ref (G.2.2.1 44)), (1, .int l1), (2, .long l2), (4, .int (l4 + 1))]) 3 dX11_findsWhere_57 rfl (Nat.le_of_ble_eq_true rfl) (congrArg (l4 + ·) ic_1) rfl ?_
  refine AX.goto (tgt := 33) dX11_findsWhere_60 rfl ?_
  exact AX.sub (ls' := [(0, .ref (G.2.2.1 44)), (1, .int l1), (2, .long l2), (4, .int (l4 + 1))]) [0, 1, 2, 3] rfl (hback (l4 + 1, (sL σ 57 t1.toNatClampNeg t2)) (kz (P := K) hz hk))
noncomputable def fX11_findsWhere_b33 (l1 : Int32) (l2 : Int64) (l4 : Int32) (σ : St) : Option ((Int32 × St) ⊕ St) :=
  if (112 : Int32) ≤ l4 then some (.inr σ) else if l4 = (0 : Int32) then fX11_findsWhere_j56 l1 l2 l4 l4 1 σ else fX11_findsWhere_j56 l1 l2 l4 l4 0 σ
theorem wfX11_findsWhere_b33 {G : ag_G} (l1 : Int32) (l2 : Int64) (l4 : Int32) (σ : St) {z : (Int32 × St) ⊕ St} (hz : fX11_findsWhere_b33 l1 l2 l4 σ = some z) {Q : Option Value → St → Prop} (K : ((Int32 × St) ⊕ St) → Prop) (hback : ∀ a : Int32 × St, K (.inl a) → AX G mX11_findsWhere 5 114 33 [(0, .ref (G.2.2.1 44)), (1, .int l1), (2, .long l2), (4, .int a.1)] [] a.2 Q) (hexit0 : ∀ a : St, K (.inr a) → AX G mX11_findsWhere 5 114 63 [(0, .ref (G.2.2.1 44)), (1, .int l1), (2, .long l2)] [] a Q) (hk : K z) : AX G mX11_findsWhere 5 114 33 [(0, .ref (G.2.2.1 44)), (1, .int l1), (2, .long l2), (4, .int l4)] [] σ Q := by
  unfold fX11_findsWhere_b33 at hz
  refine AX.iload dX11_findsWhere_33 3 rfl ?_
  refine AX.bipush dX11_findsWhere_35 bp_112 ?_
  refine AX.icmp_ge (tgt := 63) dX11_findsWhere_37 rfl (fun c1 => ?_) (fun c1 => ?_)
  · replace hz := (if_pos c1).symm.trans hz
    exact AX.sub (ls' := [(0, .ref (G.2.2.1 44)), (1, .int l1), (2, .long l2)]) [0, 1, 2] rfl (hexit0 σ (kz (P := K) hz hk))
  · replace hz := (if_neg c1).symm.trans hz
    refine AX.aload_n dX11_findsWhere_40 0 rfl rfl ?_
    refine AX.getR dX11_findsWhere_41 flRX11_46 rfl rfl ?_
    refine AX.iload dX11_findsWhere_44 3 rfl ?_
    refine AX.iload dX11_findsWhere_46 3 rfl ?_
    refine AX.if_ne (tgt := 55) dX11_findsWhere_48 rfl (fun c2 => ?_) (fun c2 => ?_)
    · replace hz := (if_neg c2).symm.trans hz
      refine AX.lconst dX11_findsWhere_55 lc_0 ?_
      exact AX.sub (ls' := [(0, .ref (G.2.2.1 44)), (1, .int l1), (2, .long l2), (4, .int l4)]) [0, 1, 2, 3] rfl (wfX11_findsWhere_j56 l1 l2 l4 l4 0 σ hz K hback hk)
    · replace hz := (if_pos c2).symm.trans hz
      refine AX.lconst dX11_findsWhere_51 lc_1 ?_
      refine AX.goto (tgt := 56) dX11_findsWhere_52 rfl ?_
      exact AX.sub (ls' := [(0, .ref (G.2.2.1 44)), (1, .int l1), (2, .long l2), (4, .int l4)]) [0, 1, 2, 3] rfl (wfX11_findsWhere_j56 l1 l2 l4 l4 1 σ hz K hback hk)
noncomputable def fX11_findsWhere_b112 (l1 : Int32) (l2 : Int64) (l4 : Int32) (l5 : Int32) (σ : St) : Option ((Int32 × St) ⊕ St) :=
  if (112 : Int32) ≤ l5 then some (.inr σ) else if inb l5 112 = true then some (.inl (l5 + 1, (sL σ 58 l5.toNatClampNeg 0))) else none
theorem wfX11_findsWhere_b112 {G : ag_G} (l1 : Int32) (l2 : Int64) (l4 : Int32) (l5 : Int32) (σ : St) {z : (Int32 × St) ⊕ St} (hz : fX11_findsWhere_b112 l1 l2 l4 l5 σ = some z) {Q : Option Value → St → Prop} (K : ((Int32 × St) ⊕ St) → Prop) (hback : ∀ a : Int32 × St, K (.inl a) → AX G mX11_findsWhere 5 114 112 [(0, .ref (G.2.2.1 44)), (1, .int l1), (2, .long l2), (4, .int l4), (5, .int a.1)] [] a.2 Q) (hexit0 : ∀ a : St, K (.inr a) → AX G mX11_findsWhere 5 114 133 [(0, .ref (G.2.2.1 44)), (1, .int l1), (2, .long l2), (4, .int l4)] [] a Q) (hk : K z) : AX G mX11_findsWhere 5 114 112 [(0, .ref (G.2.2.1 44)), (1, .int l1), (2, .long l2), (4, .int l4), (5, .int l5)] [] σ Q := by
  unfold fX11_findsWhere_b112 at hz
  refine AX.iload dX11_findsWhere_112 4 rfl ?_
  refine AX.bipush dX11_findsWhere_114 bp_112 ?_
  refine AX.icmp_ge (tgt := 133) dX11_findsWhere_116 rfl (fun c1 => ?_) (fun c1 => ?_)
  · replace hz := (if_pos c1).symm.trans hz
    exact AX.sub (ls' := [(0, .ref (G.2.2.1 44)), (1, .int l1), (2, .long l2), (4, .int l4)]) [0, 1, 2, 3] rfl (hexit0 σ (kz (P := K) hz hk))
  · replace hz := (if_neg c1).symm.trans hz
    refine AX.aload_n dX11_findsWhere_119 0 rfl rfl ?_
    refine AX.getR dX11_findsWhere_120 flRX11_50 rfl rfl ?_
    refine AX.iload dX11_findsWhere_123 4 rfl ?_
    refine AX.lconst dX11_findsWhere_125 lc_0 ?_
    obtain ⟨b2, hz⟩ := ite_n hz
    refine AX.last dX11_findsWhere_126 rfl b2 ?_
    refine AX.iinc (v := l5 + 1) (ls' := [(0, .ref (G.2.2.1 44)), (1, .int l1), (2, .long l2), (4, .int l4), (5, .int (l5 + 1))]) 4 dX11_findsWhere_127 rfl (Nat.le_of_ble_eq_true rfl) (congrArg (l5 + ·) ic_1) rfl ?_
    refine AX.goto (tgt := 112) dX11_findsWhere_130 rfl ?_
    exact AX.sub (ls' := [(0, .ref (G.2.2.1 44)), (1, .int l1), (2, .long l2), (4, .int l4), (5, .int (l5 + 1))]) [0, 1, 2, 3, 4] rfl (hback (l5 + 1, (sL σ 58 l5.toNatClampNeg 0)) (kz (P := K) hz hk))
noncomputable def fX11_findsWhere_b185 (l1 : Int32) (l2 : Int64) (l4 : Int32) (l5 : Int32) (l6 : Int32) (l7 : Int64) (l9 : Int32) (σ : St) : Option ((Int64 × Int32) ⊕ Int64) :=
  if l6 < l9 then some (.inr l7) else if l1 < (l5 + l9) then some (.inr l7) else (fX11_notesWeigh (l5 + l9) l4 σ).bind fun q3 => ltb (l7 * q3) fun x4 => some (.inl (x4, l9 + 1))
theorem wfX11_findsWhere_b185 {G : ag_G} (l1 : Int32) (l2 : Int64) (l4 : Int32) (l5 : Int32) (l6 : Int32) (l7 : Int64) (l9 : Int32) (σ : St) {z : (Int64 × Int32) ⊕ Int64} (hz : fX11_findsWhere_b185 l1 l2 l4 l5 l6 l7 l9 σ = some z) {Q : Option Value → St → Prop} (K : ((Int64 × Int32) ⊕ Int64) → Prop) (hback : ∀ a : Int64 × Int32, K (.inl a) → AX G mX11_findsWhere 5 114 185 [(0, .ref (G.2.2.1 44)), (1, .int l1), (2, .long l2), (4, .int l4), (5, .int l5), (6, .int l6), (7, .long a.1), (9, .int a.2)] [] σ Q) (hexit0 : ∀ a : Int64, K (.inr a) → AX G mX11_findsWhere 5 114 223 [(0, .ref (G.2.2.1 44)), (1, .int l1), (2, .long l2), (4, .int l4), (5, .int l5), (6, .int l6), (7, .long a)] [] σ Q) (hk : K z) : AX G mX11_findsWhere 5 114 185 [(0, .ref (G.2.2.1 44)), (1, .int l1), (2, .long l2), (4, .int l4), (5, .int l5), (6, .int l6), (7, .long l7), (9, .int l9)] [] σ Q := by
  unfold fX11_findsWhere_b185 at hz
  refine AX.iload dX11_findsWhere_185 7 rfl ?_
  refine AX.iload dX11_findsWhere_187 5 rfl ?_
  refine AX.icmp_gt (tgt := 223) dX11_findsWhere_189 rfl (fun c1 => ?_) (fun c1 => ?_)
  · replace hz := (if_pos c1).symm.trans hz
    exact AX.sub (ls' := [(0, .ref (G.2.2.1 44)), (1, .int l1), (2, .long l2), (4, .int l4), (5, .int l5), (6, .int l6), (7, .long l7)]) [0, 1, 2, 3, 4, 5, 6] rfl (hexit0 l7 (kz (P := K) hz hk))
  · replace hz := (if_neg c1).symm.trans hz
    refine AX.iload dX11_findsWhere_192 4 rfl ?_
    refine AX.iload dX11_findsWhere_194 7 rfl ?_
    refine AX.iadd dX11_findsWhere_196 ?_
    refine AX.iload_n dX11_findsWhere_197 1 rfl rfl ?_
    refine AX.icmp_gt (tgt := 223) dX11_findsWhere_198 rfl (fun c2 => ?_) (fun c2 => ?_)
    · replace hz := (if_pos c2).symm.trans hz
      exact AX.sub (ls' := [(0, .ref (G.2.2.1 44)), (1, .int l1), (2, .long l2), (4, .int l4), (5, .int l5), (6, .int l6), (7, .long l7)]) [0, 1, 2, 3, 4, 5, 6] rfl (hexit0 l7 (kz (P := K) hz hk))
    · replace hz := (if_neg c2).symm.trans hz
      refine AX.lload dX11_findsWhere_201 6 rfl ?_
      refine AX.aload_n dX11_findsWhere_203 0 rfl rfl ?_
      refine AX.iload dX11_findsWhere_204 4 rfl ?_
      refine AX.iload dX11_findsWhere_206 7 rfl ?_
      refine AX.iadd dX11_findsWhere_208 ?_
      refine AX.iload dX11_findsWhere_209 3 rfl ?_
      obtain ⟨q3, hq3, hz⟩ := obind hz
      refine AX.callVw (r := 44) (As := [.int (l5 + l9), .int l4]) (rest := [.long l7]) (w := some (.long q3)) (st' := [.long q3, .long l7]) dX11_findsWhere_211 mlRX11_160 ylX11_notesWeigh yvX11_notesWeigh rfl rfl rfl (Nat.le_of_ble_eq_true rfl) ⟨Nat.le_of_ble_eq_true rfl, Nat.le_of_ble_eq_true rfl⟩ (xX11_notesWeigh (l5 + l9) l4 σ hq3) rfl ?_
      refine AX.lmul dX11_findsWhere_214 ?_
      obtain ⟨x4, hx4, hz⟩ := ltb_e hz
      refine AX.topL hx4 ?_
      refine AX.lstore (ls' := [(0, .ref (G.2.2.1 44)), (1, .int l1), (2, .long l2), (4, .int l4), (5, .int l5), (6, .int l6), (7, .long x4), (9, .int l9)]) dX11_findsWhere_215 (Nat.le_of_ble_eq_true rfl) rfl ?_
      refine AX.iinc (v := l9 + 1) (ls' := [(0, .ref (G.2.2.1 44)), (1, .int l1), (2, .long l2), (4, .int l4), (5, .int l5), (6, .int l6), (7, .long x4), (9, .int (l9 + 1))]) 7 dX11_findsWhere_217 rfl (Nat.le_of_ble_eq_true rfl) (congrArg (l9 + ·) ic_1) rfl ?_
      refine AX.goto (tgt := 185) dX11_findsWhere_220 rfl ?_
      exact AX.sub (ls' := [(0, .ref (G.2.2.1 44)), (1, .int l1), (2, .long l2), (4, .int l4), (5, .int l5), (6, .int l6), (7, .long x4), (9, .int (l9 + 1))]) [0, 1, 2, 3, 4, 5, 6, 7] rfl (hback (x4, l9 + 1) (kz (P := K) hz hk))
noncomputable def fX11_findsWhere_j262 (l1 : Int32) (l2 : Int64) (l4 : Int32) (l5 : Int32) (l6 : Int32) (σ : St) : Option ((Int32 × St) ⊕ St) :=
  some (.inl (l6 + 1, σ))
theorem wfX11_findsWhere_j262 {G : ag_G} (l1 : Int32) (l2 : Int64) (l4 : Int32) (l5 : Int32) (l6 : Int32) (σ : St) {z : (Int32 × St) ⊕ St} (hz : fX11_findsWhere_j262 l1 l2 l4 l5 l6 σ = some z) {Q : Option Value → St → Prop} (K : ((Int32 × St) ⊕ St) → Prop) (hback : ∀ a : Int32 × St, K (.inl a) → AX G mX11_findsWhere 5 114 145 [(0, .ref (G.2.2.1 44)), (1, .int l1), (2, .long l2), (4, .int l4), (5, .int l5), (6, .int a.1)] [] a.2 Q) (hk : K z) : AX G mX11_findsWhere 5 114 262 [(0, .ref (G.2.2.1 44)), (1, .int l1), (2, .long l2), (4, .int l4), (5, .int l5), (6, .int l6)] [] σ Q := by
  unfold fX11_findsWhere_j262 at hz
  refine AX.iinc (v := l6 + 1) (ls' := [(0, .ref (G.2.2.1 44)), (1, .int l1), (2, .long l2), (4, .int l4), (5, .int l5), (6, .int (l6 + 1))]) 5 dX11_findsWhere_262 rfl (Nat.le_of_ble_eq_true rfl) (congrArg (l6 + ·) ic_1) rfl ?_
  refine AX.goto (tgt := 145) dX11_findsWhere_265 rfl ?_
  exact AX.sub (ls' := [(0, .ref (G.2.2.1 44)), (1, .int l1), (2, .long l2), (4, .int l4), (5, .int l5), (6, .int (l6 + 1))]) [0, 1, 2, 3, 4, 5] rfl (hback (l6 + 1, σ) (kz (P := K) hz hk))
noncomputable def fX11_findsWhere_b145 (l1 : Int32) (l2 : Int64) (l4 : Int32) (l5 : Int32) (l6 : Int32) (σ : St) : Option ((Int32 × St) ⊕ St) :=
  if (3 : Int32) ≤ l6 then some (.inr σ) else if inb l5 112 = true then if (σ.2 57 l5.toNatClampNeg) ≤ (0 : Int64) then some (.inr σ) else (fX11_saysOdds l4 l6 σ).bind fun q4 => ltb ((σ.2 57 l5.toNatClampNeg) * q4.toInt64) fun x5 => (lpc (fun s => fX11_findsWhere_b185 l1 l2 l4 l5 l6 s.1 s.2 σ) (x5, 1)).bind fun r6 => if (l5 + l6) < l1 then if inb (l5 + l6) 112 = true then fX11_findsWhere_j262 l1 l2 l4 l5 l6 (sL σ 58 ((l5 + l6).toNatClampNeg) ((σ.2 58 ((l5 + l6).toNatClampNeg)) + r6)) else none else if inb l4 100 = true then fX11_findsWhere_j262 l1 l2 l4 l5 l6 (sL σ 59 l4.toNatClampNeg ((σ.2 59 l4.toNatClampNeg) + r6)) else none else none
theorem wfX11_findsWhere_b145 {G : ag_G} (l1 : Int32) (l2 : Int64) (l4 : Int32) (l5 : Int32) (l6 : Int32) (σ : St) {z : (Int32 × St) ⊕ St} (hz : fX11_findsWhere_b145 l1 l2 l4 l5 l6 σ = some z) {Q : Option Value → St → Prop} (K : ((Int32 × St) ⊕ St) → Prop) (hback : ∀ a : Int32 × St, K (.inl a) → AX G mX11_findsWhere 5 114 145 [(0, .ref (G.2.2.1 44)), (1, .int l1), (2, .long l2), (4, .int l4), (5, .int l5), (6, .int a.1)] [] a.2 Q) (hexit0 : ∀ a : St, K (.inr a) → AX G mX11_findsWhere 5 114 268 [(0, .ref (G.2.2.1 44)), (1, .int l1), (2, .long l2), (4, .int l4), (5, .int l5)] [] a Q) (hk : K z) : AX G mX11_findsWhere 5 114 145 [(0, .ref (G.2.2.1 44)), (1, .int l1), (2, .long l2), (4, .int l4), (5, .int l5), (6, .int l6)] [] σ Q := by
  unfold fX11_findsWhere_b145 at hz
  refine AX.iload dX11_findsWhere_145 5 rfl ?_
  refine AX.iconst dX11_findsWhere_147 ic_3 ?_
  refine AX.icmp_ge (tgt := 268) dX11_findsWhere_148 rfl (fun c1 => ?_) (fun c1 => ?_)
  · replace hz := (if_pos c1).symm.trans hz
    exact AX.sub (ls' := [(0, .ref (G.2.2.1 44)), (1, .int l1), (2, .long l2), (4, .int l4), (5, .int l5)]) [0, 1, 2, 3, 4] rfl (hexit0 σ (kz (P := K) hz hk))
  · replace hz := (if_neg c1).symm.trans hz
    refine AX.aload_n dX11_findsWhere_151 0 rfl rfl ?_
    refine AX.getR dX11_findsWhere_152 flRX11_46 rfl rfl ?_
    refine AX.iload dX11_findsWhere_155 4 rfl ?_
    obtain ⟨b2, hz⟩ := ite_n hz
    refine AX.laldE (v := σ.2 57 l5.toNatClampNeg) dX11_findsWhere_157 rfl b2 rfl ?_
    refine AX.lconst dX11_findsWhere_158 lc_0 ?_
    refine AX.lcmp_le (tgt := 268) dX11_findsWhere_159 dX11_findsWhere_160 rfl (fun c3 => ?_) (fun c3 => ?_)
    · replace hz := (if_pos c3).symm.trans hz
      exact AX.sub (ls' := [(0, .ref (G.2.2.1 44)), (1, .int l1), (2, .long l2), (4, .int l4), (5, .int l5)]) [0, 1, 2, 3, 4] rfl (hexit0 σ (kz (P := K) hz hk))
    · replace hz := (if_neg c3).symm.trans hz
      refine AX.aload_n dX11_findsWhere_163 0 rfl rfl ?_
      refine AX.getR dX11_findsWhere_164 flRX11_46 rfl rfl ?_
      refine AX.iload dX11_findsWhere_167 4 rfl ?_
      refine AX.laldE (v := σ.2 57 l5.toNatClampNeg) dX11_findsWhere_169 rfl b2 rfl ?_
      refine AX.aload_n dX11_findsWhere_170 0 rfl rfl ?_
      refine AX.iload dX11_findsWhere_171 3 rfl ?_
      refine AX.iload dX11_findsWhere_173 5 rfl ?_
      obtain ⟨q4, hq4, hz⟩ := obind hz
      refine AX.callVw (r := 44) (As := [.int l4, .int l6]) (rest := [.long (σ.2 57 l5.toNatClampNeg)]) (w := some (.int q4)) (st' := [.int q4, .long (σ.2 57 l5.toNatClampNeg)]) dX11_findsWhere_175 mlRX11_157 ylX11_saysOdds yvX11_saysOdds rfl rfl rfl (Nat.le_of_ble_eq_true rfl) ⟨Nat.le_of_ble_eq_true rfl, Nat.le_of_ble_eq_true rfl⟩ (xX11_saysOdds l4 l6 σ hq4) rfl ?_
      refine AX.i2l dX11_findsWhere_178 ?_
      refine AX.lmul dX11_findsWhere_179 ?_
      obtain ⟨x5, hx5, hz⟩ := ltb_e hz
      refine AX.topL hx5 ?_
      refine AX.lstore (ls' := [(0, .ref (G.2.2.1 44)), (1, .int l1), (2, .long l2), (4, .int l4), (5, .int l5), (6, .int l6), (7, .long x5)]) dX11_findsWhere_180 (Nat.le_of_ble_eq_true rfl) rfl ?_
      refine AX.iconst dX11_findsWhere_182 ic_1 ?_
      refine AX.istore (ls' := [(0, .ref (G.2.2.1 44)), (1, .int l1), (2, .long l2), (4, .int l4), (5, .int l5), (6, .int l6), (7, .long x5), (9, .int 1)]) dX11_findsWhere_183 (Nat.le_of_ble_eq_true rfl) rfl ?_
      obtain ⟨r6, hr6, hz⟩ := obind hz
      refine AX.sub (ls' := [(0, .ref (G.2.2.1 44)), (1, .int l1), (2, .long l2), (4, .int l4), (5, .int l5), (6, .int l6), (7, .long x5), (9, .int 1)]) [0, 1, 2, 3, 4, 5, 6, 7] rfl ?_
      refine lpc_ind (s := (x5, 1)) (r := r6) (fun s => AX G mX11_findsWhere 5 114 185 [(0, .ref (G.2.2.1 44)), (1, .int l1), (2, .long l2), (4, .int l4), (5, .int l5), (6, .int l6), (7, .long s.1), (9, .int s.2)] [] σ Q) (fun a : Int64 => AX G mX11_findsWhere 5 114 223 [(0, .ref (G.2.2.1 44)), (1, .int l1), (2, .long l2), (4, .int l4), (5, .int l5), (6, .int l6), (7, .long a)] [] σ Q) hr6 (fun s z hb hK => wfX11_findsWhere_b185 l1 l2 l4 l5 l6 s.1 s.2 σ hb (Sum.elim (fun s => AX G mX11_findsWhere 5 114 185 [(0, .ref (G.2.2.1 44)), (1, .int l1), (2, .long l2), (4, .int l4), (5, .int l5), (6, .int l6), (7, .long s.1), (9, .int s.2)] [] σ Q) (fun a : Int64 => AX G mX11_findsWhere 5 114 223 [(0, .ref (G.2.2.1 44)), (1, .int l1), (2, .long l2), (4, .int l4), (5, .int l5), (6, .int l6), (7, .long a)] [] σ Q)) (fun _ h9 => h9) (fun _ h9 => h9) hK) ?_
      refine AX.iload dX11_findsWhere_223 4 rfl ?_
      refine AX.iload dX11_findsWhere_225 5 rfl ?_
      refine AX.iadd dX11_findsWhere_227 ?_
      refine AX.iload_n dX11_findsWhere_228 1 rfl rfl ?_
      refine AX.icmp_lt (tgt := 247) dX11_findsWhere_229 rfl (fun c7 => ?_) (fun c7 => ?_)
      · replace hz := (if_pos c7).symm.trans hz
        refine AX.aload_n dX11_findsWhere_247 0 rfl rfl ?_
        refine AX.getR dX11_findsWhere_248 flRX11_50 rfl rfl ?_
        refine AX.iload dX11_findsWhere_251 4 rfl ?_
        refine AX.iload dX11_findsWhere_253 5 rfl ?_
        refine AX.iadd dX11_findsWhere_255 ?_
        refine AX.dup2 dX11_findsWhere_256 rfl rfl ?_
        obtain ⟨b8, hz⟩ := ite_n hz
        refine AX.laldE (v := σ.2 58 ((l5 + l6).toNatClampNeg)) dX11_findsWhere_257 rfl b8 rfl ?_
        refine AX.lload dX11_findsWhere_258 6 rfl ?_
        refine AX.ladd dX11_findsWhere_260 ?_
        refine AX.last dX11_findsWhere_261 rfl b8 ?_
        exact AX.sub (ls' := [(0, .ref (G.2.2.1 44)), (1, .int l1), (2, .long l2), (4, .int l4), (5, .int l5), (6, .int l6)]) [0, 1, 2, 3, 4, 5] rfl (wfX11_findsWhere_j262 l1 l2 l4 l5 l6 (sL σ 58 ((l5 + l6).toNatClampNeg) ((σ.2 58 ((l5 + l6).toNatClampNeg)) + r6)) hz K hback hk)
      · replace hz := (if_neg c7).symm.trans hz
        refine AX.aload_n dX11_findsWhere_232 0 rfl rfl ?_
        refine AX.getR dX11_findsWhere_233 flRX11_53 rfl rfl ?_
        refine AX.iload dX11_findsWhere_236 3 rfl ?_
        refine AX.dup2 dX11_findsWhere_238 rfl rfl ?_
        obtain ⟨b9, hz⟩ := ite_n hz
        refine AX.laldE (v := σ.2 59 l4.toNatClampNeg) dX11_findsWhere_239 rfl b9 rfl ?_
        refine AX.lload dX11_findsWhere_240 6 rfl ?_
        refine AX.ladd dX11_findsWhere_242 ?_
        refine AX.last dX11_findsWhere_243 rfl b9 ?_
        refine AX.goto (tgt := 262) dX11_findsWhere_244 rfl ?_
        exact AX.sub (ls' := [(0, .ref (G.2.2.1 44)), (1, .int l1), (2, .long l2), (4, .int l4), (5, .int l5), (6, .int l6)]) [0, 1, 2, 3, 4, 5] rfl (wfX11_findsWhere_j262 l1 l2 l4 l5 l6 (sL σ 59 l4.toNatClampNeg ((σ.2 59 l4.toNatClampNeg) + r6)) hz K hback hk)
noncomputable def fX11_findsWhere_b136 (l1 : Int32) (l2 : Int64) (l4 : Int32) (l5 : Int32) (σ : St) : Option ((Int32 × St) ⊕ St) :=
  if l1 ≤ l5 then some (.inr σ) else (lpc (fun s => fX11_findsWhere_b145 l1 l2 l4 l5 s.1 s.2) (0, σ)).bind fun r2 => some (.inl (l5 + 1, r2))
theorem wfX11_findsWhere_b136 {G : ag_G} (l1 : Int32) (l2 : Int64) (l4 : Int32) (l5 : Int32) (σ : St) {z : (Int32 × St) ⊕ St} (hz : fX11_findsWhere_b136 l1 l2 l4 l5 σ = some z) {Q : Option Value → St → Prop} (K : ((Int32 × St) ⊕ St) → Prop) (hback : ∀ a : Int32 × St, K (.inl a) → AX G mX11_findsWhere 5 114 136 [(0, .ref (G.2.2.1 44)), (1, .int l1), (2, .long l2), (4, .int l4), (5, .int a.1)] [] a.2 Q) (hexit0 : ∀ a : St, K (.inr a) → AX G mX11_findsWhere 5 114 274 [(0, .ref (G.2.2.1 44)), (1, .int l1), (2, .long l2), (4, .int l4)] [] a Q) (hk : K z) : AX G mX11_findsWhere 5 114 136 [(0, .ref (G.2.2.1 44)), (1, .int l1), (2, .long l2), (4, .int l4), (5, .int l5)] [] σ Q := by
  unfold fX11_findsWhere_b136 at hz
  refine AX.iload dX11_findsWhere_136 4 rfl ?_
  refine AX.iload_n dX11_findsWhere_138 1 rfl rfl ?_
  refine AX.icmp_ge (tgt := 274) dX11_findsWhere_139 rfl (fun c1 => ?_) (fun c1 => ?_)
  · replace hz := (if_pos c1).symm.trans hz
    exact AX.sub (ls' := [(0, .ref (G.2.2.1 44)), (1, .int l1), (2, .long l2), (4, .int l4)]) [0, 1, 2, 3] rfl (hexit0 σ (kz (P := K) hz hk))
  · replace hz := (if_neg c1).symm.trans hz
    refine AX.iconst dX11_findsWhere_142 ic_0 ?_
    refine AX.istore (ls' := [(0, .ref (G.2.2.1 44)), (1, .int l1), (2, .long l2), (4, .int l4), (5, .int l5), (6, .int 0)]) dX11_findsWhere_143 (Nat.le_of_ble_eq_true rfl) rfl ?_
    obtain ⟨r2, hr2, hz⟩ := obind hz
    refine AX.sub (ls' := [(0, .ref (G.2.2.1 44)), (1, .int l1), (2, .long l2), (4, .int l4), (5, .int l5), (6, .int 0)]) [0, 1, 2, 3, 4, 5] rfl ?_
    refine lpc_ind (s := (0, σ)) (r := r2) (fun s => AX G mX11_findsWhere 5 114 145 [(0, .ref (G.2.2.1 44)), (1, .int l1), (2, .long l2), (4, .int l4), (5, .int l5), (6, .int s.1)] [] s.2 Q) (fun a : St => AX G mX11_findsWhere 5 114 268 [(0, .ref (G.2.2.1 44)), (1, .int l1), (2, .long l2), (4, .int l4), (5, .int l5)] [] a Q) hr2 (fun s z hb hK => wfX11_findsWhere_b145 l1 l2 l4 l5 s.1 s.2 hb (Sum.elim (fun s => AX G mX11_findsWhere 5 114 145 [(0, .ref (G.2.2.1 44)), (1, .int l1), (2, .long l2), (4, .int l4), (5, .int l5), (6, .int s.1)] [] s.2 Q) (fun a : St => AX G mX11_findsWhere 5 114 268 [(0, .ref (G.2.2.1 44)), (1, .int l1), (2, .long l2), (4, .int l4), (5, .int l5)] [] a Q)) (fun _ h9 => h9) (fun _ h9 => h9) hK) ?_
    refine AX.iinc (v := l5 + 1) (ls' := [(0, .ref (G.2.2.1 44)), (1, .int l1), (2, .long l2), (4, .int l4), (5, .int (l5 + 1))]) 4 dX11_findsWhere_268 rfl (Nat.le_of_ble_eq_true rfl) (congrArg (l5 + ·) ic_1) rfl ?_
    refine AX.goto (tgt := 136) dX11_findsWhere_271 rfl ?_
    exact AX.sub (ls' := [(0, .ref (G.2.2.1 44)), (1, .int l1), (2, .long l2), (4, .int l4), (5, .int (l5 + 1))]) [0, 1, 2, 3, 4] rfl (hback (l5 + 1, r2) (kz (P := K) hz hk))
noncomputable def fX11_findsWhere_b277 (l1 : Int32) (l2 : Int64) (l4 : Int32) (l5 : Int32) (σ : St) : Option ((Int32 × St) ⊕ St) :=
  if (112 : Int32) ≤ l5 then some (.inr σ) else if inb l5 112 = true then some (.inl (l5 + 1, (sL σ 57 l5.toNatClampNeg (σ.2 58 l5.toNatClampNeg)))) else none
theorem wfX11_findsWhere_b277 {G : ag_G} (l1 : Int32) (l2 : Int64) (l4 : Int32) (l5 : Int32) (σ : St) {z : (Int32 × St) ⊕ St} (hz : fX11_findsWhere_b277 l1 l2 l4 l5 σ = some z) {Q : Option Value → St → Prop} (K : ((Int32 × St) ⊕ St) → Prop) (hback : ∀ a : Int32 × St, K (.inl a) → AX G mX11_findsWhere 5 114 277 [(0, .ref (G.2.2.1 44)), (1, .int l1), (2, .long l2), (4, .int l4), (5, .int a.1)] [] a.2 Q) (hexit0 : ∀ a : St, K (.inr a) → AX G mX11_findsWhere 5 114 304 [(0, .ref (G.2.2.1 44)), (1, .int l1), (2, .long l2), (4, .int l4)] [] a Q) (hk : K z) : AX G mX11_findsWhere 5 114 277 [(0, .ref (G.2.2.1 44)), (1, .int l1), (2, .long l2), (4, .int l4), (5, .int l5)] [] σ Q := by
  unfold fX11_findsWhere_b277 at hz
  refine AX.iload dX11_findsWhere_277 4 rfl ?_
  refine AX.bipush dX11_findsWhere_279 bp_112 ?_
  refine AX.icmp_ge (tgt := 304) dX11_findsWhere_281 rfl (fun c1 => ?_) (fun c1 => ?_)
  · replace hz := (if_pos c1).symm.trans hz
    exact AX.sub (ls' := [(0, .ref (G.2.2.1 44)), (1, .int l1), (2, .long l2), (4, .int l4)]) [0, 1, 2, 3] rfl (hexit0 σ (kz (P := K) hz hk))
  · replace hz := (if_neg c1).symm.trans hz
    refine AX.aload_n dX11_findsWhere_284 0 rfl rfl ?_
    refine AX.getR dX11_findsWhere_285 flRX11_46 rfl rfl ?_
    refine AX.iload dX11_findsWhere_288 4 rfl ?_
    refine AX.aload_n dX11_findsWhere_290 0 rfl rfl ?_
    refine AX.getR dX11_findsWhere_291 flRX11_50 rfl rfl ?_
    refine AX.iload dX11_findsWhere_294 4 rfl ?_
    obtain ⟨b2, hz⟩ := ite_n hz
    refine AX.laldE (v := σ.2 58 l5.toNatClampNeg) dX11_findsWhere_296 rfl b2 rfl ?_
    refine AX.last dX11_findsWhere_297 rfl b2 ?_
    refine AX.iinc (v := l5 + 1) (ls' := [(0, .ref (G.2.2.1 44)), (1, .int l1), (2, .long l2), (4, .int l4), (5, .int (l5 + 1))]) 4 dX11_findsWhere_298 rfl (Nat.le_of_ble_eq_true rfl) (congrArg (l5 + ·) ic_1) rfl ?_
    refine AX.goto (tgt := 277) dX11_findsWhere_301 rfl ?_
    exact AX.sub (ls' := [(0, .ref (G.2.2.1 44)), (1, .int l1), (2, .long l2), (4, .int l4), (5, .int (l5 + 1))]) [0, 1, 2, 3, 4] rfl (hback (l5 + 1, (sL σ 57 l5.toNatClampNeg (σ.2 58 l5.toNatClampNeg))) (kz (P := K) hz hk))
noncomputable def fX11_findsWhere_j99 (l1 : Int32) (l4 : Int32) (t0 : Int64) (t1 : Int64) (σ : St) : Option ((Int64 × Int32 × St) ⊕ St) :=
  if t1 = 0 then none else ltb (t0 / t1) fun x2 => if inb l4 100 = true then (lpc (fun s => fX11_findsWhere_b112 l1 x2 l4 s.1 s.2) (0, (sL σ 59 l4.toNatClampNeg 0))).bind fun r4 => (lpc (fun s => fX11_findsWhere_b136 l1 x2 l4 s.1 s.2) (0, r4)).bind fun r5 => (lpc (fun s => fX11_findsWhere_b277 l1 x2 l4 s.1 s.2) (0, r5)).bind fun r6 => if inb l4 100 = true then some (.inl (x2, l4 + 1, (sL (sL r6 59 l4.toNatClampNeg ((r6.2 59 l4.toNatClampNeg) * x2)) 44 22 ((r6.2 44 22) + ((r6.2 59 l4.toNatClampNeg) * x2))))) else none else none
theorem wfX11_findsWhere_j99 {G : ag_G} (l1 : Int32) (l4 : Int32) (t0 : Int64) (t1 : Int64) (σ : St) {z : (Int64 × Int32 × St) ⊕ St} (hz : fX11_findsWhere_j99 l1 l4 t0 t1 σ = some z) {Q : Option Value → St → Prop} (K : ((Int64 × Int32 × St) ⊕ St) → Prop) (hback : ∀ a : Int64 × Int32 × St, K (.inl a) → AX G mX11_findsWhere 5 114 71 [(0, .ref (G.2.2.1 44)), (1, .int l1), (2, .long a.1), (4, .int a.2.1)] [] a.2.2 Q) (hk : K z) : AX G mX11_findsWhere 5 114 99 [(0, .ref (G.2.2.1 44)), (1, .int l1), (4, .int l4)] [.long t1, .long t0] σ Q := by
  unfold fX11_findsWhere_j99 at hz
  obtain ⟨c1, hz⟩ := ite_m hz
  refine AX.ldiv dX11_findsWhere_99 c1 ?_
  obtain ⟨x2, hx2, hz⟩ := ltb_e hz
  refine AX.topL hx2 ?_
  refine AX.lstore_n (ls' := [(0, .ref (G.2.2.1 44)), (1, .int l1), (2, .long x2), (4, .int l4)]) dX11_findsWhere_100 rfl (Nat.le_of_ble_eq_true rfl) rfl ?_
  refine AX.aload_n dX11_findsWhere_101 0 rfl rfl ?_
  refine AX.getR dX11_findsWhere_102 flRX11_53 rfl rfl ?_
  refine AX.iload dX11_findsWhere_105 3 rfl ?_
  refine AX.lconst dX11_findsWhere_107 lc_0 ?_
  obtain ⟨b3, hz⟩ := ite_n hz
  refine AX.last dX11_findsWhere_108 rfl b3 ?_
  refine AX.iconst dX11_findsWhere_109 ic_0 ?_
  refine AX.istore (ls' := [(0, .ref (G.2.2.1 44)), (1, .int l1), (2, .long x2), (4, .int l4), (5, .int 0)]) dX11_findsWhere_110 (Nat.le_of_ble_eq_true rfl) rfl ?_
  obtain ⟨r4, hr4, hz⟩ := obind hz
  refine AX.sub (ls' := [(0, .ref (G.2.2.1 44)), (1, .int l1), (2, .long x2), (4, .int l4), (5, .int 0)]) [0, 1, 2, 3, 4] rfl ?_
  refine lpc_ind (s := (0, (sL σ 59 l4.toNatClampNeg 0))) (r := r4) (fun s => AX G mX11_findsWhere 5 114 112 [(0, .ref (G.2.2.1 44)), (1, .int l1), (2, .long x2), (4, .int l4), (5, .int s.1)] [] s.2 Q) (fun a : St => AX G mX11_findsWhere 5 114 133 [(0, .ref (G.2.2.1 44)), (1, .int l1), (2, .long x2), (4, .int l4)] [] a Q) hr4 (fun s z hb hK => wfX11_findsWhere_b112 l1 x2 l4 s.1 s.2 hb (Sum.elim (fun s => AX G mX11_findsWhere 5 114 112 [(0, .ref (G.2.2.1 44)), (1, .int l1), (2, .long x2), (4, .int l4), (5, .int s.1)] [] s.2 Q) (fun a : St => AX G mX11_findsWhere 5 114 133 [(0, .ref (G.2.2.1 44)), (1, .int l1), (2, .long x2), (4, .int l4)] [] a Q)) (fun _ h9 => h9) (fun _ h9 => h9) hK) ?_
  refine AX.iconst dX11_findsWhere_133 ic_0 ?_
  refine AX.istore (ls' := [(0, .ref (G.2.2.1 44)), (1, .int l1), (2, .long x2), (4, .int l4), (5, .int 0)]) dX11_findsWhere_134 (Nat.le_of_ble_eq_true rfl) rfl ?_
  obtain ⟨r5, hr5, hz⟩ := obind hz
  refine AX.sub (ls' := [(0, .ref (G.2.2.1 44)), (1, .int l1), (2, .long x2), (4, .int l4), (5, .int 0)]) [0, 1, 2, 3, 4] rfl ?_
  refine lpc_ind (s := (0, r4)) (r := r5) (fun s => AX G mX11_findsWhere 5 114 136 [(0, .ref (G.2.2.1 44)), (1, .int l1), (2, .long x2), (4, .int l4), (5, .int s.1)] [] s.2 Q) (fun a : St => AX G mX11_findsWhere 5 114 274 [(0, .ref (G.2.2.1 44)), (1, .int l1), (2, .long x2), (4, .int l4)] [] a Q) hr5 (fun s z hb hK => wfX11_findsWhere_b136 l1 x2 l4 s.1 s.2 hb (Sum.elim (fun s => AX G mX11_findsWhere 5 114 136 [(0, .ref (G.2.2.1 44)), (1, .int l1), (2, .long x2), (4, .int l4), (5, .int s.1)] [] s.2 Q) (fun a : St => AX G mX11_findsWhere 5 114 274 [(0, .ref (G.2.2.1 44)), (1, .int l1), (2, .long x2), (4, .int l4)] [] a Q)) (fun _ h9 => h9) (fun _ h9 => h9) hK) ?_
  refine AX.iconst dX11_findsWhere_274 ic_0 ?_
  refine AX.istore (ls' := [(0, .ref (G.2.2.1 44)), (1, .int l1), (2, .long x2), (4, .int l4), (5, .int 0)]) dX11_findsWhere_275 (Nat.le_of_ble_eq_true rfl) rfl ?_
  obtain ⟨r6, hr6, hz⟩ := obind hz
  refine AX.sub (ls' := [(0, .ref (G.2.2.1 44)), (1, .int l1), (2, .long x2), (4, .int l4), (5, .int 0)]) [0, 1, 2, 3, 4] rfl ?_
  refine lpc_ind (s := (0, r5)) (r := r6) (fun s => AX G mX11_findsWhere 5 114 277 [(0, .ref (G.2.2.1 44)), (1, .int l1), (2, .long x2), (4, .int l4), (5, .int s.1)] [] s.2 Q) (fun a : St => AX G mX11_findsWhere 5 114 304 [(0, .ref (G.2.2.1 44)), (1, .int l1), (2, .long x2), (4, .int l4)] [] a Q) hr6 (fun s z hb hK => wfX11_findsWhere_b277 l1 x2 l4 s.1 s.2 hb (Sum.elim (fun s => AX G mX11_findsWhere 5 114 277 [(0, .ref (G.2.2.1 44)), (1, .int l1), (2, .long x2), (4, .int l4), (5, .int s.1)] [] s.2 Q) (fun a : St => AX G mX11_findsWhere 5 114 304 [(0, .ref (G.2.2.1 44)), (1, .int l1), (2, .long x2), (4, .int l4)] [] a Q)) (fun _ h9 => h9) (fun _ h9 => h9) hK) ?_
  refine AX.aload_n dX11_findsWhere_304 0 rfl rfl ?_
  refine AX.getR dX11_findsWhere_305 flRX11_53 rfl rfl ?_
  refine AX.iload dX11_findsWhere_308 3 rfl ?_
  refine AX.dup2 dX11_findsWhere_310 rfl rfl ?_
  obtain ⟨b7, hz⟩ := ite_n hz
  refine AX.laldE (v := r6.2 59 l4.toNatClampNeg) dX11_findsWhere_311 rfl b7 rfl ?_
  refine AX.lload_n dX11_findsWhere_312 2 rfl rfl ?_
  refine AX.lmul dX11_findsWhere_313 ?_
  refine AX.last dX11_findsWhere_314 rfl b7 ?_
  refine AX.aload_n dX11_findsWhere_315 0 rfl rfl ?_
  refine AX.dup dX11_findsWhere_316 rfl ?_
  refine AX.getJE (v := r6.2 44 22) dX11_findsWhere_317 flRX11_153 rfl rfl rfl ?_
  refine AX.aload_n dX11_findsWhere_320 0 rfl rfl ?_
  refine AX.getR dX11_findsWhere_321 flRX11_53 rfl rfl ?_
  refine AX.iload dX11_findsWhere_324 3 rfl ?_
  refine AX.laldE (v := (r6.2 59 l4.toNatClampNeg) * x2) dX11_findsWhere_326 rfl b7 sL_at ?_
  refine AX.ladd dX11_findsWhere_327 ?_
  refine AX.putJ dX11_findsWhere_328 fpRX11_153 rfl rfl ?_
  refine AX.iinc (v := l4 + 1) (ls' := [(0, .ref (G.2.2.1 44)), (1, .int l1), (2, .long x2), (4, .int (l4 + 1))]) 3 dX11_findsWhere_331 rfl (Nat.le_of_ble_eq_true rfl) (congrArg (l4 + ·) ic_1) rfl ?_
  refine AX.goto (tgt := 71) dX11_findsWhere_334 rfl ?_
  exact AX.sub (ls' := [(0, .ref (G.2.2.1 44)), (1, .int l1), (2, .long x2), (4, .int (l4 + 1))]) [0, 1, 2, 3] rfl (hback (x2, l4 + 1, (sL (sL r6 59 l4.toNatClampNeg ((r6.2 59 l4.toNatClampNeg) * x2)) 44 22 ((r6.2 44 22) + ((r6.2 59 l4.toNatClampNeg) * x2)))) (kz (P := K) hz hk))
noncomputable def fX11_findsWhere_b71 (l1 : Int32) (l2 : Int64) (l4 : Int32) (σ : St) : Option ((Int64 × Int32 × St) ⊕ St) :=
  if (σ.1 44 2) ≤ l4 then some (.inr σ) else if inb l4 100 = true then if (3 : Int32) ≤ (σ.1 46 l4.toNatClampNeg) then fX11_findsWhere_j99 l1 l4 l2 1 σ else fX11_findsWhere_j99 l1 l4 l2 16 σ else none
theorem wfX11_findsWhere_b71 {G : ag_G} (l1 : Int32) (l2 : Int64) (l4 : Int32) (σ : St) {z : (Int64 × Int32 × St) ⊕ St} (hz : fX11_findsWhere_b71 l1 l2 l4 σ = some z) {Q : Option Value → St → Prop} (K : ((Int64 × Int32 × St) ⊕ St) → Prop) (hback : ∀ a : Int64 × Int32 × St, K (.inl a) → AX G mX11_findsWhere 5 114 71 [(0, .ref (G.2.2.1 44)), (1, .int l1), (2, .long a.1), (4, .int a.2.1)] [] a.2.2 Q) (hexit0 : ∀ a : St, K (.inr a) → AX G mX11_findsWhere 5 114 337 [] [] a Q) (hk : K z) : AX G mX11_findsWhere 5 114 71 [(0, .ref (G.2.2.1 44)), (1, .int l1), (2, .long l2), (4, .int l4)] [] σ Q := by
  unfold fX11_findsWhere_b71 at hz
  refine AX.iload dX11_findsWhere_71 3 rfl ?_
  refine AX.aload_n dX11_findsWhere_73 0 rfl rfl ?_
  refine AX.getIE (v := σ.1 44 2) dX11_findsWhere_74 flRX11_97 rfl rfl rfl ?_
  refine AX.icmp_ge (tgt := 337) dX11_findsWhere_77 rfl (fun c1 => ?_) (fun c1 => ?_)
  · replace hz := (if_pos c1).symm.trans hz
    exact AX.sub (ls' := []) [] rfl (hexit0 σ (kz (P := K) hz hk))
  · replace hz := (if_neg c1).symm.trans hz
    refine AX.lload_n dX11_findsWhere_80 2 rfl rfl ?_
    refine AX.aload_n dX11_findsWhere_81 0 rfl rfl ?_
    refine AX.getR dX11_findsWhere_82 flRX11_13 rfl rfl ?_
    refine AX.iload dX11_findsWhere_85 3 rfl ?_
    obtain ⟨b2, hz⟩ := ite_n hz
    refine AX.ialdE (v := σ.1 46 l4.toNatClampNeg) dX11_findsWhere_87 rfl b2 rfl ?_
    refine AX.iconst dX11_findsWhere_88 ic_3 ?_
    refine AX.icmp_ge (tgt := 98) dX11_findsWhere_89 rfl (fun c3 => ?_) (fun c3 => ?_)
    · replace hz := (if_pos c3).symm.trans hz
      refine AX.lconst dX11_findsWhere_98 lc_1 ?_
      exact AX.sub (ls' := [(0, .ref (G.2.2.1 44)), (1, .int l1), (4, .int l4)]) [0, 1, 3] rfl (wfX11_findsWhere_j99 l1 l4 l2 1 σ hz K hback hk)
    · replace hz := (if_neg c3).symm.trans hz
      refine AX.ldc2 dX11_findsWhere_92 kcRX11_151 ?_
      refine AX.goto (tgt := 99) dX11_findsWhere_95 rfl ?_
      exact AX.sub (ls' := [(0, .ref (G.2.2.1 44)), (1, .int l1), (4, .int l4)]) [0, 1, 3] rfl (wfX11_findsWhere_j99 l1 l4 l2 16 σ hz K hback hk)
noncomputable def fX11_findsWhere (p0 : Int32) (σ : St) : Option (St) :=
  (fX11_reads  σ).bind fun q1 => (lpc (fun s => fX11_findsWhere_b9 p0 s.1 s.2 q1) (1, 0)).bind fun r2 => (lpc (fun s => fX11_findsWhere_b33 p0 r2 s.1 s.2) (0, q1)).bind fun r3 => (lpc (fun s => fX11_findsWhere_b71 p0 s.1 s.2.1 s.2.2) (r2, 0, (sL r3 44 22 0))).bind fun r4 => some r4
theorem wfX11_findsWhere {G : ag_G} (p0 : Int32) (σ : St) {z : St} (hz : fX11_findsWhere p0 σ = some z) {Q : Option Value → St → Prop} (hk : Q (none) z) : AX G mX11_findsWhere 5 114 0 [(0, .ref (G.2.2.1 44)), (1, .int p0)] [] σ Q := by
  unfold fX11_findsWhere at hz
  refine AX.aload_n dX11_findsWhere_0 0 rfl rfl ?_
  obtain ⟨q1, hq1, hz⟩ := obind hz
  refine AX.callVw (r := 44) (As := []) (rest := []) (w := none) (st' := []) dX11_findsWhere_1 mlRX11_121 ylX11_reads yvX11_reads rfl rfl rfl (Nat.le_of_ble_eq_true rfl) ⟨Nat.le_of_ble_eq_true rfl, Nat.le_of_ble_eq_true rfl⟩ (xX11_reads  σ hq1) rfl ?_
  refine AX.lconst dX11_findsWhere_4 lc_1 ?_
  refine AX.lstore_n (ls' := [(0, .ref (G.2.2.1 44)), (1, .int p0), (2, .long 1)]) dX11_findsWhere_5 rfl (Nat.le_of_ble_eq_true rfl) rfl ?_
  refine AX.iconst dX11_findsWhere_6 ic_0 ?_
  refine AX.istore (ls' := [(0, .ref (G.2.2.1 44)), (1, .int p0), (2, .long 1), (4, .int 0)]) dX11_findsWhere_7 (Nat.le_of_ble_eq_true rfl) rfl ?_
  obtain ⟨r2, hr2, hz⟩ := obind hz
  refine AX.sub (ls' := [(0, .ref (G.2.2.1 44)), (1, .int p0), (2, .long 1), (4, .int 0)]) [0, 1, 2, 3] rfl ?_
  refine lpc_ind (s := (1, 0)) (r := r2) (fun s => AX G mX11_findsWhere 5 114 9 [(0, .ref (G.2.2.1 44)), (1, .int p0), (2, .long s.1), (4, .int s.2)] [] q1 Q) (fun a : Int64 => AX G mX11_findsWhere 5 114 30 [(0, .ref (G.2.2.1 44)), (1, .int p0), (2, .long a)] [] q1 Q) hr2 (fun s z hb hK => wfX11_findsWhere_b9 p0 s.1 s.2 q1 hb (Sum.elim (fun s => AX G mX11_findsWhere 5 114 9 [(0, .ref (G.2.2.1 44)), (1, .int p0), (2, .long s.1), (4, .int s.2)] [] q1 Q) (fun a : Int64 => AX G mX11_findsWhere 5 114 30 [(0, .ref (G.2.2.1 44)), (1, .int p0), (2, .long a)] [] q1 Q)) (fun _ h9 => h9) (fun _ h9 => h9) hK) ?_
  refine AX.iconst dX11_findsWhere_30 ic_0 ?_
  refine AX.istore (ls' := [(0, .ref (G.2.2.1 44)), (1, .int p0), (2, .long r2), (4, .int 0)]) dX11_findsWhere_31 (Nat.le_of_ble_eq_true rfl) rfl ?_
  obtain ⟨r3, hr3, hz⟩ := obind hz
  refine AX.sub (ls' := [(0, .ref (G.2.2.1 44)), (1, .int p0), (2, .long r2), (4, .int 0)]) [0, 1, 2, 3] rfl ?_
  refine lpc_ind (s := (0, q1)) (r := r3) (fun s => AX G mX11_findsWhere 5 114 33 [(0, .ref (G.2.2.1 44)), (1, .int p0), (2, .long r2), (4, .int s.1)] [] s.2 Q) (fun a : St => AX G mX11_findsWhere 5 114 63 [(0, .ref (G.2.2.1 44)), (1, .int p0), (2, .long r2)] [] a Q) hr3 (fun s z hb hK => wfX11_findsWhere_b33 p0 r2 s.1 s.2 hb (Sum.elim (fun s => AX G mX11_findsWhere 5 114 33 [(0, .ref (G.2.2.1 44)), (1, .int p0), (2, .long r2), (4, .int s.1)] [] s.2 Q) (fun a : St => AX G mX11_findsWhere 5 114 63 [(0, .ref (G.2.2.1 44)), (1, .int p0), (2, .long r2)] [] a Q)) (fun _ h9 => h9) (fun _ h9 => h9) hK) ?_
  refine AX.aload_n dX11_findsWhere_63 0 rfl rfl ?_
  refine AX.lconst dX11_findsWhere_64 lc_0 ?_
  refine AX.putJ dX11_findsWhere_65 fpRX11_153 rfl rfl ?_
  refine AX.iconst dX11_findsWhere_68 ic_0 ?_
  refine AX.istore (ls' := [(0, .ref (G.2.2.1 44)), (1, .int p0), (2, .long r2), (4, .int 0)]) dX11_findsWhere_69 (Nat.le_of_ble_eq_true rfl) rfl ?_
  obtain ⟨r4, hr4, hz⟩ := obind hz
  refine AX.sub (ls' := [(0, .ref (G.2.2.1 44)), (1, .int p0), (2, .long r2), (4, .int 0)]) [0, 1, 2, 3] rfl ?_
  refine lpc_ind (s := (r2, 0, (sL r3 44 22 0))) (r := r4) (fun s => AX G mX11_findsWhere 5 114 71 [(0, .ref (G.2.2.1 44)), (1, .int p0), (2, .long s.1), (4, .int s.2.1)] [] s.2.2 Q) (fun a : St => AX G mX11_findsWhere 5 114 337 [] [] a Q) hr4 (fun s z hb hK => wfX11_findsWhere_b71 p0 s.1 s.2.1 s.2.2 hb (Sum.elim (fun s => AX G mX11_findsWhere 5 114 71 [(0, .ref (G.2.2.1 44)), (1, .int p0), (2, .long s.1), (4, .int s.2.1)] [] s.2.2 Q) (fun a : St => AX G mX11_findsWhere 5 114 337 [] [] a Q)) (fun _ h9 => h9) (fun _ h9 => h9) hK) ?_
  exact AX.vreturn dX11_findsWhere_337 rfl (kz (P := fun z => Q (none) z) hz hk)
theorem xX11_findsWhere {G : ag_G} (p0 : Int32) (σ : St) {z : St} (hz : fX11_findsWhere p0 σ = some z) : AC G yX11_findsWhere mX11_findsWhere 5 114 [.ref (G.2.2.1 44), .int p0] σ (fun v σ1 => v = none ∧ σ1 = z) := AC.of (plainFor_of_name (by decide)) rfl (Nat.le_of_ble_eq_true rfl) (wfX11_findsWhere p0 σ hz ⟨rfl, rfl⟩)
noncomputable def fX11_whereOf (p0 : Int32) (p1 : Int32) (p2 : Int32) (σ : St) : Option (Int64 × St) :=
  (fX11_findsWhere p0 σ).bind fun q1 => if (q1.2 44 22) = (0 : Int64) then (fX11_no (-3 : Int32)).bind fun q5 => some (q5, q1) else if inb p1 100 = true then (fX11_lowest (q1.2 59 p1.toNatClampNeg) (q1.2 44 22) p2).bind fun q4 => some (q4, q1) else none
theorem wfX11_whereOf {G : ag_G} (p0 : Int32) (p1 : Int32) (p2 : Int32) (σ : St) {z : Int64 × St} (hz : fX11_whereOf p0 p1 p2 σ = some z) {Q : Option Value → St → Prop} (hk : Q (some (.long z.1)) z.2) : AX G mX11_whereOf 6 143 0 [(0, .ref (G.2.2.1 44)), (1, .int p0), (2, .int p1), (3, .int p2)] [] σ Q := by
  unfold fX11_whereOf at hz
  refine AX.aload_n dX11_whereOf_0 0 rfl rfl ?_
  refine AX.iload_n dX11_whereOf_1 1 rfl rfl ?_
  obtain ⟨q1, hq1, hz⟩ := obind hz
  refine AX.callVw (r := 44) (As := [.int p0]) (rest := []) (w := none) (st' := []) dX11_whereOf_2 mlRX11_164 ylX11_findsWhere yvX11_findsWhere rfl rfl rfl (Nat.le_of_ble_eq_true rfl) ⟨Nat.le_of_ble_eq_true rfl, Nat.le_of_ble_eq_true rfl⟩ (xX11_findsWhere p0 σ hq1) rfl ?_
  refine AX.aload_n dX11_whereOf_5 0 rfl rfl ?_
  refine AX.getJE (v := q1.2 44 22) dX11_whereOf_6 flRX11_153 rfl rfl rfl ?_
  refine AX.lconst dX11_whereOf_9 lc_0 ?_
  refine AX.lcmp_ne (tgt := 22) dX11_whereOf_10 dX11_whereOf_11 rfl (fun c2 => ?_) (fun c2 => ?_)
  · replace hz := (if_neg c2).symm.trans hz
    refine AX.aload_n dX11_whereOf_22 0 rfl rfl ?_
    refine AX.getR dX11_whereOf_23 flRX11_53 rfl rfl ?_
    refine AX.iload_n dX11_whereOf_26 2 rfl rfl ?_
    obtain ⟨b3, hz⟩ := ite_n hz
    refine AX.laldE (v := q1.2 59 p1.toNatClampNeg) dX11_whereOf_27 rfl b3 rfl ?_
    refine AX.aload_n dX11_whereOf_28 0 rfl rfl ?_
    refine AX.getJE (v := q1.2 44 22) dX11_whereOf_29 flRX11_153 rfl rfl rfl ?_
    refine AX.iload_n dX11_whereOf_32 3 rfl rfl ?_
    obtain ⟨q4, hq4, hz⟩ := obind hz
    refine AX.callSw (As := [.long (q1.2 59 p1.toNatClampNeg), .long (q1.2 44 22), .int p2]) (rest := []) (w := some (.long q4)) (st' := [.long q4]) dX11_whereOf_33 mlRX11_172 ylX11_lowest ysX11_lowest rfl rfl (Nat.le_of_ble_eq_true rfl) ⟨Nat.le_of_ble_eq_true rfl, Nat.le_of_ble_eq_true rfl⟩ (xX11_lowest (q1.2 59 p1.toNatClampNeg) (q1.2 44 22) p2 q1 hq4) rfl ?_
    exact AX.lreturn dX11_whereOf_36 rfl (kz (P := fun z => Q (some (.long z.1)) z.2) hz hk)
  · replace hz := (if_pos c2).symm.trans hz
    refine AX.bipush dX11_whereOf_14 bp_m3 ?_
    obtain ⟨q5, hq5, hz⟩ := obind hz
    refine AX.callSw (As := [.int (-3)]) (rest := []) (w := some (.long q5)) (st' := [.long q5]) dX11_whereOf_16 mlRX11_168 ylX11_no ysX11_no rfl rfl (Nat.le_of_ble_eq_true rfl) ⟨Nat.le_of_ble_eq_true rfl, Nat.le_of_ble_eq_true rfl⟩ (xX11_no (-3 : Int32) q1 hq5) rfl ?_
    refine AX.goto (tgt := 36) dX11_whereOf_19 rfl ?_
    exact AX.lreturn dX11_whereOf_36 rfl (kz (P := fun z => Q (some (.long z.1)) z.2) hz hk)
theorem xX11_whereOf {G : ag_G} (p0 : Int32) (p1 : Int32) (p2 : Int32) (σ : St) {z : Int64 × St} (hz : fX11_whereOf p0 p1 p2 σ = some z) : AC G yX11_whereOf mX11_whereOf 6 143 [.ref (G.2.2.1 44), .int p0, .int p1, .int p2] σ (fun v σ1 => v = some (.long z.1) ∧ σ1 = z.2) := AC.of (plainFor_of_name (by decide)) rfl (Nat.le_of_ble_eq_true rfl) (wfX11_whereOf p0 p1 p2 σ hz ⟨rfl, rfl⟩)
noncomputable def fX11_where_j34  (σ : St) : Option (Int64 × St) :=
  (fX11_no (-2 : Int32)).bind fun q1 => some (q1, σ)
theorem wfX11_where_j34 {G : ag_G}  (σ : St) {z : Int64 × St} (hz : fX11_where_j34  σ = some z) {Q : Option Value → St → Prop} (hk : Q (some (.long z.1)) z.2) : AX G mX11_where 7 166 34 [] [] σ Q := by
  unfold fX11_where_j34 at hz
  refine AX.bipush dX11_where_34 bp_m2 ?_
  obtain ⟨q1, hq1, hz⟩ := obind hz
  refine AX.callSw (As := [.int (-2)]) (rest := []) (w := some (.long q1)) (st' := [.long q1]) dX11_where_36 mlRX11_168 ylX11_no ysX11_no rfl rfl (Nat.le_of_ble_eq_true rfl) ⟨Nat.le_of_ble_eq_true rfl, Nat.le_of_ble_eq_true rfl⟩ (xX11_no (-2 : Int32) σ hq1) rfl ?_
  exact AX.lreturn dX11_where_39 rfl (kz (P := fun z => Q (some (.long z.1)) z.2) hz hk)
noncomputable def fX11_where (p0 : Int32) (p1 : Int32) (p2 : Int32) (σ : St) : Option (Int64 × St) :=
  (fX11_isNumber p0).bind fun q1 => if q1 = (0 : Int32) then fX11_where_j34  σ else (fX11_isBar p1 σ).bind fun q3 => if q3.1 = (0 : Int32) then fX11_where_j34  q3.2 else (fX11_in p2 (0 : Int32) (1 : Int32)).bind fun q5 => if q5 = (0 : Int32) then fX11_where_j34  q3.2 else (fX11_whereOf p0 p1 p2 q3.2).bind fun q7 => some (q7.1, q7.2)
theorem wfX11_where {G : ag_G} (p0 : Int32) (p1 : Int32) (p2 : Int32) (σ : St) {z : Int64 × St} (hz : fX11_where p0 p1 p2 σ = some z) {Q : Option Value → St → Prop} (hk : Q (some (.long z.1)) z.2) : AX G mX11_where 7 166 0 [(0, .ref (G.2.2.1 44)), (1, .int p0), (2, .int p1), (3, .int p2)] [] σ Q := by
  unfold fX11_where at hz
  refine AX.iload_n dX11_where_0 1 rfl rfl ?_
  obtain ⟨q1, hq1, hz⟩ := obind hz
  refine AX.callSw (As := [.int p0]) (rest := []) (w := some (.int q1)) (st' := [.int q1]) dX11_where_1 mlRX11_138 ylX11_isNumber ysX11_isNumber rfl rfl (Nat.le_of_ble_eq_true rfl) ⟨Nat.le_of_ble_eq_true rfl, Nat.le_of_ble_eq_true rfl⟩ (xX11_isNumber p0 σ hq1) rfl ?_
  refine AX.if_eq (tgt := 34) dX11_where_4 rfl (fun c2 => ?_) (fun c2 => ?_)
  · replace hz := (if_pos c2).symm.trans hz
    exact AX.sub (ls' := []) [] rfl (wfX11_where_j34  σ hz hk)
  · replace hz := (if_neg c2).symm.trans hz
    refine AX.aload_n dX11_where_7 0 rfl rfl ?_
    refine AX.iload_n dX11_where_8 2 rfl rfl ?_
    obtain ⟨q3, hq3, hz⟩ := obind hz
    refine AX.callVw (r := 44) (As := [.int p1]) (rest := []) (w := some (.int q3.1)) (st' := [.int q3.1]) dX11_where_9 mlRX11_124 ylX11_isBar yvX11_isBar rfl rfl rfl (Nat.le_of_ble_eq_true rfl) ⟨Nat.le_of_ble_eq_true rfl, Nat.le_of_ble_eq_true rfl⟩ (xX11_isBar p1 σ hq3) rfl ?_
    refine AX.if_eq (tgt := 34) dX11_where_12 rfl (fun c4 => ?_) (fun c4 => ?_)
    · replace hz := (if_pos c4).symm.trans hz
      exact AX.sub (ls' := []) [] rfl (wfX11_where_j34  q3.2 hz hk)
    · replace hz := (if_neg c4).symm.trans hz
      refine AX.iload_n dX11_where_15 3 rfl rfl ?_
      refine AX.iconst dX11_where_16 ic_0 ?_
      refine AX.iconst dX11_where_17 ic_1 ?_
      obtain ⟨q5, hq5, hz⟩ := obind hz
      refine AX.callSw (As := [.int p2, .int 0, .int 1]) (rest := []) (w := some (.int q5)) (st' := [.int q5]) dX11_where_18 mlRX11_89 ylX11_in ysX11_in rfl rfl (Nat.le_of_ble_eq_true rfl) ⟨Nat.le_of_ble_eq_true rfl, Nat.le_of_ble_eq_true rfl⟩ (xX11_in p2 (0 : Int32) (1 : Int32) q3.2 hq5) rfl ?_
      refine AX.if_eq (tgt := 34) dX11_where_21 rfl (fun c6 => ?_) (fun c6 => ?_)
      · replace hz := (if_pos c6).symm.trans hz
        exact AX.sub (ls' := []) [] rfl (wfX11_where_j34  q3.2 hz hk)
      · replace hz := (if_neg c6).symm.trans hz
        refine AX.aload_n dX11_where_24 0 rfl rfl ?_
        refine AX.iload_n dX11_where_25 1 rfl rfl ?_
        refine AX.iload_n dX11_where_26 2 rfl rfl ?_
        refine AX.iload_n dX11_where_27 3 rfl rfl ?_
        obtain ⟨q7, hq7, hz⟩ := obind hz
        refine AX.callVw (r := 44) (As := [.int p0, .int p1, .int p2]) (rest := []) (w := some (.long q7.1)) (st' := [.long q7.1]) dX11_where_28 mlRX11_176 ylX11_whereOf yvX11_whereOf rfl rfl rfl (Nat.le_of_ble_eq_true rfl) ⟨Nat.le_of_ble_eq_true rfl, Nat.le_of_ble_eq_true rfl⟩ (xX11_whereOf p0 p1 p2 q3.2 hq7) rfl ?_
        refine AX.goto (tgt := 39) dX11_where_31 rfl ?_
        exact AX.lreturn dX11_where_39 rfl (kz (P := fun z => Q (some (.long z.1)) z.2) hz hk)
theorem xX11_where {G : ag_G} (p0 : Int32) (p1 : Int32) (p2 : Int32) (σ : St) {z : Int64 × St} (hz : fX11_where p0 p1 p2 σ = some z) : AC G yX11_where mX11_where 7 166 [.ref (G.2.2.1 44), .int p0, .int p1, .int p2] σ (fun v σ1 => v = some (.long z.1) ∧ σ1 = z.2) := AC.of (plainFor_of_name (by decide)) rfl (Nat.le_of_ble_eq_true rfl) (wfX11_where p0 p1 p2 σ hz ⟨rfl, rfl⟩)
noncomputable def fX11_likeliestOf_j50 (l3 : Int32) (t0 : Int32) (σ : St) : Option ((Int32 × Int32) ⊕ Int32) :=
  some (.inl (t0, l3 + 1))
theorem wfX11_likeliestOf_j50 {G : ag_G} (l3 : Int32) (t0 : Int32) (σ : St) {z : (Int32 × Int32) ⊕ Int32} (hz : fX11_likeliestOf_j50 l3 t0 σ = some z) {Q : Option Value → St → Prop} (K : ((Int32 × Int32) ⊕ Int32) → Prop) (hback : ∀ a : Int32 × Int32, K (.inl a) → AX G mX11_likeliestOf 6 143 21 [(0, .ref (G.2.2.1 44)), (2, .int a.1), (3, .int a.2)] [] σ Q) (hk : K z) : AX G mX11_likeliestOf 6 143 50 [(0, .ref (G.2.2.1 44)), (3, .int l3)] [.int t0] σ Q := by
  unfold fX11_likeliestOf_j50 at hz
  refine AX.istore_n (ls' := [(0, .ref (G.2.2.1 44)), (2, .int t0), (3, .int l3)]) dX11_likeliestOf_50 rfl (Nat.le_of_ble_eq_true rfl) rfl ?_
  refine AX.iinc (v := l3 + 1) (ls' := [(0, .ref (G.2.2.1 44)), (2, .int t0), (3, .int (l3 + 1))]) 2 dX11_likeliestOf_51 rfl (Nat.le_of_ble_eq_true rfl) (congrArg (l3 + ·) ic_1) rfl ?_
  refine AX.goto (tgt := 21) dX11_likeliestOf_54 rfl ?_
  exact AX.sub (ls' := [(0, .ref (G.2.2.1 44)), (2, .int t0), (3, .int (l3 + 1))]) [0, 1, 2] rfl (hback (t0, l3 + 1) (kz (P := K) hz hk))
noncomputable def fX11_likeliestOf_b21 (l2 : Int32) (l3 : Int32) (σ : St) : Option ((Int32 × Int32) ⊕ Int32) :=
  if (σ.1 44 2) ≤ l3 then some (.inr l2) else if inb l3 100 = true then if inb l2 100 = true then if (σ.2 59 l3.toNatClampNeg) ≤ (σ.2 59 l2.toNatClampNeg) then fX11_likeliestOf_j50 l3 l2 σ else fX11_likeliestOf_j50 l3 l3 σ else none else none
theorem wfX11_likeliestOf_b21 {G : ag_G} (l2 : Int32) (l3 : Int32) (σ : St) {z : (Int32 × Int32) ⊕ Int32} (hz : fX11_likeliestOf_b21 l2 l3 σ = some z) {Q : Option Value → St → Prop} (K : ((Int32 × Int32) ⊕ Int32) → Prop) (hback : ∀ a : Int32 × Int32, K (.inl a) → AX G mX11_likeliestOf 6 143 21 [(0, .ref (G.2.2.1 44)), (2, .int a.1), (3, .int a.2)] [] σ Q) (hexit0 : ∀ a : Int32, K (.inr a) → AX G mX11_likeliestOf 6 143 57 [(2, .int a)] [] σ Q) (hk : K z) : AX G mX11_likeliestOf 6 143 21 [(0, .ref (G.2.2.1 44)), (2, .int l2), (3, .int l3)] [] σ Q := by
  unfold fX11_likeliestOf_b21 at hz
  refine AX.iload_n dX11_likeliestOf_21 2 rfl rfl ?_
  refine AX.aload_n dX11_likeliestOf_22 0 rfl rfl ?_
  refine AX.getIE (v := σ.1 44 2) dX11_likeliestOf_23 flRX11_97 rfl rfl rfl ?_
  refine AX.icmp_ge (tgt := 57) dX11_likeliestOf_26 rfl (fun c1 => ?_) (fun c1 => ?_)
  · replace hz := (if_pos c1).symm.trans hz
    exact AX.sub (ls' := [(2, .int l2)]) [1] rfl (hexit0 l2 (kz (P := K) hz hk))
  · replace hz := (if_neg c1).symm.trans hz
    refine AX.aload_n dX11_likeliestOf_29 0 rfl rfl ?_
    refine AX.getR dX11_likeliestOf_30 flRX11_53 rfl rfl ?_
    refine AX.iload_n dX11_likeliestOf_33 2 rfl rfl ?_
    obtain ⟨b2, hz⟩ := ite_n hz
    refine AX.laldE (v := σ.2 59 l3.toNatClampNeg) dX11_likeliestOf_34 rfl b2 rfl ?_
    refine AX.aload_n dX11_likeliestOf_35 0 rfl rfl ?_
    refine AX.getR dX11_likeliestOf_36 flRX11_53 rfl rfl ?_
    refine AX.iload_n dX11_likeliestOf_39 1 rfl rfl ?_
    obtain ⟨b3, hz⟩ := ite_n hz
    refine AX.laldE (v := σ.2 59 l2.toNatClampNeg) dX11_likeliestOf_40 rfl b3 rfl ?_
    refine AX.lcmp_le (tgt := 49) dX11_likeliestOf_41 dX11_likeliestOf_42 rfl (fun c4 => ?_) (fun c4 => ?_)
    · replace hz := (if_pos c4).symm.trans hz
      refine AX.iload_n dX11_likeliestOf_49 1 rfl rfl ?_
      exact AX.sub (ls' := [(0, .ref (G.2.2.1 44)), (3, .int l3)]) [0, 2] rfl (wfX11_likeliestOf_j50 l3 l2 σ hz K hback hk)
    · replace hz := (if_neg c4).symm.trans hz
      refine AX.iload_n dX11_likeliestOf_45 2 rfl rfl ?_
      refine AX.goto (tgt := 50) dX11_likeliestOf_46 rfl ?_
      exact AX.sub (ls' := [(0, .ref (G.2.2.1 44)), (3, .int l3)]) [0, 2] rfl (wfX11_likeliestOf_j50 l3 l3 σ hz K hback hk)
noncomputable def fX11_likeliestOf (p0 : Int32) (σ : St) : Option (Int32 × St) :=
  (fX11_findsWhere p0 σ).bind fun q1 => if (q1.2 44 22) = (0 : Int64) then some ((-3 : Int32), q1) else (lpc (fun s => fX11_likeliestOf_b21  s.1 s.2 q1) (0, 1)).bind fun r3 => some (r3, q1)
theorem wfX11_likeliestOf {G : ag_G} (p0 : Int32) (σ : St) {z : Int32 × St} (hz : fX11_likeliestOf p0 σ = some z) {Q : Option Value → St → Prop} (hk : Q (some (.int z.1)) z.2) : AX G mX11_likeliestOf 6 143 0 [(0, .ref (G.2.2.1 44)), (1, .int p0)] [] σ Q := by
  unfold fX11_likeliestOf at hz
  refine AX.aload_n dX11_likeliestOf_0 0 rfl rfl ?_
  refine AX.iload_n dX11_likeliestOf_1 1 rfl rfl ?_
  obtain ⟨q1, hq1, hz⟩ := obind hz
  refine AX.callVw (r := 44) (As := [.int p0]) (rest := []) (w := none) (st' := []) dX11_likeliestOf_2 mlRX11_164 ylX11_findsWhere yvX11_findsWhere rfl rfl rfl (Nat.le_of_ble_eq_true rfl) ⟨Nat.le_of_ble_eq_true rfl, Nat.le_of_ble_eq_true rfl⟩ (xX11_findsWhere p0 σ hq1) rfl ?_
  refine AX.aload_n dX11_likeliestOf_5 0 rfl rfl ?_
  refine AX.getJE (v := q1.2 44 22) dX11_likeliestOf_6 flRX11_153 rfl rfl rfl ?_
  refine AX.lconst dX11_likeliestOf_9 lc_0 ?_
  refine AX.lcmp_ne (tgt := 17) dX11_likeliestOf_10 dX11_likeliestOf_11 rfl (fun c2 => ?_) (fun c2 => ?_)
  · replace hz := (if_neg c2).symm.trans hz
    refine AX.iconst dX11_likeliestOf_17 ic_0 ?_
    refine AX.istore_n (ls' := [(0, .ref (G.2.2.1 44)), (1, .int p0), (2, .int 0)]) dX11_likeliestOf_18 rfl (Nat.le_of_ble_eq_true rfl) rfl ?_
    refine AX.iconst dX11_likeliestOf_19 ic_1 ?_
    refine AX.istore_n (ls' := [(0, .ref (G.2.2.1 44)), (1, .int p0), (2, .int 0), (3, .int 1)]) dX11_likeliestOf_20 rfl (Nat.le_of_ble_eq_true rfl) rfl ?_
    obtain ⟨r3, hr3, hz⟩ := obind hz
    refine AX.sub (ls' := [(0, .ref (G.2.2.1 44)), (2, .int 0), (3, .int 1)]) [0, 2, 3] rfl ?_
    refine lpc_ind (s := (0, 1)) (r := r3) (fun s => AX G mX11_likeliestOf 6 143 21 [(0, .ref (G.2.2.1 44)), (2, .int s.1), (3, .int s.2)] [] q1 Q) (fun a : Int32 => AX G mX11_likeliestOf 6 143 57 [(2, .int a)] [] q1 Q) hr3 (fun s z hb hK => wfX11_likeliestOf_b21  s.1 s.2 q1 hb (Sum.elim (fun s => AX G mX11_likeliestOf 6 143 21 [(0, .ref (G.2.2.1 44)), (2, .int s.1), (3, .int s.2)] [] q1 Q) (fun a : Int32 => AX G mX11_likeliestOf 6 143 57 [(2, .int a)] [] q1 Q)) (fun _ h9 => h9) (fun _ h9 => h9) hK) ?_
    refine AX.iload_n dX11_likeliestOf_57 0 rfl rfl ?_
    exact AX.ireturn dX11_likeliestOf_58 rfl (vp_nar_int _) (kz (P := fun z => Q (some (.int z.1)) z.2) hz hk)
  · replace hz := (if_pos c2).symm.trans hz
    refine AX.bipush dX11_likeliestOf_14 bp_m3 ?_
    exact AX.ireturn dX11_likeliestOf_16 rfl (vp_nar_int _) (kz (P := fun z => Q (some (.int z.1)) z.2) hz hk)
theorem xX11_likeliestOf {G : ag_G} (p0 : Int32) (σ : St) {z : Int32 × St} (hz : fX11_likeliestOf p0 σ = some z) : AC G yX11_likeliestOf mX11_likeliestOf 6 143 [.ref (G.2.2.1 44), .int p0] σ (fun v σ1 => v = some (.int z.1) ∧ σ1 = z.2) := AC.of (plainFor_of_name (by decide)) rfl (Nat.le_of_ble_eq_true rfl) (wfX11_likeliestOf p0 σ hz ⟨rfl, rfl⟩)
noncomputable def fX11_likeliest (p0 : Int32) (σ : St) : Option (Int32 × St) :=
  (fX11_isNumber p0).bind fun q1 => if q1 = (0 : Int32) then some ((-2 : Int32), σ) else (fX11_likeliestOf p0 σ).bind fun q3 => some (q3.1, q3.2)
theorem wfX11_likeliest {G : ag_G} (p0 : Int32) (σ : St) {z : Int32 × St} (hz : fX11_likeliest p0 σ = some z) {Q : Option Value → St → Prop} (hk : Q (some (.int z.1)) z.2) : AX G mX11_likeliest 7 166 0 [(0, .ref (G.2.2.1 44)), (1, .int p0)] [] σ Q := by
  unfold fX11_likeliest at hz
  refine AX.iload_n dX11_likeliest_0 1 rfl rfl ?_
  obtain ⟨q1, hq1, hz⟩ := obind hz
  refine AX.callSw (As := [.int p0]) (rest := []) (w := some (.int q1)) (st' := [.int q1]) dX11_likeliest_1 mlRX11_138 ylX11_isNumber ysX11_isNumber rfl rfl (Nat.le_of_ble_eq_true rfl) ⟨Nat.le_of_ble_eq_true rfl, Nat.le_of_ble_eq_true rfl⟩ (xX11_isNumber p0 σ hq1) rfl ?_
  refine AX.if_eq (tgt := 15) dX11_likeliest_4 rfl (fun c2 => ?_) (fun c2 => ?_)
  · replace hz := (if_pos c2).symm.trans hz
    refine AX.bipush dX11_likeliest_15 bp_m2 ?_
    exact AX.ireturn dX11_likeliest_17 rfl (vp_nar_int _) (kz (P := fun z => Q (some (.int z.1)) z.2) hz hk)
  · replace hz := (if_neg c2).symm.trans hz
    refine AX.aload_n dX11_likeliest_7 0 rfl rfl ?_
    refine AX.iload_n dX11_likeliest_8 1 rfl rfl ?_
    obtain ⟨q3, hq3, hz⟩ := obind hz
    refine AX.callVw (r := 44) (As := [.int p0]) (rest := []) (w := some (.int q3.1)) (st' := [.int q3.1]) dX11_likeliest_9 mlRX11_180 ylX11_likeliestOf yvX11_likeliestOf rfl rfl rfl (Nat.le_of_ble_eq_true rfl) ⟨Nat.le_of_ble_eq_true rfl, Nat.le_of_ble_eq_true rfl⟩ (xX11_likeliestOf p0 σ hq3) rfl ?_
    refine AX.goto (tgt := 17) dX11_likeliest_12 rfl ?_
    exact AX.ireturn dX11_likeliest_17 rfl (vp_nar_int _) (kz (P := fun z => Q (some (.int z.1)) z.2) hz hk)
theorem xX11_likeliest {G : ag_G} (p0 : Int32) (σ : St) {z : Int32 × St} (hz : fX11_likeliest p0 σ = some z) : AC G yX11_likeliest mX11_likeliest 7 166 [.ref (G.2.2.1 44), .int p0] σ (fun v σ1 => v = some (.int z.1) ∧ σ1 = z.2) := AC.of (plainFor_of_name (by decide)) rfl (Nat.le_of_ble_eq_true rfl) (wfX11_likeliest p0 σ hz ⟨rfl, rfl⟩)
noncomputable def fX11_strikeOf (p0 : Int32) (p1 : Int32) (σ : St) : Option (Int64 × St) :=
  (fX11_findsWhere p0 σ).bind fun q1 => if (q1.2 44 22) = (0 : Int64) then (fX11_no (-3 : Int32)).bind fun q5 => some (q5, q1) else if inb ((q1.1 44 2) - (1 : Int32)) 100 = true then (fX11_lowest (((q1.1 52 4).toInt64) * ((q1.2 44 22) - (q1.2 59 (((q1.1 44 2) - (1 : Int32)).toNatClampNeg)))) (q1.2 44 22) p1).bind fun q4 => some (q4, q1) else none
theorem wfX11_strikeOf {G : ag_G} (p0 : Int32) (p1 : Int32) (σ : St) {z : Int64 × St} (hz : fX11_strikeOf p0 p1 σ = some z) {Q : Option Value → St → Prop} (hk : Q (some (.long z.1)) z.2) : AX G mX11_strikeOf 6 143 0 [(0, .ref (G.2.2.1 44)), (1, .int p0), (2, .int p1)] [] σ Q := by
  unfold fX11_strikeOf at hz
  refine AX.aload_n dX11_strikeOf_0 0 rfl rfl ?_
  refine AX.iload_n dX11_strikeOf_1 1 rfl rfl ?_
  obtain ⟨q1, hq1, hz⟩ := obind hz
  refine AX.callVw (r := 44) (As := [.int p0]) (rest := []) (w := none) (st' := []) dX11_strikeOf_2 mlRX11_164 ylX11_findsWhere yvX11_findsWhere rfl rfl rfl (Nat.le_of_ble_eq_true rfl) ⟨Nat.le_of_ble_eq_true rfl, Nat.le_of_ble_eq_true rfl⟩ (xX11_findsWhere p0 σ hq1) rfl ?_
  refine AX.aload_n dX11_strikeOf_5 0 rfl rfl ?_
  refine AX.getJE (v := q1.2 44 22) dX11_strikeOf_6 flRX11_153 rfl rfl rfl ?_
  refine AX.lconst dX11_strikeOf_9 lc_0 ?_
  refine AX.lcmp_ne (tgt := 22) dX11_strikeOf_10 dX11_strikeOf_11 rfl (fun c2 => ?_) (fun c2 => ?_)
  · replace hz := (if_neg c2).symm.trans hz
    refine AX.aload_n dX11_strikeOf_22 0 rfl rfl ?_
    refine AX.getR dX11_strikeOf_23 flRX11_31 rfl rfl ?_
    refine AX.iconst dX11_strikeOf_26 ic_4 ?_
    refine AX.ialdE (v := q1.1 52 4) dX11_strikeOf_27 rfl rfl rfl ?_
    refine AX.i2l dX11_strikeOf_28 ?_
    refine AX.aload_n dX11_strikeOf_29 0 rfl rfl ?_
    refine AX.getJE (v := q1.2 44 22) dX11_strikeOf_30 flRX11_153 rfl rfl rfl ?_
    refine AX.aload_n dX11_strikeOf_33 0 rfl rfl ?_
    refine AX.getR dX11_strikeOf_34 flRX11_53 rfl rfl ?_
    refine AX.aload_n dX11_strikeOf_37 0 rfl rfl ?_
    refine AX.getIE (v := q1.1 44 2) dX11_strikeOf_38 flRX11_97 rfl rfl rfl ?_
    refine AX.iconst dX11_strikeOf_41 ic_1 ?_
    refine AX.isub dX11_strikeOf_42 ?_
    obtain ⟨b3, hz⟩ := ite_n hz
    refine AX.laldE (v := q1.2 59 (((q1.1 44 2) - (1 : Int32)).toNatClampNeg)) dX11_strikeOf_43 rfl b3 rfl ?_
    refine AX.lsub dX11_strikeOf_44 ?_
    refine AX.lmul dX11_strikeOf_45 ?_
    refine AX.aload_n dX11_strikeOf_46 0 rfl rfl ?_
    refine AX.getJE (v := q1.2 44 22) dX11_strikeOf_47 flRX11_153 rfl rfl rfl ?_
    refine AX.iload_n dX11_strikeOf_50 2 rfl rfl ?_
    obtain ⟨q4, hq4, hz⟩ := obind hz
    refine AX.callSw (As := [.long (((q1.1 52 4).toInt64) * ((q1.2 44 22) - (q1.2 59 (((q1.1 44 2) - (1 : Int32)).toNatClampNeg)))), .long (q1.2 44 22), .int p1]) (rest := []) (w := some (.long q4)) (st' := [.long q4]) dX11_strikeOf_51 mlRX11_172 ylX11_lowest ysX11_lowest rfl rfl (Nat.le_of_ble_eq_true rfl) ⟨Nat.le_of_ble_eq_true rfl, Nat.le_of_ble_eq_true rfl⟩ (xX11_lowest (((q1.1 52 4).toInt64) * ((q1.2 44 22) - (q1.2 59 (((q1.1 44 2) - (1 : Int32)).toNatClampNeg)))) (q1.2 44 22) p1 q1 hq4) rfl ?_
    exact AX.lreturn dX11_strikeOf_54 rfl (kz (P := fun z => Q (some (.long z.1)) z.2) hz hk)
  · replace hz := (if_pos c2).symm.trans hz
    refine AX.bipush dX11_strikeOf_14 bp_m3 ?_
    obtain ⟨q5, hq5, hz⟩ := obind hz
    refine AX.callSw (As := [.int (-3)]) (rest := []) (w := some (.long q5)) (st' := [.long q5]) dX11_strikeOf_16 mlRX11_168 ylX11_no ysX11_no rfl rfl (Nat.le_of_ble_eq_true rfl) ⟨Nat.le_of_ble_eq_true rfl, Nat.le_of_ble_eq_true rfl⟩ (xX11_no (-3 : Int32) q1 hq5) rfl ?_
    refine AX.goto (tgt := 54) dX11_strikeOf_19 rfl ?_
    exact AX.lreturn dX11_strikeOf_54 rfl (kz (P := fun z => Q (some (.long z.1)) z.2) hz hk)
theorem xX11_strikeOf {G : ag_G} (p0 : Int32) (p1 : Int32) (σ : St) {z : Int64 × St} (hz : fX11_strikeOf p0 p1 σ = some z) : AC G yX11_strikeOf mX11_strikeOf 6 143 [.ref (G.2.2.1 44), .int p0, .int p1] σ (fun v σ1 => v = some (.long z.1) ∧ σ1 = z.2) := AC.of (plainFor_of_name (by decide)) rfl (Nat.le_of_ble_eq_true rfl) (wfX11_strikeOf p0 p1 σ hz ⟨rfl, rfl⟩)
noncomputable def fX11_strike_j25  (σ : St) : Option (Int64 × St) :=
  (fX11_no (-2 : Int32)).bind fun q1 => some (q1, σ)
theorem wfX11_strike_j25 {G : ag_G}  (σ : St) {z : Int64 × St} (hz : fX11_strike_j25  σ = some z) {Q : Option Value → St → Prop} (hk : Q (some (.long z.1)) z.2) : AX G mX11_strike 7 165 25 [] [] σ Q := by
  unfold fX11_strike_j25 at hz
  refine AX.bipush dX11_strike_25 bp_m2 ?_
  obtain ⟨q1, hq1, hz⟩ := obind hz
  refine AX.callSw (As := [.int (-2)]) (rest := []) (w := some (.long q1)) (st' := [.long q1]) dX11_strike_27 mlRX11_168 ylX11_no ysX11_no rfl rfl (Nat.le_of_ble_eq_true rfl) ⟨Nat.le_of_ble_eq_true rfl, Nat.le_of_ble_eq_true rfl⟩ (xX11_no (-2 : Int32) σ hq1) rfl ?_
  exact AX.lreturn dX11_strike_30 rfl (kz (P := fun z => Q (some (.long z.1)) z.2) hz hk)
noncomputable def fX11_strike (p0 : Int32) (p1 : Int32) (σ : St) : Option (Int64 × St) :=
  (fX11_isNumber p0).bind fun q1 => if q1 = (0 : Int32) then fX11_strike_j25  σ else (fX11_in p1 (0 : Int32) (1 : Int32)).bind fun q3 => if q3 = (0 : Int32) then fX11_strike_j25  σ else (fX11_strikeOf p0 p1 σ).bind fun q5 => some (q5.1, q5.2)
theorem wfX11_strike {G : ag_G} (p0 : Int32) (p1 : Int32) (σ : St) {z : Int64 × St} (hz : fX11_strike p0 p1 σ = some z) {Q : Option Value → St → Prop} (hk : Q (some (.long z.1)) z.2) : AX G mX11_strike 7 165 0 [(0, .ref (G.2.2.1 44)), (1, .int p0), (2, .int p1)] [] σ Q := by
  unfold fX11_strike at hz
  refine AX.iload_n dX11_strike_0 1 rfl rfl ?_
  obtain ⟨q1, hq1, hz⟩ := obind hz
  refine AX.callSw (As := [.int p0]) (rest := []) (w := some (.int q1)) (st' := [.int q1]) dX11_strike_1 mlRX11_138 ylX11_isNumber ysX11_isNumber rfl rfl (Nat.le_of_ble_eq_true rfl) ⟨Nat.le_of_ble_eq_true rfl, Nat.le_of_ble_eq_true rfl⟩ (xX11_isNumber p0 σ hq1) rfl ?_
  refine AX.if_eq (tgt := 25) dX11_strike_4 rfl (fun c2 => ?_) (fun c2 => ?_)
  · replace hz := (if_pos c2).symm.trans hz
    exact AX.sub (ls' := []) [] rfl (wfX11_strike_j25  σ hz hk)
  · replace hz := (if_neg c2).symm.trans hz
    refine AX.iload_n dX11_strike_7 2 rfl rfl ?_
    refine AX.iconst dX11_strike_8 ic_0 ?_
    refine AX.iconst dX11_strike_9 ic_1 ?_
    obtain ⟨q3, hq3, hz⟩ := obind hz
    refine AX.callSw (As := [.int p1, .int 0, .int 1]) (rest := []) (w := some (.int q3)) (st' := [.int q3]) dX11_strike_10 mlRX11_89 ylX11_in ysX11_in rfl rfl (Nat.le_of_ble_eq_true rfl) ⟨Nat.le_of_ble_eq_true rfl, Nat.le_of_ble_eq_true rfl⟩ (xX11_in p1 (0 : Int32) (1 : Int32) σ hq3) rfl ?_
    refine AX.if_eq (tgt := 25) dX11_strike_13 rfl (fun c4 => ?_) (fun c4 => ?_)
    · replace hz := (if_pos c4).symm.trans hz
      exact AX.sub (ls' := []) [] rfl (wfX11_strike_j25  σ hz hk)
    · replace hz := (if_neg c4).symm.trans hz
      refine AX.aload_n dX11_strike_16 0 rfl rfl ?_
      refine AX.iload_n dX11_strike_17 1 rfl rfl ?_
      refine AX.iload_n dX11_strike_18 2 rfl rfl ?_
      obtain ⟨q5, hq5, hz⟩ := obind hz
      refine AX.callVw (r := 44) (As := [.int p0, .int p1]) (rest := []) (w := some (.long q5.1)) (st' := [.long q5.1]) dX11_strike_19 mlRX11_183 ylX11_strikeOf yvX11_strikeOf rfl rfl rfl (Nat.le_of_ble_eq_true rfl) ⟨Nat.le_of_ble_eq_true rfl, Nat.le_of_ble_eq_true rfl⟩ (xX11_strikeOf p0 p1 σ hq5) rfl ?_
      refine AX.goto (tgt := 30) dX11_strike_22 rfl ?_
      exact AX.lreturn dX11_strike_30 rfl (kz (P := fun z => Q (some (.long z.1)) z.2) hz hk)
theorem xX11_strike {G : ag_G} (p0 : Int32) (p1 : Int32) (σ : St) {z : Int64 × St} (hz : fX11_strike p0 p1 σ = some z) : AC G yX11_strike mX11_strike 7 165 [.ref (G.2.2.1 44), .int p0, .int p1] σ (fun v σ1 => v = some (.long z.1) ∧ σ1 = z.2) := AC.of (plainFor_of_name (by decide)) rfl (Nat.le_of_ble_eq_true rfl) (wfX11_strike p0 p1 σ hz ⟨rfl, rfl⟩)
noncomputable def fX11_isLess_j172 (l8 : Int64) (l10 : Int64) (l12 : Int64) (l14 : Int64) (t0 : Int32) : Option ((Int64 × Int64 × Int64 × Int64 × Int32) ⊕ ((Int32 × Int64 × Int64) ⊕ (Int64 × Int64 × Int32))) :=
  some (.inl (l8, l10, l12, l14, t0))
theorem wfX11_isLess_j172 {G : ag_G} (l8 : Int64) (l10 : Int64) (l12 : Int64) (l14 : Int64) (t0 : Int32) {σ : St} {z : (Int64 × Int64 × Int64 × Int64 × Int32) ⊕ ((Int32 × Int64 × Int64) ⊕ (Int64 × Int64 × Int32))} (hz : fX11_isLess_j172 l8 l10 l12 l14 t0 = some z) {Q : Option Value → St → Prop} (K : ((Int64 × Int64 × Int64 × Int64 × Int32) ⊕ ((Int32 × Int64 × Int64) ⊕ (Int64 × Int64 × Int32))) → Prop) (hback : ∀ a : Int64 × Int64 × Int64 × Int64 × Int32, K (.inl a) → AX G mX11_isLess 0 0 17 [(8, .long a.1), (10, .long a.2.1), (12, .long a.2.2.1), (14, .long a.2.2.2.1), (16, .int a.2.2.2.2)] [] σ Q) (hk : K z) : AX G mX11_isLess 0 0 172 [(8, .long l8), (10, .long l10), (12, .long l12), (14, .long l14)] [.int t0] σ Q := by
  unfold fX11_isLess_j172 at hz
  refine AX.istore (ls' := [(8, .long l8), (10, .long l10), (12, .long l12), (14, .long l14), (16, .int t0)]) dX11_isLess_172 (Nat.le_of_ble_eq_true rfl) rfl ?_
  refine AX.goto (tgt := 17) dX11_isLess_174 rfl ?_
  exact AX.sub (ls' := [(8, .long l8), (10, .long l10), (12, .long l12), (14, .long l14), (16, .int t0)]) [0, 1, 2, 3, 4] rfl (hback (l8, l10, l12, l14, t0) (kz (P := K) hz hk))
noncomputable def fX11_isLess_b17 (l8 : Int64) (l10 : Int64) (l12 : Int64) (l14 : Int64) (l16 : Int32) : Option ((Int64 × Int64 × Int64 × Int64 × Int32) ⊕ ((Int32 × Int64 × Int64) ⊕ (Int64 × Int64 × Int32))) :=
  if l10 = 0 then none else ltb (l8 / l10) fun x2 => if l14 = 0 then none else ltb (l12 / l14) fun x4 => if x2 = x4 then if l10 = 0 then none else ltb (l8 - l8 / l10 * l10) fun x7 => if l14 = 0 then none else ltb (l12 - l12 / l14 * l14) fun x9 => if x7 = (0 : Int64) then some (.inr (.inr (x7, x9, l16))) else if x9 = (0 : Int64) then some (.inr (.inr (x7, x9, l16))) else if l16 = (0 : Int32) then fX11_isLess_j172 l10 x7 l14 x9 1 else fX11_isLess_j172 l10 x7 l14 x9 0 else some (.inr (.inl (l16, x2, x4)))
theorem wfX11_isLess_b17 {G : ag_G} (l8 : Int64) (l10 : Int64) (l12 : Int64) (l14 : Int64) (l16 : Int32) {σ : St} {z : (Int64 × Int64 × Int64 × Int64 × Int32) ⊕ ((Int32 × Int64 × Int64) ⊕ (Int64 × Int64 × Int32))} (hz : fX11_isLess_b17 l8 l10 l12 l14 l16 = some z) {Q : Option Value → St → Prop} (K : ((Int64 × Int64 × Int64 × Int64 × Int32) ⊕ ((Int32 × Int64 × Int64) ⊕ (Int64 × Int64 × Int32))) → Prop) (hback : ∀ a : Int64 × Int64 × Int64 × Int64 × Int32, K (.inl a) → AX G mX11_isLess 0 0 17 [(8, .long a.1), (10, .long a.2.1), (12, .long a.2.2.1), (14, .long a.2.2.2.1), (16, .int a.2.2.2.2)] [] σ Q) (hexit0 : ∀ a : Int32 × Int64 × Int64, K (.inr (.inl a)) → AX G mX11_isLess 0 0 39 [(16, .int a.1), (17, .long a.2.1), (19, .long a.2.2)] [] σ Q) (hexit1 : ∀ a : Int64 × Int64 × Int32, K (.inr (.inr a)) → AX G mX11_isLess 0 0 91 [(8, .long a.1), (12, .long a.2.1), (16, .int a.2.2)] [] σ Q) (hk : K z) : AX G mX11_isLess 0 0 17 [(8, .long l8), (10, .long l10), (12, .long l12), (14, .long l14), (16, .int l16)] [] σ Q := by
  unfold fX11_isLess_b17 at hz
  refine AX.lload dX11_isLess_17 0 rfl ?_
  refine AX.lload dX11_isLess_19 1 rfl ?_
  obtain ⟨c1, hz⟩ := ite_m hz
  refine AX.ldiv dX11_isLess_21 c1 ?_
  obtain ⟨x2, hx2, hz⟩ := ltb_e hz
  refine AX.topL hx2 ?_
  refine AX.lstore (ls' := [(8, .long l8), (10, .long l10), (12, .long l12), (14, .long l14), (16, .int l16), (17, .long x2)]) dX11_isLess_22 (Nat.le_of_ble_eq_true rfl) rfl ?_
  refine AX.lload dX11_isLess_24 2 rfl ?_
  refine AX.lload dX11_isLess_26 3 rfl ?_
  obtain ⟨c3, hz⟩ := ite_m hz
  refine AX.ldiv dX11_isLess_28 c3 ?_
  obtain ⟨x4, hx4, hz⟩ := ltb_e hz
  refine AX.topL hx4 ?_
  refine AX.lstore (ls' := [(8, .long l8), (10, .long l10), (12, .long l12), (14, .long l14), (16, .int l16), (17, .long x2), (19, .long x4)]) dX11_isLess_29 (Nat.le_of_ble_eq_true rfl) rfl ?_
  refine AX.lload dX11_isLess_31 5 rfl ?_
  refine AX.lload dX11_isLess_33 6 rfl ?_
  refine AX.lcmp_eq (tgt := 63) dX11_isLess_35 dX11_isLess_36 rfl (fun c5 => ?_) (fun c5 => ?_)
  · replace hz := (if_pos c5).symm.trans hz
    refine AX.lload dX11_isLess_63 0 rfl ?_
    refine AX.lload dX11_isLess_65 1 rfl ?_
    obtain ⟨c6, hz⟩ := ite_m hz
    refine AX.lrem dX11_isLess_67 c6 ?_
    obtain ⟨x7, hx7, hz⟩ := ltb_e hz
    refine AX.topL hx7 ?_
    refine AX.lstore (ls' := [(8, .long x7), (10, .long l10), (12, .long l12), (14, .long l14), (16, .int l16), (17, .long x2), (19, .long x4)]) dX11_isLess_68 (Nat.le_of_ble_eq_true rfl) rfl ?_
    refine AX.lload dX11_isLess_70 2 rfl ?_
    refine AX.lload dX11_isLess_72 3 rfl ?_
    obtain ⟨c8, hz⟩ := ite_m hz
    refine AX.lrem dX11_isLess_74 c8 ?_
    obtain ⟨x9, hx9, hz⟩ := ltb_e hz
    refine AX.topL hx9 ?_
    refine AX.lstore (ls' := [(8, .long x7), (10, .long l10), (12, .long x9), (14, .long l14), (16, .int l16), (17, .long x2), (19, .long x4)]) dX11_isLess_75 (Nat.le_of_ble_eq_true rfl) rfl ?_
    refine AX.lload dX11_isLess_77 0 rfl ?_
    refine AX.lconst dX11_isLess_79 lc_0 ?_
    refine AX.lcmp_eq (tgt := 91) dX11_isLess_80 dX11_isLess_81 rfl (fun c10 => ?_) (fun c10 => ?_)
    · replace hz := (if_pos c10).symm.trans hz
      exact AX.sub (ls' := [(8, .long x7), (12, .long x9), (16, .int l16)]) [0, 2, 4] rfl (hexit1 (x7, x9, l16) (kz (P := K) hz hk))
    · replace hz := (if_neg c10).symm.trans hz
      refine AX.lload dX11_isLess_84 2 rfl ?_
      refine AX.lconst dX11_isLess_86 lc_0 ?_
      refine AX.lcmp_ne (tgt := 138) dX11_isLess_87 dX11_isLess_88 rfl (fun c11 => ?_) (fun c11 => ?_)
      · replace hz := (if_neg c11).symm.trans hz
        refine AX.lload dX11_isLess_138 0 rfl ?_
        refine AX.lstore (ls' := [(8, .long x7), (10, .long l10), (12, .long x9), (14, .long l14), (16, .int l16), (17, .long x2), (19, .long x4), (21, .long x7)]) dX11_isLess_140 (Nat.le_of_ble_eq_true rfl) rfl ?_
        refine AX.lload dX11_isLess_142 1 rfl ?_
        refine AX.lstore (ls' := [(8, .long l10), (10, .long l10), (12, .long x9), (14, .long l14), (16, .int l16), (17, .long x2), (19, .long x4), (21, .long x7)]) dX11_isLess_144 (Nat.le_of_ble_eq_true rfl) rfl ?_
        refine AX.lload dX11_isLess_146 7 rfl ?_
        refine AX.lstore (ls' := [(8, .long l10), (10, .long x7), (12, .long x9), (14, .long l14), (16, .int l16), (17, .long x2), (19, .long x4), (21, .long x7)]) dX11_isLess_148 (Nat.le_of_ble_eq_true rfl) rfl ?_
        refine AX.lload dX11_isLess_150 2 rfl ?_
        refine AX.lstore (ls' := [(8, .long l10), (10, .long x7), (12, .long x9), (14, .long l14), (16, .int l16), (17, .long x2), (19, .long x4), (21, .long x9)]) dX11_isLess_152 (Nat.le_of_ble_eq_true rfl) rfl ?_
        refine AX.lload dX11_isLess_154 3 rfl ?_
        refine AX.lstore (ls' := [(8, .long l10), (10, .long x7), (12, .long l14), (14, .long l14), (16, .int l16), (17, .long x2), (19, .long x4), (21, .long x9)]) dX11_isLess_156 (Nat.le_of_ble_eq_true rfl) rfl ?_
        refine AX.lload dX11_isLess_158 7 rfl ?_
        refine AX.lstore (ls' := [(8, .long l10), (10, .long x7), (12, .long l14), (14, .long x9), (16, .int l16), (17, .long x2), (19, .long x4), (21, .long x9)]) dX11_isLess_160 (Nat.le_of_ble_eq_true rfl) rfl ?_
        refine AX.iload dX11_isLess_162 4 rfl ?_
        refine AX.if_ne (tgt := 171) dX11_isLess_164 rfl (fun c12 => ?_) (fun c12 => ?_)
        · replace hz := (if_neg c12).symm.trans hz
          refine AX.iconst dX11_isLess_171 ic_0 ?_
          exact AX.sub (ls' := [(8, .long l10), (10, .long x7), (12, .long l14), (14, .long x9)]) [0, 1, 2, 3] rfl (wfX11_isLess_j172 l10 x7 l14 x9 0 hz K hback hk)
        · replace hz := (if_pos c12).symm.trans hz
          refine AX.iconst dX11_isLess_167 ic_1 ?_
          refine AX.goto (tgt := 172) dX11_isLess_168 rfl ?_
          exact AX.sub (ls' := [(8, .long l10), (10, .long x7), (12, .long l14), (14, .long x9)]) [0, 1, 2, 3] rfl (wfX11_isLess_j172 l10 x7 l14 x9 1 hz K hback hk)
      · replace hz := (if_pos c11).symm.trans hz
        exact AX.sub (ls' := [(8, .long x7), (12, .long x9), (16, .int l16)]) [0, 2, 4] rfl (hexit1 (x7, x9, l16) (kz (P := K) hz hk))
  · replace hz := (if_neg c5).symm.trans hz
    exact AX.sub (ls' := [(16, .int l16), (17, .long x2), (19, .long x4)]) [4, 5, 6] rfl (hexit0 (l16, x2, x4) (kz (P := K) hz hk))
noncomputable def fX11_isLess_j52 (l16 : Int32) (t0 : Int32) : Option (Int32) :=
  if t0 = l16 then some (0 : Int32) else some (1 : Int32)
theorem wfX11_isLess_j52 {G : ag_G} (l16 : Int32) (t0 : Int32) {σ : St} {z : Int32} (hz : fX11_isLess_j52 l16 t0 = some z) {Q : Option Value → St → Prop} (hk : Q (some (.int z)) σ) : AX G mX11_isLess 0 0 52 [(16, .int l16)] [.int t0] σ Q := by
  unfold fX11_isLess_j52 at hz
  refine AX.iload dX11_isLess_52 0 rfl ?_
  refine AX.icmp_eq (tgt := 61) dX11_isLess_54 rfl (fun c1 => ?_) (fun c1 => ?_)
  · replace hz := (if_pos c1).symm.trans hz
    refine AX.iconst dX11_isLess_61 ic_0 ?_
    exact AX.ireturn dX11_isLess_62 rfl nb_0 (kz (P := fun z => Q (some (.int z)) σ) hz hk)
  · replace hz := (if_neg c1).symm.trans hz
    refine AX.iconst dX11_isLess_57 ic_1 ?_
    refine AX.goto (tgt := 62) dX11_isLess_58 rfl ?_
    exact AX.ireturn dX11_isLess_62 rfl nb_1 (kz (P := fun z => Q (some (.int z)) σ) hz hk)
noncomputable def fX11_isLess_j114  : Option (Int32) :=
  some (0 : Int32)
theorem wfX11_isLess_j114 {G : ag_G}  {σ : St} {z : Int32} (hz : fX11_isLess_j114  = some z) {Q : Option Value → St → Prop} (hk : Q (some (.int z)) σ) : AX G mX11_isLess 0 0 114 [] [] σ Q := by
  unfold fX11_isLess_j114 at hz
  refine AX.iconst dX11_isLess_114 ic_0 ?_
  refine AX.goto (tgt := 137) dX11_isLess_115 rfl ?_
  exact AX.ireturn dX11_isLess_137 rfl nb_0 (kz (P := fun z => Q (some (.int z)) σ) hz hk)
noncomputable def fX11_isLess (p0 : Int64) (p1 : Int64) (p2 : Int64) (p3 : Int64) : Option (Int32) :=
  (lpc (fun s => fX11_isLess_b17  s.1 s.2.1 s.2.2.1 s.2.2.2.1 s.2.2.2.2) (p0, p1, p2, p3, 0)).bind fun r1 => Sum.elim (fun r1_0 => if r1_0.2.2 ≤ r1_0.2.1 then fX11_isLess_j52 r1_0.1 0 else fX11_isLess_j52 r1_0.1 1) (fun r1_1 => if r1_1.2.2 = (0 : Int32) then if r1_1.1 = (0 : Int64) then if r1_1.2.1 ≤ (0 : Int64) then some (0 : Int32) else some (1 : Int32) else some (0 : Int32) else if r1_1.2.1 = (0 : Int64) then if r1_1.1 ≤ (0 : Int64) then fX11_isLess_j114  else some (1 : Int32) else fX11_isLess_j114 ) r1
theorem wfX11_isLess {G : ag_G} (p0 : Int64) (p1 : Int64) (p2 : Int64) (p3 : Int64) (σ : St) {z : Int32} (hz : fX11_isLess p0 p1 p2 p3 = some z) {Q : Option Value → St → Prop} (hk : Q (some (.int z)) σ) : AX G mX11_isLess 0 0 0 [(0, .long p0), (2, .long p1), (4, .long p2), (6, .long p3)] [] σ Q := by
  unfold fX11_isLess at hz
  refine AX.lload_n dX11_isLess_0 0 rfl rfl ?_
  refine AX.lstore (ls' := [(0, .long p0), (2, .long p1), (4, .long p2), (6, .long p3), (8, .long p0)]) dX11_isLess_1 (Nat.le_of_ble_eq_true rfl) rfl ?_
  refine AX.lload_n dX11_isLess_3 1 rfl rfl ?_
  refine AX.lstore (ls' := [(0, .long p0), (2, .long p1), (4, .long p2), (6, .long p3), (8, .long p0), (10, .long p1)]) dX11_isLess_4 (Nat.le_of_ble_eq_true rfl) rfl ?_
  refine AX.lload dX11_isLess_6 2 rfl ?_
  refine AX.lstore (ls' := [(0, .long p0), (2, .long p1), (4, .long p2), (6, .long p3), (8, .long p0), (10, .long p1), (12, .long p2)]) dX11_isLess_8 (Nat.le_of_ble_eq_true rfl) rfl ?_
  refine AX.lload dX11_isLess_10 3 rfl ?_
  refine AX.lstore (ls' := [(0, .long p0), (2, .long p1), (4, .long p2), (6, .long p3), (8, .long p0), (10, .long p1), (12, .long p2), (14, .long p3)]) dX11_isLess_12 (Nat.le_of_ble_eq_true rfl) rfl ?_
  refine AX.iconst dX11_isLess_14 ic_0 ?_
  refine AX.istore (ls' := [(0, .long p0), (2, .long p1), (4, .long p2), (6, .long p3), (8, .long p0), (10, .long p1), (12, .long p2), (14, .long p3), (16, .int 0)]) dX11_isLess_15 (Nat.le_of_ble_eq_true rfl) rfl ?_
  obtain ⟨r1, hr1, hz⟩ := obind hz
  refine AX.sub (ls' := [(8, .long p0), (10, .long p1), (12, .long p2), (14, .long p3), (16, .int 0)]) [4, 5, 6, 7, 8] rfl ?_
  refine lpc_ind (s := (p0, p1, p2, p3, 0)) (r := r1) (fun s => AX G mX11_isLess 0 0 17 [(8, .long s.1), (10, .long s.2.1), (12, .long s.2.2.1), (14, .long s.2.2.2.1), (16, .int s.2.2.2.2)] [] σ Q) (Sum.elim (fun a : Int32 × Int64 × Int64 => AX G mX11_isLess 0 0 39 [(16, .int a.1), (17, .long a.2.1), (19, .long a.2.2)] [] σ Q) (fun a : Int64 × Int64 × Int32 => AX G mX11_isLess 0 0 91 [(8, .long a.1), (12, .long a.2.1), (16, .int a.2.2)] [] σ Q)) hr1 (fun s z hb hK => wfX11_isLess_b17  s.1 s.2.1 s.2.2.1 s.2.2.2.1 s.2.2.2.2 hb (Sum.elim (fun s => AX G mX11_isLess 0 0 17 [(8, .long s.1), (10, .long s.2.1), (12, .long s.2.2.1), (14, .long s.2.2.2.1), (16, .int s.2.2.2.2)] [] σ Q) (Sum.elim (fun a : Int32 × Int64 × Int64 => AX G mX11_isLess 0 0 39 [(16, .int a.1), (17, .long a.2.1), (19, .long a.2.2)] [] σ Q) (fun a : Int64 × Int64 × Int32 => AX G mX11_isLess 0 0 91 [(8, .long a.1), (12, .long a.2.1), (16, .int a.2.2)] [] σ Q))) (fun _ h9 => h9) (fun _ h9 => h9) (fun _ h9 => h9) hK) ?_
  rcases r1 with r1_0 | r1_1
  · dsimp only [Sum.elim_inl, Sum.elim_inr] at hz ⊢
    refine AX.lload dX11_isLess_39 1 rfl ?_
    refine AX.lload dX11_isLess_41 2 rfl ?_
    refine AX.lcmp_ge (tgt := 51) dX11_isLess_43 dX11_isLess_44 rfl (fun c2 => ?_) (fun c2 => ?_)
    · replace hz := (if_pos c2).symm.trans hz
      refine AX.iconst dX11_isLess_51 ic_0 ?_
      exact AX.sub (ls' := [(16, .int r1_0.1)]) [0] rfl (wfX11_isLess_j52 r1_0.1 0 hz hk)
    · replace hz := (if_neg c2).symm.trans hz
      refine AX.iconst dX11_isLess_47 ic_1 ?_
      refine AX.goto (tgt := 52) dX11_isLess_48 rfl ?_
      exact AX.sub (ls' := [(16, .int r1_0.1)]) [0] rfl (wfX11_isLess_j52 r1_0.1 1 hz hk)
  · dsimp only [Sum.elim_inl, Sum.elim_inr] at hz ⊢
    refine AX.iload dX11_isLess_91 2 rfl ?_
    refine AX.if_eq (tgt := 118) dX11_isLess_93 rfl (fun c3 => ?_) (fun c3 => ?_)
    · replace hz := (if_pos c3).symm.trans hz
      refine AX.lload dX11_isLess_118 0 rfl ?_
      refine AX.lconst dX11_isLess_120 lc_0 ?_
      refine AX.lcmp_ne (tgt := 136) dX11_isLess_121 dX11_isLess_122 rfl (fun c4 => ?_) (fun c4 => ?_)
      · replace hz := (if_neg c4).symm.trans hz
        refine AX.iconst dX11_isLess_136 ic_0 ?_
        exact AX.ireturn dX11_isLess_137 rfl nb_0 (kz (P := fun z => Q (some (.int z)) σ) hz hk)
      · replace hz := (if_pos c4).symm.trans hz
        refine AX.lload dX11_isLess_125 1 rfl ?_
        refine AX.lconst dX11_isLess_127 lc_0 ?_
        refine AX.lcmp_le (tgt := 136) dX11_isLess_128 dX11_isLess_129 rfl (fun c5 => ?_) (fun c5 => ?_)
        · replace hz := (if_pos c5).symm.trans hz
          refine AX.iconst dX11_isLess_136 ic_0 ?_
          exact AX.ireturn dX11_isLess_137 rfl nb_0 (kz (P := fun z => Q (some (.int z)) σ) hz hk)
        · replace hz := (if_neg c5).symm.trans hz
          refine AX.iconst dX11_isLess_132 ic_1 ?_
          refine AX.goto (tgt := 137) dX11_isLess_133 rfl ?_
          exact AX.ireturn dX11_isLess_137 rfl nb_1 (kz (P := fun z => Q (some (.int z)) σ) hz hk)
    · replace hz := (if_neg c3).symm.trans hz
      refine AX.lload dX11_isLess_96 1 rfl ?_
      refine AX.lconst dX11_isLess_98 lc_0 ?_
      refine AX.lcmp_ne (tgt := 114) dX11_isLess_99 dX11_isLess_100 rfl (fun c6 => ?_) (fun c6 => ?_)
      · replace hz := (if_neg c6).symm.trans hz
        exact AX.sub (ls' := []) [] rfl (wfX11_isLess_j114  hz hk)
      · replace hz := (if_pos c6).symm.trans hz
        refine AX.lload dX11_isLess_103 0 rfl ?_
        refine AX.lconst dX11_isLess_105 lc_0 ?_
        refine AX.lcmp_le (tgt := 114) dX11_isLess_106 dX11_isLess_107 rfl (fun c7 => ?_) (fun c7 => ?_)
        · replace hz := (if_pos c7).symm.trans hz
          exact AX.sub (ls' := []) [] rfl (wfX11_isLess_j114  hz hk)
        · replace hz := (if_neg c7).symm.trans hz
          refine AX.iconst dX11_isLess_110 ic_1 ?_
          refine AX.goto (tgt := 137) dX11_isLess_111 rfl ?_
          exact AX.ireturn dX11_isLess_137 rfl nb_1 (kz (P := fun z => Q (some (.int z)) σ) hz hk)
theorem xX11_isLess {G : ag_G} (p0 : Int64) (p1 : Int64) (p2 : Int64) (p3 : Int64) (σ : St) {z : Int32} (hz : fX11_isLess p0 p1 p2 p3 = some z) : AC G yX11_isLess mX11_isLess 0 0 [.long p0, .long p1, .long p2, .long p3] σ (fun v σ1 => v = some (.int z) ∧ σ1 = σ) := AC.of (plainFor_of_name (by decide)) rfl (Nat.le_of_ble_eq_true rfl) (wfX11_isLess p0 p1 p2 p3 σ hz ⟨rfl, rfl⟩)
noncomputable def fX11_lineNow_j90 (l1 : Int32) (l2 : Int64) (l4 : Int64) (l6 : Int32) (σ : St) : Option ((Int32 × Int64 × Int64 × Int32 × St) ⊕ (Int32 × Int64 × Int64 × St)) :=
  some (.inl (l1, l2, l4, l6 + 1, σ))
theorem wfX11_lineNow_j90 {G : ag_G} (l1 : Int32) (l2 : Int64) (l4 : Int64) (l6 : Int32) (σ : St) {z : (Int32 × Int64 × Int64 × Int32 × St) ⊕ (Int32 × Int64 × Int64 × St)} (hz : fX11_lineNow_j90 l1 l2 l4 l6 σ = some z) {Q : Option Value → St → Prop} (K : ((Int32 × Int64 × Int64 × Int32 × St) ⊕ (Int32 × Int64 × Int64 × St)) → Prop) (hback : ∀ a : Int32 × Int64 × Int64 × Int32 × St, K (.inl a) → AX G mX11_lineNow 6 143 10 [(0, .ref (G.2.2.1 44)), (1, .int a.1), (2, .long a.2.1), (4, .long a.2.2.1), (6, .int a.2.2.2.1)] [] a.2.2.2.2 Q) (hk : K z) : AX G mX11_lineNow 6 143 90 [(0, .ref (G.2.2.1 44)), (1, .int l1), (2, .long l2), (4, .long l4), (6, .int l6)] [] σ Q := by
  unfold fX11_lineNow_j90 at hz
  refine AX.iinc (v := l6 + 1) (ls' := [(0, .ref (G.2.2.1 44)), (1, .int l1), (2, .long l2), (4, .long l4), (6, .int (l6 + 1))]) 4 dX11_lineNow_90 rfl (Nat.le_of_ble_eq_true rfl) (congrArg (l6 + ·) ic_1) rfl ?_
  refine AX.goto (tgt := 10) dX11_lineNow_93 rfl ?_
  exact AX.sub (ls' := [(0, .ref (G.2.2.1 44)), (1, .int l1), (2, .long l2), (4, .long l4), (6, .int (l6 + 1))]) [0, 1, 2, 3, 4] rfl (hback (l1, l2, l4, l6 + 1, σ) (kz (P := K) hz hk))
noncomputable def fX11_lineNow_j78 (l6 : Int32) (l7 : Int64) (σ : St) : Option ((Int32 × Int64 × Int64 × Int32 × St) ⊕ (Int32 × Int64 × Int64 × St)) :=
  ltb (σ.2 44 22) fun x1 => fX11_lineNow_j90 l6 l7 x1 l6 σ
theorem wfX11_lineNow_j78 {G : ag_G} (l6 : Int32) (l7 : Int64) (σ : St) {z : (Int32 × Int64 × Int64 × Int32 × St) ⊕ (Int32 × Int64 × Int64 × St)} (hz : fX11_lineNow_j78 l6 l7 σ = some z) {Q : Option Value → St → Prop} (K : ((Int32 × Int64 × Int64 × Int32 × St) ⊕ (Int32 × Int64 × Int64 × St)) → Prop) (hback : ∀ a : Int32 × Int64 × Int64 × Int32 × St, K (.inl a) → AX G mX11_lineNow 6 143 10 [(0, .ref (G.2.2.1 44)), (1, .int a.1), (2, .long a.2.1), (4, .long a.2.2.1), (6, .int a.2.2.2.1)] [] a.2.2.2.2 Q) (hk : K z) : AX G mX11_lineNow 6 143 78 [(0, .ref (G.2.2.1 44)), (6, .int l6), (7, .long l7)] [] σ Q := by
  unfold fX11_lineNow_j78 at hz
  refine AX.iload dX11_lineNow_78 1 rfl ?_
  refine AX.istore_n (ls' := [(0, .ref (G.2.2.1 44)), (1, .int l6), (6, .int l6), (7, .long l7)]) dX11_lineNow_80 rfl (Nat.le_of_ble_eq_true rfl) rfl ?_
  refine AX.lload dX11_lineNow_81 3 rfl ?_
  refine AX.lstore_n (ls' := [(0, .ref (G.2.2.1 44)), (1, .int l6), (2, .long l7), (6, .int l6), (7, .long l7)]) dX11_lineNow_83 rfl (Nat.le_of_ble_eq_true rfl) rfl ?_
  refine AX.aload_n dX11_lineNow_84 0 rfl rfl ?_
  refine AX.getJE (v := σ.2 44 22) dX11_lineNow_85 flRX11_153 rfl rfl rfl ?_
  obtain ⟨x1, hx1, hz⟩ := ltb_e hz
  refine AX.topL hx1 ?_
  refine AX.lstore (ls' := [(0, .ref (G.2.2.1 44)), (1, .int l6), (2, .long l7), (4, .long x1), (6, .int l6), (7, .long l7)]) dX11_lineNow_88 (Nat.le_of_ble_eq_true rfl) rfl ?_
  exact AX.sub (ls' := [(0, .ref (G.2.2.1 44)), (1, .int l6), (2, .long l7), (4, .long x1), (6, .int l6)]) [0, 1, 2, 3, 4] rfl (wfX11_lineNow_j90 l6 l7 x1 l6 σ hz K hback hk)
noncomputable def fX11_lineNow_b10 (l1 : Int32) (l2 : Int64) (l4 : Int64) (l6 : Int32) (σ : St) : Option ((Int32 × Int64 × Int64 × Int32 × St) ⊕ (Int32 × Int64 × Int64 × St)) :=
  if (110 : Int32) < l6 then some (.inr (l1, l2, l4, σ)) else (fX11_findsWhere l6 σ).bind fun q2 => if (q2.2 44 22) ≤ (0 : Int64) then fX11_lineNow_j90 l1 l2 l4 l6 q2 else if inb ((q2.1 44 2) - (1 : Int32)) 100 = true then ltb (((q2.1 52 4).toInt64) * ((q2.2 44 22) - (q2.2 59 (((q2.1 44 2) - (1 : Int32)).toNatClampNeg)))) fun x5 => if l1 = (-1 : Int32) then fX11_lineNow_j78 l6 x5 q2 else (fX11_isLess x5 (q2.2 44 22) l2 l4).bind fun q7 => if q7 = (0 : Int32) then fX11_lineNow_j90 l1 l2 l4 l6 q2 else fX11_lineNow_j78 l6 x5 q2 else none
theorem wfX11_lineNow_b10 {G : ag_G} (l1 : Int32) (l2 : Int64) (l4 : Int64) (l6 : Int32) (σ : St) {z : (Int32 × Int64 × Int64 × Int32 × St) ⊕ (Int32 × Int64 × Int64 × St)} (hz : fX11_lineNow_b10 l1 l2 l4 l6 σ = some z) {Q : Option Value → St → Prop} (K : ((Int32 × Int64 × Int64 × Int32 × St) ⊕ (Int32 × Int64 × Int64 × St)) → Prop) (hback : ∀ a : Int32 × Int64 × Int64 × Int32 × St, K (.inl a) → AX G mX11_lineNow 6 143 10 [(0, .ref (G.2.2.1 44)), (1, .int a.1), (2, .long a.2.1), (4, .long a.2.2.1), (6, .int a.2.2.2.1)] [] a.2.2.2.2 Q) (hexit0 : ∀ a : Int32 × Int64 × Int64 × St, K (.inr a) → AX G mX11_lineNow 6 143 96 [(0, .ref (G.2.2.1 44)), (1, .int a.1), (2, .long a.2.1), (4, .long a.2.2.1)] [] a.2.2.2 Q) (hk : K z) : AX G mX11_lineNow 6 143 10 [(0, .ref (G.2.2.1 44)), (1, .int l1), (2, .long l2), (4, .long l4), (6, .int l6)] [] σ Q := by
  unfold fX11_lineNow_b10 at hz
  refine AX.iload dX11_lineNow_10 4 rfl ?_
  refine AX.bipush dX11_lineNow_12 bp_110 ?_
  refine AX.icmp_gt (tgt := 96) dX11_lineNow_14 rfl (fun c1 => ?_) (fun c1 => ?_)
  · replace hz := (if_pos c1).symm.trans hz
    exact AX.sub (ls' := [(0, .ref (G.2.2.1 44)), (1, .int l1), (2, .long l2), (4, .long l4)]) [0, 1, 2, 3] rfl (hexit0 (l1, l2, l4, σ) (kz (P := K) hz hk))
  · replace hz := (if_neg c1).symm.trans hz
    refine AX.aload_n dX11_lineNow_17 0 rfl rfl ?_
    refine AX.iload dX11_lineNow_18 4 rfl ?_
    obtain ⟨q2, hq2, hz⟩ := obind hz
    refine AX.callVw (r := 44) (As := [.int l6]) (rest := []) (w := none) (st' := []) dX11_lineNow_20 mlRX11_164 ylX11_findsWhere yvX11_findsWhere rfl rfl rfl (Nat.le_of_ble_eq_true rfl) ⟨Nat.le_of_ble_eq_true rfl, Nat.le_of_ble_eq_true rfl⟩ (xX11_findsWhere l6 σ hq2) rfl ?_
    refine AX.aload_n dX11_lineNow_23 0 rfl rfl ?_
    refine AX.getJE (v := q2.2 44 22) dX11_lineNow_24 flRX11_153 rfl rfl rfl ?_
    refine AX.lconst dX11_lineNow_27 lc_0 ?_
    refine AX.lcmp_le (tgt := 90) dX11_lineNow_28 dX11_lineNow_29 rfl (fun c3 => ?_) (fun c3 => ?_)
    · replace hz := (if_pos c3).symm.trans hz
      exact AX.sub (ls' := [(0, .ref (G.2.2.1 44)), (1, .int l1), (2, .long l2), (4, .long l4), (6, .int l6)]) [0, 1, 2, 3, 4] rfl (wfX11_lineNow_j90 l1 l2 l4 l6 q2 hz K hback hk)
    · replace hz := (if_neg c3).symm.trans hz
      refine AX.aload_n dX11_lineNow_32 0 rfl rfl ?_
      refine AX.getR dX11_lineNow_33 flRX11_31 rfl rfl ?_
      refine AX.iconst dX11_lineNow_36 ic_4 ?_
      refine AX.ialdE (v := q2.1 52 4) dX11_lineNow_37 rfl rfl rfl ?_
      refine AX.i2l dX11_lineNow_38 ?_
      refine AX.aload_n dX11_lineNow_39 0 rfl rfl ?_
      refine AX.getJE (v := q2.2 44 22) dX11_lineNow_40 flRX11_153 rfl rfl rfl ?_
      refine AX.aload_n dX11_lineNow_43 0 rfl rfl ?_
      refine AX.getR dX11_lineNow_44 flRX11_53 rfl rfl ?_
      refine AX.aload_n dX11_lineNow_47 0 rfl rfl ?_
      refine AX.getIE (v := q2.1 44 2) dX11_lineNow_48 flRX11_97 rfl rfl rfl ?_
      refine AX.iconst dX11_lineNow_51 ic_1 ?_
      refine AX.isub dX11_lineNow_52 ?_
      obtain ⟨b4, hz⟩ := ite_n hz
      refine AX.laldE (v := q2.2 59 (((q2.1 44 2) - (1 : Int32)).toNatClampNeg)) dX11_lineNow_53 rfl b4 rfl ?_
      refine AX.lsub dX11_lineNow_54 ?_
      refine AX.lmul dX11_lineNow_55 ?_
      obtain ⟨x5, hx5, hz⟩ := ltb_e hz
      refine AX.topL hx5 ?_
      refine AX.lstore (ls' := [(0, .ref (G.2.2.1 44)), (1, .int l1), (2, .long l2), (4, .long l4), (6, .int l6), (7, .long x5)]) dX11_lineNow_56 (Nat.le_of_ble_eq_true rfl) rfl ?_
      refine AX.iload_n dX11_lineNow_58 1 rfl rfl ?_
      refine AX.iconst dX11_lineNow_59 ic_m1 ?_
      refine AX.icmp_eq (tgt := 78) dX11_lineNow_60 rfl (fun c6 => ?_) (fun c6 => ?_)
      · replace hz := (if_pos c6).symm.trans hz
        exact AX.sub (ls' := [(0, .ref (G.2.2.1 44)), (6, .int l6), (7, .long x5)]) [0, 4, 5] rfl (wfX11_lineNow_j78 l6 x5 q2 hz K hback hk)
      · replace hz := (if_neg c6).symm.trans hz
        refine AX.lload dX11_lineNow_63 5 rfl ?_
        refine AX.aload_n dX11_lineNow_65 0 rfl rfl ?_
        refine AX.getJE (v := q2.2 44 22) dX11_lineNow_66 flRX11_153 rfl rfl rfl ?_
        refine AX.lload_n dX11_lineNow_69 2 rfl rfl ?_
        refine AX.lload dX11_lineNow_70 3 rfl ?_
        obtain ⟨q7, hq7, hz⟩ := obind hz
        refine AX.callSw (As := [.long x5, .long (q2.2 44 22), .long l2, .long l4]) (rest := []) (w := some (.int q7)) (st' := [.int q7]) dX11_lineNow_72 mlRX11_186 ylX11_isLess ysX11_isLess rfl rfl (Nat.le_of_ble_eq_true rfl) ⟨Nat.le_of_ble_eq_true rfl, Nat.le_of_ble_eq_true rfl⟩ (xX11_isLess x5 (q2.2 44 22) l2 l4 q2 hq7) rfl ?_
        refine AX.if_eq (tgt := 90) dX11_lineNow_75 rfl (fun c8 => ?_) (fun c8 => ?_)
        · replace hz := (if_pos c8).symm.trans hz
          exact AX.sub (ls' := [(0, .ref (G.2.2.1 44)), (1, .int l1), (2, .long l2), (4, .long l4), (6, .int l6)]) [0, 1, 2, 3, 4] rfl (wfX11_lineNow_j90 l1 l2 l4 l6 q2 hz K hback hk)
        · replace hz := (if_neg c8).symm.trans hz
          exact AX.sub (ls' := [(0, .ref (G.2.2.1 44)), (6, .int l6), (7, .long x5)]) [0, 4, 5] rfl (wfX11_lineNow_j78 l6 x5 q2 hz K hback hk)
noncomputable def fX11_lineNow  (σ : St) : Option (Int32 × St) :=
  (lpc (fun s => fX11_lineNow_b10  s.1 s.2.1 s.2.2.1 s.2.2.2.1 s.2.2.2.2) (-1, 0, 1, 1, σ)).bind fun r1 => if r1.1 = (-1 : Int32) then some ((-1 : Int32), r1.2.2.2) else if (((r1.2.2.2.1 52 5).toInt64) * r1.2.2.1) ≤ r1.2.1 then some ((-1 : Int32), r1.2.2.2) else some (r1.1, r1.2.2.2)
theorem wfX11_lineNow {G : ag_G}  (σ : St) {z : Int32 × St} (hz : fX11_lineNow  σ = some z) {Q : Option Value → St → Prop} (hk : Q (some (.int z.1)) z.2) : AX G mX11_lineNow 6 143 0 [(0, .ref (G.2.2.1 44))] [] σ Q := by
  unfold fX11_lineNow at hz
  refine AX.iconst dX11_lineNow_0 ic_m1 ?_
  refine AX.istore_n (ls' := [(0, .ref (G.2.2.1 44)), (1, .int (-1))]) dX11_lineNow_1 rfl (Nat.le_of_ble_eq_true rfl) rfl ?_
  refine AX.lconst dX11_lineNow_2 lc_0 ?_
  refine AX.lstore_n (ls' := [(0, .ref (G.2.2.1 44)), (1, .int (-1)), (2, .long 0)]) dX11_lineNow_3 rfl (Nat.le_of_ble_eq_true rfl) rfl ?_
  refine AX.lconst dX11_lineNow_4 lc_1 ?_
  refine AX.lstore (ls' := [(0, .ref (G.2.2.1 44)), (1, .int (-1)), (2, .long 0), (4, .long 1)]) dX11_lineNow_5 (Nat.le_of_ble_eq_true rfl) rfl ?_
  refine AX.iconst dX11_lineNow_7 ic_1 ?_
  refine AX.istore (ls' := [(0, .ref (G.2.2.1 44)), (1, .int (-1)), (2, .long 0), (4, .long 1), (6, .int 1)]) dX11_lineNow_8 (Nat.le_of_ble_eq_true rfl) rfl ?_
  obtain ⟨r1, hr1, hz⟩ := obind hz
  refine AX.sub (ls' := [(0, .ref (G.2.2.1 44)), (1, .int (-1)), (2, .long 0), (4, .long 1), (6, .int 1)]) [0, 1, 2, 3, 4] rfl ?_
  refine lpc_ind (s := (-1, 0, 1, 1, σ)) (r := r1) (fun s => AX G mX11_lineNow 6 143 10 [(0, .ref (G.2.2.1 44)), (1, .int s.1), (2, .long s.2.1), (4, .long s.2.2.1), (6, .int s.2.2.2.1)] [] s.2.2.2.2 Q) (fun a : Int32 × Int64 × Int64 × St => AX G mX11_lineNow 6 143 96 [(0, .ref (G.2.2.1 44)), (1, .int a.1), (2, .long a.2.1), (4, .long a.2.2.1)] [] a.2.2.2 Q) hr1 (fun s z hb hK => wfX11_lineNow_b10  s.1 s.2.1 s.2.2.1 s.2.2.2.1 s.2.2.2.2 hb (Sum.elim (fun s => AX G mX11_lineNow 6 143 10 [(0, .ref (G.2.2.1 44)), (1, .int s.1), (2, .long s.2.1), (4, .long s.2.2.1), (6, .int s.2.2.2.1)] [] s.2.2.2.2 Q) (fun a : Int32 × Int64 × Int64 × St => AX G mX11_lineNow 6 143 96 [(0, .ref (G.2.2.1 44)), (1, .int a.1), (2, .long a.2.1), (4, .long a.2.2.1)] [] a.2.2.2 Q)) (fun _ h9 => h9) (fun _ h9 => h9) hK) ?_
  refine AX.iload_n dX11_lineNow_96 1 rfl rfl ?_
  refine AX.iconst dX11_lineNow_97 ic_m1 ?_
  refine AX.icmp_eq (tgt := 120) dX11_lineNow_98 rfl (fun c2 => ?_) (fun c2 => ?_)
  · replace hz := (if_pos c2).symm.trans hz
    refine AX.iconst dX11_lineNow_120 ic_m1 ?_
    exact AX.ireturn dX11_lineNow_121 rfl (vp_nar_int _) (kz (P := fun z => Q (some (.int z.1)) z.2) hz hk)
  · replace hz := (if_neg c2).symm.trans hz
    refine AX.lload_n dX11_lineNow_101 2 rfl rfl ?_
    refine AX.aload_n dX11_lineNow_102 0 rfl rfl ?_
    refine AX.getR dX11_lineNow_103 flRX11_31 rfl rfl ?_
    refine AX.iconst dX11_lineNow_106 ic_5 ?_
    refine AX.ialdE (v := r1.2.2.2.1 52 5) dX11_lineNow_107 rfl rfl rfl ?_
    refine AX.i2l dX11_lineNow_108 ?_
    refine AX.lload dX11_lineNow_109 3 rfl ?_
    refine AX.lmul dX11_lineNow_111 ?_
    refine AX.lcmp_ge (tgt := 120) dX11_lineNow_112 dX11_lineNow_113 rfl (fun c3 => ?_) (fun c3 => ?_)
    · replace hz := (if_pos c3).symm.trans hz
      refine AX.iconst dX11_lineNow_120 ic_m1 ?_
      exact AX.ireturn dX11_lineNow_121 rfl (vp_nar_int _) (kz (P := fun z => Q (some (.int z.1)) z.2) hz hk)
    · replace hz := (if_neg c3).symm.trans hz
      refine AX.iload_n dX11_lineNow_116 1 rfl rfl ?_
      refine AX.goto (tgt := 121) dX11_lineNow_117 rfl ?_
      exact AX.ireturn dX11_lineNow_121 rfl (vp_nar_int _) (kz (P := fun z => Q (some (.int z.1)) z.2) hz hk)
theorem xX11_lineNow {G : ag_G}  (σ : St) {z : Int32 × St} (hz : fX11_lineNow  σ = some z) : AC G yX11_lineNow mX11_lineNow 6 143 [.ref (G.2.2.1 44)] σ (fun v σ1 => v = some (.int z.1) ∧ σ1 = z.2) := AC.of (plainFor_of_name (by decide)) rfl (Nat.le_of_ble_eq_true rfl) (wfX11_lineNow  σ hz ⟨rfl, rfl⟩)
noncomputable def fX11_line  (σ : St) : Option (Int32 × St) :=
  (fX11_lineNow  σ).bind fun q1 => some (q1.1, q1.2)
theorem wfX11_line {G : ag_G}  (σ : St) {z : Int32 × St} (hz : fX11_line  σ = some z) {Q : Option Value → St → Prop} (hk : Q (some (.int z.1)) z.2) : AX G mX11_line 7 171 0 [(0, .ref (G.2.2.1 44))] [] σ Q := by
  unfold fX11_line at hz
  refine AX.aload_n dX11_line_0 0 rfl rfl ?_
  obtain ⟨q1, hq1, hz⟩ := obind hz
  refine AX.callVw (r := 44) (As := []) (rest := []) (w := some (.int q1.1)) (st' := [.int q1.1]) dX11_line_1 mlRX11_190 ylX11_lineNow yvX11_lineNow rfl rfl rfl (Nat.le_of_ble_eq_true rfl) ⟨Nat.le_of_ble_eq_true rfl, Nat.le_of_ble_eq_true rfl⟩ (xX11_lineNow  σ hq1) rfl ?_
  exact AX.ireturn dX11_line_4 rfl (vp_nar_int _) (kz (P := fun z => Q (some (.int z.1)) z.2) hz hk)
theorem xX11_line {G : ag_G}  (σ : St) {z : Int32 × St} (hz : fX11_line  σ = some z) : AC G yX11_line mX11_line 7 171 [.ref (G.2.2.1 44)] σ (fun v σ1 => v = some (.int z.1) ∧ σ1 = z.2) := AC.of (plainFor_of_name (by decide)) rfl (Nat.le_of_ble_eq_true rfl) (wfX11_line  σ hz ⟨rfl, rfl⟩)
noncomputable def fX11_missedIn_j40 (l1 : Int32) (l2 : Int32) (t0 : Int32) (σ : St) : Option (Int32) :=
  ltb (t0 + ((l2 * (σ.1 52 8)) / (8 : Int32))) fun x1 => if inb l1 3 = true then if x1 ≤ ((16 : Int32) - (σ.1 51 l1.toNatClampNeg)) then some x1 else some ((16 : Int32) - (σ.1 51 l1.toNatClampNeg)) else none
theorem wfX11_missedIn_j40 {G : ag_G} (l1 : Int32) (l2 : Int32) (t0 : Int32) (σ : St) {z : Int32} (hz : fX11_missedIn_j40 l1 l2 t0 σ = some z) {Q : Option Value → St → Prop} (hk : Q (some (.int z)) σ) : AX G mX11_missedIn 0 0 40 [(0, .ref (G.2.2.1 44)), (1, .int l1), (2, .int l2)] [.int t0] σ Q := by
  unfold fX11_missedIn_j40 at hz
  refine AX.iload_n dX11_missedIn_40 2 rfl rfl ?_
  refine AX.aload_n dX11_missedIn_41 0 rfl rfl ?_
  refine AX.getR dX11_missedIn_42 flRX11_31 rfl rfl ?_
  refine AX.bipush dX11_missedIn_45 bp_8 ?_
  refine AX.ialdE (v := σ.1 52 8) dX11_missedIn_47 rfl rfl rfl ?_
  refine AX.imul dX11_missedIn_48 ?_
  refine AX.bipush dX11_missedIn_49 bp_8 ?_
  refine AX.idiv dX11_missedIn_51 (by decide) ?_
  refine AX.iadd dX11_missedIn_52 ?_
  obtain ⟨x1, hx1, hz⟩ := ltb_e hz
  refine AX.topI hx1 ?_
  refine AX.istore (ls' := [(0, .ref (G.2.2.1 44)), (1, .int l1), (2, .int l2), (4, .int x1)]) dX11_missedIn_53 (Nat.le_of_ble_eq_true rfl) rfl ?_
  refine AX.iload dX11_missedIn_55 3 rfl ?_
  refine AX.bipush dX11_missedIn_57 bp_16 ?_
  refine AX.aload_n dX11_missedIn_59 0 rfl rfl ?_
  refine AX.getR dX11_missedIn_60 flRX11_28 rfl rfl ?_
  refine AX.iload_n dX11_missedIn_63 1 rfl rfl ?_
  obtain ⟨b2, hz⟩ := ite_n hz
  refine AX.ialdE (v := σ.1 51 l1.toNatClampNeg) dX11_missedIn_64 rfl b2 rfl ?_
  refine AX.isub dX11_missedIn_65 ?_
  refine AX.icmp_le (tgt := 81) dX11_missedIn_66 rfl (fun c3 => ?_) (fun c3 => ?_)
  · replace hz := (if_pos c3).symm.trans hz
    refine AX.iload dX11_missedIn_81 3 rfl ?_
    exact AX.ireturn dX11_missedIn_83 rfl (vp_nar_int _) (kz (P := fun z => Q (some (.int z)) σ) hz hk)
  · replace hz := (if_neg c3).symm.trans hz
    refine AX.bipush dX11_missedIn_69 bp_16 ?_
    refine AX.aload_n dX11_missedIn_71 0 rfl rfl ?_
    refine AX.getR dX11_missedIn_72 flRX11_28 rfl rfl ?_
    refine AX.iload_n dX11_missedIn_75 1 rfl rfl ?_
    refine AX.ialdE (v := σ.1 51 l1.toNatClampNeg) dX11_missedIn_76 rfl b2 rfl ?_
    refine AX.isub dX11_missedIn_77 ?_
    refine AX.goto (tgt := 83) dX11_missedIn_78 rfl ?_
    exact AX.ireturn dX11_missedIn_83 rfl (vp_nar_int _) (kz (P := fun z => Q (some (.int z)) σ) hz hk)
noncomputable def fX11_missedIn (p0 : Int32) (p1 : Int32) (σ : St) : Option (Int32) :=
  if p1 = (-1 : Int32) then if inb p0 3 = true then some (σ.1 50 p0.toNatClampNeg) else none else if inb p0 3 = true then ltb ((σ.1 50 p0.toNatClampNeg) - ((p1 * (σ.1 52 7)) / (4 : Int32))) fun x3 => if (0 : Int32) ≤ x3 then fX11_missedIn_j40 p0 p1 x3 σ else fX11_missedIn_j40 p0 p1 0 σ else none
theorem wfX11_missedIn {G : ag_G} (p0 : Int32) (p1 : Int32) (σ : St) {z : Int32} (hz : fX11_missedIn p0 p1 σ = some z) {Q : Option Value → St → Prop} (hk : Q (some (.int z)) σ) : AX G mX11_missedIn 0 0 0 [(0, .ref (G.2.2.1 44)), (1, .int p0), (2, .int p1)] [] σ Q := by
  unfold fX11_missedIn at hz
  refine AX.iload_n dX11_missedIn_0 2 rfl rfl ?_
  refine AX.iconst dX11_missedIn_1 ic_m1 ?_
  refine AX.icmp_ne (tgt := 12) dX11_missedIn_2 rfl (fun c1 => ?_) (fun c1 => ?_)
  · replace hz := (if_neg c1).symm.trans hz
    refine AX.aload_n dX11_missedIn_12 0 rfl rfl ?_
    refine AX.getR dX11_missedIn_13 flRX11_25 rfl rfl ?_
    refine AX.iload_n dX11_missedIn_16 1 rfl rfl ?_
    obtain ⟨b2, hz⟩ := ite_n hz
    refine AX.ialdE (v := σ.1 50 p0.toNatClampNeg) dX11_missedIn_17 rfl b2 rfl ?_
    refine AX.iload_n dX11_missedIn_18 2 rfl rfl ?_
    refine AX.aload_n dX11_missedIn_19 0 rfl rfl ?_
    refine AX.getR dX11_missedIn_20 flRX11_31 rfl rfl ?_
    refine AX.bipush dX11_missedIn_23 bp_7 ?_
    refine AX.ialdE (v := σ.1 52 7) dX11_missedIn_25 rfl rfl rfl ?_
    refine AX.imul dX11_missedIn_26 ?_
    refine AX.iconst dX11_missedIn_27 ic_4 ?_
    refine AX.idiv dX11_missedIn_28 (by decide) ?_
    refine AX.isub dX11_missedIn_29 ?_
    obtain ⟨x3, hx3, hz⟩ := ltb_e hz
    refine AX.topI hx3 ?_
    refine AX.istore_n (ls' := [(0, .ref (G.2.2.1 44)), (1, .int p0), (2, .int p1), (3, .int x3)]) dX11_missedIn_30 rfl (Nat.le_of_ble_eq_true rfl) rfl ?_
    refine AX.iload_n dX11_missedIn_31 3 rfl rfl ?_
    refine AX.if_ge (tgt := 39) dX11_missedIn_32 rfl (fun c4 => ?_) (fun c4 => ?_)
    · replace hz := (if_pos c4).symm.trans hz
      refine AX.iload_n dX11_missedIn_39 3 rfl rfl ?_
      exact AX.sub (ls' := [(0, .ref (G.2.2.1 44)), (1, .int p0), (2, .int p1)]) [0, 1, 2] rfl (wfX11_missedIn_j40 p0 p1 x3 σ hz hk)
    · replace hz := (if_neg c4).symm.trans hz
      refine AX.iconst dX11_missedIn_35 ic_0 ?_
      refine AX.goto (tgt := 40) dX11_missedIn_36 rfl ?_
      exact AX.sub (ls' := [(0, .ref (G.2.2.1 44)), (1, .int p0), (2, .int p1)]) [0, 1, 2] rfl (wfX11_missedIn_j40 p0 p1 0 σ hz hk)
  · replace hz := (if_pos c1).symm.trans hz
    refine AX.aload_n dX11_missedIn_5 0 rfl rfl ?_
    refine AX.getR dX11_missedIn_6 flRX11_25 rfl rfl ?_
    refine AX.iload_n dX11_missedIn_9 1 rfl rfl ?_
    obtain ⟨b5, hz⟩ := ite_n hz
    refine AX.ialdE (v := σ.1 50 p0.toNatClampNeg) dX11_missedIn_10 rfl b5 rfl ?_
    exact AX.ireturn dX11_missedIn_11 rfl (vp_nar_int _) (kz (P := fun z => Q (some (.int z)) σ) hz hk)
theorem xX11_missedIn {G : ag_G} (p0 : Int32) (p1 : Int32) (σ : St) {z : Int32} (hz : fX11_missedIn p0 p1 σ = some z) : AC G yX11_missedIn mX11_missedIn 0 0 [.ref (G.2.2.1 44), .int p0, .int p1] σ (fun v σ1 => v = some (.int z) ∧ σ1 = σ) := AC.of (plainFor_of_name (by decide)) rfl (Nat.le_of_ble_eq_true rfl) (wfX11_missedIn p0 p1 σ hz ⟨rfl, rfl⟩)
noncomputable def fX11_slipLoose_j72 (l3 : Int32) (l4 : Int32) (l5 : Int32) (l6 : Int64) (t0 : Int64) (σ : St) : Option ((Int32 × St) ⊕ St) :=
  if inb l5 21 = true then some (.inl (l5 + 1, (sL σ 61 l5.toNatClampNeg ((((σ.2 60 l5.toNatClampNeg) * ((((16 : Int32) - l3) - l4).toInt64)) + l6) + t0)))) else none
theorem wfX11_slipLoose_j72 {G : ag_G} (l3 : Int32) (l4 : Int32) (l5 : Int32) (l6 : Int64) (t0 : Int64) (σ : St) {z : (Int32 × St) ⊕ St} (hz : fX11_slipLoose_j72 l3 l4 l5 l6 t0 σ = some z) {Q : Option Value → St → Prop} (K : ((Int32 × St) ⊕ St) → Prop) (hback : ∀ a : Int32 × St, K (.inl a) → AX G mX11_slipLoose 1 24 18 [(0, .ref (G.2.2.1 44)), (3, .int l3), (4, .int l4), (5, .int a.1)] [] a.2 Q) (hk : K z) : AX G mX11_slipLoose 1 24 72 [(0, .ref (G.2.2.1 44)), (3, .int l3), (4, .int l4), (5, .int l5), (6, .long l6)] [.long t0] σ Q := by
  unfold fX11_slipLoose_j72 at hz
  refine AX.lstore (ls' := [(0, .ref (G.2.2.1 44)), (3, .int l3), (4, .int l4), (5, .int l5), (6, .long l6), (8, .long t0)]) dX11_slipLoose_72 (Nat.le_of_ble_eq_true rfl) rfl ?_
  refine AX.aload_n dX11_slipLoose_74 0 rfl rfl ?_
  refine AX.getR dX11_slipLoose_75 flRX11_59 rfl rfl ?_
  refine AX.iload dX11_slipLoose_78 3 rfl ?_
  refine AX.aload_n dX11_slipLoose_80 0 rfl rfl ?_
  refine AX.getR dX11_slipLoose_81 flRX11_56 rfl rfl ?_
  refine AX.iload dX11_slipLoose_84 3 rfl ?_
  obtain ⟨b1, hz⟩ := ite_n hz
  refine AX.laldE (v := σ.2 60 l5.toNatClampNeg) dX11_slipLoose_86 rfl b1 rfl ?_
  refine AX.bipush dX11_slipLoose_87 bp_16 ?_
  refine AX.iload_n dX11_slipLoose_89 1 rfl rfl ?_
  refine AX.isub dX11_slipLoose_90 ?_
  refine AX.iload dX11_slipLoose_91 2 rfl ?_
  refine AX.isub dX11_slipLoose_93 ?_
  refine AX.i2l dX11_slipLoose_94 ?_
  refine AX.lmul dX11_slipLoose_95 ?_
  refine AX.lload dX11_slipLoose_96 4 rfl ?_
  refine AX.ladd dX11_slipLoose_98 ?_
  refine AX.lload dX11_slipLoose_99 5 rfl ?_
  refine AX.ladd dX11_slipLoose_101 ?_
  refine AX.last dX11_slipLoose_102 rfl b1 ?_
  refine AX.iinc (v := l5 + 1) (ls' := [(0, .ref (G.2.2.1 44)), (3, .int l3), (4, .int l4), (5, .int (l5 + 1)), (6, .long l6), (8, .long t0)]) 3 dX11_slipLoose_103 rfl (Nat.le_of_ble_eq_true rfl) (congrArg (l5 + ·) ic_1) rfl ?_
  refine AX.goto (tgt := 18) dX11_slipLoose_106 rfl ?_
  exact AX.sub (ls' := [(0, .ref (G.2.2.1 44)), (3, .int l3), (4, .int l4), (5, .int (l5 + 1))]) [0, 1, 2, 3] rfl (hback (l5 + 1, (sL σ 61 l5.toNatClampNeg ((((σ.2 60 l5.toNatClampNeg) * ((((16 : Int32) - l3) - l4).toInt64)) + l6) + t0))) (kz (P := K) hz hk))
noncomputable def fX11_slipLoose_j48 (l3 : Int32) (l4 : Int32) (l5 : Int32) (t0 : Int64) (σ : St) : Option ((Int32 × St) ⊕ St) :=
  if l5 ≤ (0 : Int32) then fX11_slipLoose_j72 l3 l4 l5 t0 0 σ else if inb (l5 - (1 : Int32)) 21 = true then fX11_slipLoose_j72 l3 l4 l5 t0 ((σ.2 60 ((l5 - (1 : Int32)).toNatClampNeg)) * l4.toInt64) σ else none
theorem wfX11_slipLoose_j48 {G : ag_G} (l3 : Int32) (l4 : Int32) (l5 : Int32) (t0 : Int64) (σ : St) {z : (Int32 × St) ⊕ St} (hz : fX11_slipLoose_j48 l3 l4 l5 t0 σ = some z) {Q : Option Value → St → Prop} (K : ((Int32 × St) ⊕ St) → Prop) (hback : ∀ a : Int32 × St, K (.inl a) → AX G mX11_slipLoose 1 24 18 [(0, .ref (G.2.2.1 44)), (3, .int l3), (4, .int l4), (5, .int a.1)] [] a.2 Q) (hk : K z) : AX G mX11_slipLoose 1 24 48 [(0, .ref (G.2.2.1 44)), (3, .int l3), (4, .int l4), (5, .int l5)] [.long t0] σ Q := by
  unfold fX11_slipLoose_j48 at hz
  refine AX.lstore (ls' := [(0, .ref (G.2.2.1 44)), (3, .int l3), (4, .int l4), (5, .int l5), (6, .long t0)]) dX11_slipLoose_48 (Nat.le_of_ble_eq_true rfl) rfl ?_
  refine AX.iload dX11_slipLoose_50 3 rfl ?_
  refine AX.if_le (tgt := 71) dX11_slipLoose_52 rfl (fun c1 => ?_) (fun c1 => ?_)
  · replace hz := (if_pos c1).symm.trans hz
    refine AX.lconst dX11_slipLoose_71 lc_0 ?_
    exact AX.sub (ls' := [(0, .ref (G.2.2.1 44)), (3, .int l3), (4, .int l4), (5, .int l5), (6, .long t0)]) [0, 1, 2, 3, 4] rfl (wfX11_slipLoose_j72 l3 l4 l5 t0 0 σ hz K hback hk)
  · replace hz := (if_neg c1).symm.trans hz
    refine AX.aload_n dX11_slipLoose_55 0 rfl rfl ?_
    refine AX.getR dX11_slipLoose_56 flRX11_56 rfl rfl ?_
    refine AX.iload dX11_slipLoose_59 3 rfl ?_
    refine AX.iconst dX11_slipLoose_61 ic_1 ?_
    refine AX.isub dX11_slipLoose_62 ?_
    obtain ⟨b2, hz⟩ := ite_n hz
    refine AX.laldE (v := σ.2 60 ((l5 - (1 : Int32)).toNatClampNeg)) dX11_slipLoose_63 rfl b2 rfl ?_
    refine AX.iload dX11_slipLoose_64 2 rfl ?_
    refine AX.i2l dX11_slipLoose_66 ?_
    refine AX.lmul dX11_slipLoose_67 ?_
    refine AX.goto (tgt := 72) dX11_slipLoose_68 rfl ?_
    exact AX.sub (ls' := [(0, .ref (G.2.2.1 44)), (3, .int l3), (4, .int l4), (5, .int l5), (6, .long t0)]) [0, 1, 2, 3, 4] rfl (wfX11_slipLoose_j72 l3 l4 l5 t0 ((σ.2 60 ((l5 - (1 : Int32)).toNatClampNeg)) * l4.toInt64) σ hz K hback hk)
noncomputable def fX11_slipLoose_b18 (l3 : Int32) (l4 : Int32) (l5 : Int32) (σ : St) : Option ((Int32 × St) ⊕ St) :=
  if (21 : Int32) ≤ l5 then some (.inr σ) else if (20 : Int32) ≤ l5 then fX11_slipLoose_j48 l3 l4 l5 0 σ else if inb (l5 + (1 : Int32)) 21 = true then fX11_slipLoose_j48 l3 l4 l5 ((σ.2 60 ((l5 + (1 : Int32)).toNatClampNeg)) * l3.toInt64) σ else none
theorem wfX11_slipLoose_b18 {G : ag_G} (l3 : Int32) (l4 : Int32) (l5 : Int32) (σ : St) {z : (Int32 × St) ⊕ St} (hz : fX11_slipLoose_b18 l3 l4 l5 σ = some z) {Q : Option Value → St → Prop} (K : ((Int32 × St) ⊕ St) → Prop) (hback : ∀ a : Int32 × St, K (.inl a) → AX G mX11_slipLoose 1 24 18 [(0, .ref (G.2.2.1 44)), (3, .int l3), (4, .int l4), (5, .int a.1)] [] a.2 Q) (hexit0 : ∀ a : St, K (.inr a) → AX G mX11_slipLoose 1 24 109 [(0, .ref (G.2.2.1 44))] [] a Q) (hk : K z) : AX G mX11_slipLoose 1 24 18 [(0, .ref (G.2.2.1 44)), (3, .int l3), (4, .int l4), (5, .int l5)] [] σ Q := by
  unfold fX11_slipLoose_b18 at hz
  refine AX.iload dX11_slipLoose_18 3 rfl ?_
  refine AX.bipush dX11_slipLoose_20 bp_21 ?_
  refine AX.icmp_ge (tgt := 109) dX11_slipLoose_22 rfl (fun c1 => ?_) (fun c1 => ?_)
  · replace hz := (if_pos c1).symm.trans hz
    exact AX.sub (ls' := [(0, .ref (G.2.2.1 44))]) [0] rfl (hexit0 σ (kz (P := K) hz hk))
  · replace hz := (if_neg c1).symm.trans hz
    refine AX.iload dX11_slipLoose_25 3 rfl ?_
    refine AX.bipush dX11_slipLoose_27 bp_20 ?_
    refine AX.icmp_ge (tgt := 47) dX11_slipLoose_29 rfl (fun c2 => ?_) (fun c2 => ?_)
    · replace hz := (if_pos c2).symm.trans hz
      refine AX.lconst dX11_slipLoose_47 lc_0 ?_
      exact AX.sub (ls' := [(0, .ref (G.2.2.1 44)), (3, .int l3), (4, .int l4), (5, .int l5)]) [0, 1, 2, 3] rfl (wfX11_slipLoose_j48 l3 l4 l5 0 σ hz K hback hk)
    · replace hz := (if_neg c2).symm.trans hz
      refine AX.aload_n dX11_slipLoose_32 0 rfl rfl ?_
      refine AX.getR dX11_slipLoose_33 flRX11_56 rfl rfl ?_
      refine AX.iload dX11_slipLoose_36 3 rfl ?_
      refine AX.iconst dX11_slipLoose_38 ic_1 ?_
      refine AX.iadd dX11_slipLoose_39 ?_
      obtain ⟨b3, hz⟩ := ite_n hz
      refine AX.laldE (v := σ.2 60 ((l5 + (1 : Int32)).toNatClampNeg)) dX11_slipLoose_40 rfl b3 rfl ?_
      refine AX.iload_n dX11_slipLoose_41 1 rfl rfl ?_
      refine AX.i2l dX11_slipLoose_42 ?_
      refine AX.lmul dX11_slipLoose_43 ?_
      refine AX.goto (tgt := 48) dX11_slipLoose_44 rfl ?_
      exact AX.sub (ls' := [(0, .ref (G.2.2.1 44)), (3, .int l3), (4, .int l4), (5, .int l5)]) [0, 1, 2, 3] rfl (wfX11_slipLoose_j48 l3 l4 l5 ((σ.2 60 ((l5 + (1 : Int32)).toNatClampNeg)) * l3.toInt64) σ hz K hback hk)
noncomputable def fX11_slipLoose_b112 (l5 : Int32) (σ : St) : Option ((Int32 × St) ⊕ St) :=
  if (21 : Int32) ≤ l5 then some (.inr σ) else if inb l5 21 = true then some (.inl (l5 + 1, (sL σ 60 l5.toNatClampNeg (σ.2 61 l5.toNatClampNeg)))) else none
theorem wfX11_slipLoose_b112 {G : ag_G} (l5 : Int32) (σ : St) {z : (Int32 × St) ⊕ St} (hz : fX11_slipLoose_b112 l5 σ = some z) {Q : Option Value → St → Prop} (K : ((Int32 × St) ⊕ St) → Prop) (hback : ∀ a : Int32 × St, K (.inl a) → AX G mX11_slipLoose 1 24 112 [(0, .ref (G.2.2.1 44)), (5, .int a.1)] [] a.2 Q) (hexit0 : ∀ a : St, K (.inr a) → AX G mX11_slipLoose 1 24 139 [(0, .ref (G.2.2.1 44))] [] a Q) (hk : K z) : AX G mX11_slipLoose 1 24 112 [(0, .ref (G.2.2.1 44)), (5, .int l5)] [] σ Q := by
  unfold fX11_slipLoose_b112 at hz
  refine AX.iload dX11_slipLoose_112 1 rfl ?_
  refine AX.bipush dX11_slipLoose_114 bp_21 ?_
  refine AX.icmp_ge (tgt := 139) dX11_slipLoose_116 rfl (fun c1 => ?_) (fun c1 => ?_)
  · replace hz := (if_pos c1).symm.trans hz
    exact AX.sub (ls' := [(0, .ref (G.2.2.1 44))]) [0] rfl (hexit0 σ (kz (P := K) hz hk))
  · replace hz := (if_neg c1).symm.trans hz
    refine AX.aload_n dX11_slipLoose_119 0 rfl rfl ?_
    refine AX.getR dX11_slipLoose_120 flRX11_56 rfl rfl ?_
    refine AX.iload dX11_slipLoose_123 1 rfl ?_
    refine AX.aload_n dX11_slipLoose_125 0 rfl rfl ?_
    refine AX.getR dX11_slipLoose_126 flRX11_59 rfl rfl ?_
    refine AX.iload dX11_slipLoose_129 1 rfl ?_
    obtain ⟨b2, hz⟩ := ite_n hz
    refine AX.laldE (v := σ.2 61 l5.toNatClampNeg) dX11_slipLoose_131 rfl b2 rfl ?_
    refine AX.last dX11_slipLoose_132 rfl b2 ?_
    refine AX.iinc (v := l5 + 1) (ls' := [(0, .ref (G.2.2.1 44)), (5, .int (l5 + 1))]) 1 dX11_slipLoose_133 rfl (Nat.le_of_ble_eq_true rfl) (congrArg (l5 + ·) ic_1) rfl ?_
    refine AX.goto (tgt := 112) dX11_slipLoose_136 rfl ?_
    exact AX.sub (ls' := [(0, .ref (G.2.2.1 44)), (5, .int (l5 + 1))]) [0, 1] rfl (hback (l5 + 1, (sL σ 60 l5.toNatClampNeg (σ.2 61 l5.toNatClampNeg))) (kz (P := K) hz hk))
noncomputable def fX11_slipLoose (p0 : Int32) (p1 : Int32) (σ : St) : Option (St) :=
  (fX11_missedIn p0 p1 σ).bind fun q1 => if inb p0 3 = true then ltb (σ.1 51 p0.toNatClampNeg) fun x3 => (lpc (fun s => fX11_slipLoose_b18 q1 x3 s.1 s.2) (0, σ)).bind fun r4 => (lpc (fun s => fX11_slipLoose_b112  s.1 s.2) (0, r4)).bind fun r5 => some (sL r5 44 25 ((r5.2 44 25) * (16 : Int64))) else none
theorem wfX11_slipLoose {G : ag_G} (p0 : Int32) (p1 : Int32) (σ : St) {z : St} (hz : fX11_slipLoose p0 p1 σ = some z) {Q : Option Value → St → Prop} (hk : Q (none) z) : AX G mX11_slipLoose 1 24 0 [(0, .ref (G.2.2.1 44)), (1, .int p0), (2, .int p1)] [] σ Q := by
  unfold fX11_slipLoose at hz
  refine AX.aload_n dX11_slipLoose_0 0 rfl rfl ?_
  refine AX.iload_n dX11_slipLoose_1 1 rfl rfl ?_
  refine AX.iload_n dX11_slipLoose_2 2 rfl rfl ?_
  obtain ⟨q1, hq1, hz⟩ := obind hz
  refine AX.callVw (r := 44) (As := [.int p0, .int p1]) (rest := []) (w := some (.int q1)) (st' := [.int q1]) dX11_slipLoose_3 mlRX11_203 ylX11_missedIn yvX11_missedIn rfl rfl rfl (Nat.le_of_ble_eq_true rfl) ⟨Nat.le_of_ble_eq_true rfl, Nat.le_of_ble_eq_true rfl⟩ (xX11_missedIn p0 p1 σ hq1) rfl ?_
  refine AX.istore_n (ls' := [(0, .ref (G.2.2.1 44)), (1, .int p0), (2, .int p1), (3, .int q1)]) dX11_slipLoose_6 rfl (Nat.le_of_ble_eq_true rfl) rfl ?_
  refine AX.aload_n dX11_slipLoose_7 0 rfl rfl ?_
  refine AX.getR dX11_slipLoose_8 flRX11_28 rfl rfl ?_
  refine AX.iload_n dX11_slipLoose_11 1 rfl rfl ?_
  obtain ⟨b2, hz⟩ := ite_n hz
  refine AX.ialdE (v := σ.1 51 p0.toNatClampNeg) dX11_slipLoose_12 rfl b2 rfl ?_
  obtain ⟨x3, hx3, hz⟩ := ltb_e hz
  refine AX.topI hx3 ?_
  refine AX.istore (ls' := [(0, .ref (G.2.2.1 44)), (1, .int p0), (2, .int p1), (3, .int q1), (4, .int x3)]) dX11_slipLoose_13 (Nat.le_of_ble_eq_true rfl) rfl ?_
  refine AX.iconst dX11_slipLoose_15 ic_0 ?_
  refine AX.istore (ls' := [(0, .ref (G.2.2.1 44)), (1, .int p0), (2, .int p1), (3, .int q1), (4, .int x3), (5, .int 0)]) dX11_slipLoose_16 (Nat.le_of_ble_eq_true rfl) rfl ?_
  obtain ⟨r4, hr4, hz⟩ := obind hz
  refine AX.sub (ls' := [(0, .ref (G.2.2.1 44)), (3, .int q1), (4, .int x3), (5, .int 0)]) [0, 3, 4, 5] rfl ?_
  refine lpc_ind (s := (0, σ)) (r := r4) (fun s => AX G mX11_slipLoose 1 24 18 [(0, .ref (G.2.2.1 44)), (3, .int q1), (4, .int x3), (5, .int s.1)] [] s.2 Q) (fun a : St => AX G mX11_slipLoose 1 24 109 [(0, .ref (G.2.2.1 44))] [] a Q) hr4 (fun s z hb hK => wfX11_slipLoose_b18 q1 x3 s.1 s.2 hb (Sum.elim (fun s => AX G mX11_slipLoose 1 24 18 [(0, .ref (G.2.2.1 44)), (3, .int q1), (4, .int x3), (5, .int s.1)] [] s.2 Q) (fun a : St => AX G mX11_slipLoose 1 24 109 [(0, .ref (G.2.2.1 44))] [] a Q)) (fun _ h9 => h9) (fun _ h9 => h9) hK) ?_
  refine AX.iconst dX11_slipLoose_109 ic_0 ?_
  refine AX.istore (ls' := [(0, .ref (G.2.2.1 44)), (5, .int 0)]) dX11_slipLoose_110 (Nat.le_of_ble_eq_true rfl) rfl ?_
  obtain ⟨r5, hr5, hz⟩ := obind hz
  refine AX.sub (ls' := [(0, .ref (G.2.2.1 44)), (5, .int 0)]) [0, 1] rfl ?_
  refine lpc_ind (s := (0, r4)) (r := r5) (fun s => AX G mX11_slipLoose 1 24 112 [(0, .ref (G.2.2.1 44)), (5, .int s.1)] [] s.2 Q) (fun a : St => AX G mX11_slipLoose 1 24 139 [(0, .ref (G.2.2.1 44))] [] a Q) hr5 (fun s z hb hK => wfX11_slipLoose_b112  s.1 s.2 hb (Sum.elim (fun s => AX G mX11_slipLoose 1 24 112 [(0, .ref (G.2.2.1 44)), (5, .int s.1)] [] s.2 Q) (fun a : St => AX G mX11_slipLoose 1 24 139 [(0, .ref (G.2.2.1 44))] [] a Q)) (fun _ h9 => h9) (fun _ h9 => h9) hK) ?_
  refine AX.aload_n dX11_slipLoose_139 0 rfl rfl ?_
  refine AX.dup dX11_slipLoose_140 rfl ?_
  refine AX.getJE (v := r5.2 44 25) dX11_slipLoose_141 flRX11_193 rfl rfl rfl ?_
  refine AX.ldc2 dX11_slipLoose_144 kcRX11_151 ?_
  refine AX.lmul dX11_slipLoose_147 ?_
  refine AX.putJ dX11_slipLoose_148 fpRX11_193 rfl rfl ?_
  exact AX.vreturn dX11_slipLoose_151 rfl (kz (P := fun z => Q (none) z) hz hk)
theorem xX11_slipLoose {G : ag_G} (p0 : Int32) (p1 : Int32) (σ : St) {z : St} (hz : fX11_slipLoose p0 p1 σ = some z) : AC G yX11_slipLoose mX11_slipLoose 1 24 [.ref (G.2.2.1 44), .int p0, .int p1] σ (fun v σ1 => v = none ∧ σ1 = z) := AC.of (plainFor_of_name (by decide)) rfl (Nat.le_of_ble_eq_true rfl) (wfX11_slipLoose p0 p1 σ hz ⟨rfl, rfl⟩)
noncomputable def fX11_findsSlips_j28 (l1 : Int32) (l2 : Int32) (l3 : Int32) (l4 : Int32) (t1 : Int32) (t2 : Int64) (σ : St) : Option ((Int32 × St) ⊕ St) :=
  if inb t1 21 = true then some (.inl (l4 + 1, (sL σ 60 t1.toNatClampNeg t2))) else none
theorem wfX11_findsSlips_j28 {G : ag_G} (l1 : Int32) (l2 : Int32) (l3 : Int32) (l4 : Int32) (t1 : Int32) (t2 : Int64) (σ : St) {z : (Int32 × St) ⊕ St} (hz : fX11_findsSlips_j28 l1 l2 l3 l4 t1 t2 σ = some z) {Q : Option Value → St → Prop} (K : ((Int32 × St) ⊕ St) → Prop) (hback : ∀ a : Int32 × St, K (.inl a) → AX G mX11_findsSlips 2 53 3 [(0, .ref (G.2.2.1 44)), (1, .int l1), (2, .int l2), (3, .int l3), (4, .int a.1)] [] a.2 Q) (hk : K z) : AX G mX11_findsSlips 2 53 28 [(0, .ref (G.2.2.1 44)), (1, .int l1), (2, .int l2), (3, .int l3), (4, .int l4)] [.long t2, .int t1, .ref (G.2.2.1 60)] σ Q := by
  unfold fX11_findsSlips_j28 at hz
  obtain ⟨b1, hz⟩ := ite_n hz
  refine AX.last dX11_findsSlips_28 rfl b1 ?_
  refine AX.iinc (v := l4 + 1) (ls' := [(0, .ref (G.2.2.1 44)), (1, .int l1), (2, .int l2), (3, .int l3), (4, .int (l4 + 1))]) 4 dX11_findsSlips_29 rfl (Nat.le_of_ble_eq_true rfl) (congrArg (l4 + ·) ic_1) rfl ?_
  refine AX.goto (tgt := 3) dX11_findsSlips_32 rfl ?_
  exact AX.sub (ls' := [(0, .ref (G.2.2.1 44)), (1, .int l1), (2, .int l2), (3, .int l3), (4, .int (l4 + 1))]) [0, 1, 2, 3, 4] rfl (hback (l4 + 1, (sL σ 60 t1.toNatClampNeg t2)) (kz (P := K) hz hk))
noncomputable def fX11_findsSlips_b3 (l1 : Int32) (l2 : Int32) (l3 : Int32) (l4 : Int32) (σ : St) : Option ((Int32 × St) ⊕ St) :=
  if (21 : Int32) ≤ l4 then some (.inr σ) else if l4 = (10 : Int32) then fX11_findsSlips_j28 l1 l2 l3 l4 l4 1 σ else fX11_findsSlips_j28 l1 l2 l3 l4 l4 0 σ
theorem wfX11_findsSlips_b3 {G : ag_G} (l1 : Int32) (l2 : Int32) (l3 : Int32) (l4 : Int32) (σ : St) {z : (Int32 × St) ⊕ St} (hz : fX11_findsSlips_b3 l1 l2 l3 l4 σ = some z) {Q : Option Value → St → Prop} (K : ((Int32 × St) ⊕ St) → Prop) (hback : ∀ a : Int32 × St, K (.inl a) → AX G mX11_findsSlips 2 53 3 [(0, .ref (G.2.2.1 44)), (1, .int l1), (2, .int l2), (3, .int l3), (4, .int a.1)] [] a.2 Q) (hexit0 : ∀ a : St, K (.inr a) → AX G mX11_findsSlips 2 53 35 [(0, .ref (G.2.2.1 44)), (1, .int l1), (2, .int l2), (3, .int l3)] [] a Q) (hk : K z) : AX G mX11_findsSlips 2 53 3 [(0, .ref (G.2.2.1 44)), (1, .int l1), (2, .int l2), (3, .int l3), (4, .int l4)] [] σ Q := by
  unfold fX11_findsSlips_b3 at hz
  refine AX.iload dX11_findsSlips_3 4 rfl ?_
  refine AX.bipush dX11_findsSlips_5 bp_21 ?_
  refine AX.icmp_ge (tgt := 35) dX11_findsSlips_7 rfl (fun c1 => ?_) (fun c1 => ?_)
  · replace hz := (if_pos c1).symm.trans hz
    exact AX.sub (ls' := [(0, .ref (G.2.2.1 44)), (1, .int l1), (2, .int l2), (3, .int l3)]) [0, 1, 2, 3] rfl (hexit0 σ (kz (P := K) hz hk))
  · replace hz := (if_neg c1).symm.trans hz
    refine AX.aload_n dX11_findsSlips_10 0 rfl rfl ?_
    refine AX.getR dX11_findsSlips_11 flRX11_56 rfl rfl ?_
    refine AX.iload dX11_findsSlips_14 4 rfl ?_
    refine AX.iload dX11_findsSlips_16 4 rfl ?_
    refine AX.bipush dX11_findsSlips_18 bp_10 ?_
    refine AX.icmp_ne (tgt := 27) dX11_findsSlips_20 rfl (fun c2 => ?_) (fun c2 => ?_)
    · replace hz := (if_neg c2).symm.trans hz
      refine AX.lconst dX11_findsSlips_27 lc_0 ?_
      exact AX.sub (ls' := [(0, .ref (G.2.2.1 44)), (1, .int l1), (2, .int l2), (3, .int l3), (4, .int l4)]) [0, 1, 2, 3, 4] rfl (wfX11_findsSlips_j28 l1 l2 l3 l4 l4 0 σ hz K hback hk)
    · replace hz := (if_pos c2).symm.trans hz
      refine AX.lconst dX11_findsSlips_23 lc_1 ?_
      refine AX.goto (tgt := 28) dX11_findsSlips_24 rfl ?_
      exact AX.sub (ls' := [(0, .ref (G.2.2.1 44)), (1, .int l1), (2, .int l2), (3, .int l3), (4, .int l4)]) [0, 1, 2, 3, 4] rfl (wfX11_findsSlips_j28 l1 l2 l3 l4 l4 1 σ hz K hback hk)
noncomputable def fX11_findsSlips_j197 (l1 : Int32) (l2 : Int32) (l3 : Int32) (l4 : Int32) (σ : St) : Option ((Int32 × St) ⊕ St) :=
  some (.inl (l4 + 1, σ))
theorem wfX11_findsSlips_j197 {G : ag_G} (l1 : Int32) (l2 : Int32) (l3 : Int32) (l4 : Int32) (σ : St) {z : (Int32 × St) ⊕ St} (hz : fX11_findsSlips_j197 l1 l2 l3 l4 σ = some z) {Q : Option Value → St → Prop} (K : ((Int32 × St) ⊕ St) → Prop) (hback : ∀ a : Int32 × St, K (.inl a) → AX G mX11_findsSlips 2 53 43 [(0, .ref (G.2.2.1 44)), (1, .int l1), (2, .int l2), (3, .int l3), (4, .int a.1)] [] a.2 Q) (hk : K z) : AX G mX11_findsSlips 2 53 197 [(0, .ref (G.2.2.1 44)), (1, .int l1), (2, .int l2), (3, .int l3), (4, .int l4)] [] σ Q := by
  unfold fX11_findsSlips_j197 at hz
  refine AX.iinc (v := l4 + 1) (ls' := [(0, .ref (G.2.2.1 44)), (1, .int l1), (2, .int l2), (3, .int l3), (4, .int (l4 + 1))]) 4 dX11_findsSlips_197 rfl (Nat.le_of_ble_eq_true rfl) (congrArg (l4 + ·) ic_1) rfl ?_
  refine AX.goto (tgt := 43) dX11_findsSlips_200 rfl ?_
  exact AX.sub (ls' := [(0, .ref (G.2.2.1 44)), (1, .int l1), (2, .int l2), (3, .int l3), (4, .int (l4 + 1))]) [0, 1, 2, 3, 4] rfl (hback (l4 + 1, σ) (kz (P := K) hz hk))
noncomputable def fX11_findsSlips_j178 (l1 : Int32) (l2 : Int32) (l3 : Int32) (l4 : Int32) (l5 : Int32) (t1 : Int32) (t2 : Int64) (σ : St) : Option ((Int32 × St) ⊕ St) :=
  if inb t1 21 = true then some (.inl (l5 + 1, (sL σ 60 t1.toNatClampNeg t2))) else none
theorem wfX11_findsSlips_j178 {G : ag_G} (l1 : Int32) (l2 : Int32) (l3 : Int32) (l4 : Int32) (l5 : Int32) (t1 : Int32) (t2 : Int64) (σ : St) {z : (Int32 × St) ⊕ St} (hz : fX11_findsSlips_j178 l1 l2 l3 l4 l5 t1 t2 σ = some z) {Q : Option Value → St → Prop} (K : ((Int32 × St) ⊕ St) → Prop) (hback : ∀ a : Int32 × St, K (.inl a) → AX G mX11_findsSlips 2 53 103 [(0, .ref (G.2.2.1 44)), (1, .int l1), (2, .int l2), (3, .int l3), (4, .int l4), (5, .int a.1)] [] a.2 Q) (hk : K z) : AX G mX11_findsSlips 2 53 178 [(0, .ref (G.2.2.1 44)), (1, .int l1), (2, .int l2), (3, .int l3), (4, .int l4), (5, .int l5)] [.long t2, .int t1, .ref (G.2.2.1 60)] σ Q := by
  unfold fX11_findsSlips_j178 at hz
  obtain ⟨b1, hz⟩ := ite_n hz
  refine AX.last dX11_findsSlips_178 rfl b1 ?_
  refine AX.iinc (v := l5 + 1) (ls' := [(0, .ref (G.2.2.1 44)), (1, .int l1), (2, .int l2), (3, .int l3), (4, .int l4), (5, .int (l5 + 1))]) 5 dX11_findsSlips_179 rfl (Nat.le_of_ble_eq_true rfl) (congrArg (l5 + ·) ic_1) rfl ?_
  refine AX.goto (tgt := 103) dX11_findsSlips_182 rfl ?_
  exact AX.sub (ls' := [(0, .ref (G.2.2.1 44)), (1, .int l1), (2, .int l2), (3, .int l3), (4, .int l4), (5, .int (l5 + 1))]) [0, 1, 2, 3, 4, 5] rfl (hback (l5 + 1, (sL σ 60 t1.toNatClampNeg t2)) (kz (P := K) hz hk))
noncomputable def fX11_findsSlips_b103 (l1 : Int32) (l2 : Int32) (l3 : Int32) (l4 : Int32) (l5 : Int32) (σ : St) : Option ((Int32 × St) ⊕ St) :=
  if (21 : Int32) ≤ l5 then some (.inr σ) else if l5 = (10 : Int32) then if inb l5 21 = true then fX11_findsSlips_j178 l1 l2 l3 l4 l5 l5 (((16 : Int64) * (σ.2 60 l5.toNatClampNeg)) + (((σ.1 52 6).toInt64) * ((σ.2 44 25) - (σ.2 60 l5.toNatClampNeg)))) σ else none else if inb l5 21 = true then fX11_findsSlips_j178 l1 l2 l3 l4 l5 l5 ((((16 : Int32) - (σ.1 52 6)).toInt64) * (σ.2 60 l5.toNatClampNeg)) σ else none
theorem wfX11_findsSlips_b103 {G : ag_G} (l1 : Int32) (l2 : Int32) (l3 : Int32) (l4 : Int32) (l5 : Int32) (σ : St) {z : (Int32 × St) ⊕ St} (hz : fX11_findsSlips_b103 l1 l2 l3 l4 l5 σ = some z) {Q : Option Value → St → Prop} (K : ((Int32 × St) ⊕ St) → Prop) (hback : ∀ a : Int32 × St, K (.inl a) → AX G mX11_findsSlips 2 53 103 [(0, .ref (G.2.2.1 44)), (1, .int l1), (2, .int l2), (3, .int l3), (4, .int l4), (5, .int a.1)] [] a.2 Q) (hexit0 : ∀ a : St, K (.inr a) → AX G mX11_findsSlips 2 53 185 [(0, .ref (G.2.2.1 44)), (1, .int l1), (2, .int l2), (3, .int l3), (4, .int l4)] [] a Q) (hk : K z) : AX G mX11_findsSlips 2 53 103 [(0, .ref (G.2.2.1 44)), (1, .int l1), (2, .int l2), (3, .int l3), (4, .int l4), (5, .int l5)] [] σ Q := by
  unfold fX11_findsSlips_b103 at hz
  refine AX.iload dX11_findsSlips_103 5 rfl ?_
  refine AX.bipush dX11_findsSlips_105 bp_21 ?_
  refine AX.icmp_ge (tgt := 185) dX11_findsSlips_107 rfl (fun c1 => ?_) (fun c1 => ?_)
  · replace hz := (if_pos c1).symm.trans hz
    exact AX.sub (ls' := [(0, .ref (G.2.2.1 44)), (1, .int l1), (2, .int l2), (3, .int l3), (4, .int l4)]) [0, 1, 2, 3, 4] rfl (hexit0 σ (kz (P := K) hz hk))
  · replace hz := (if_neg c1).symm.trans hz
    refine AX.aload_n dX11_findsSlips_110 0 rfl rfl ?_
    refine AX.getR dX11_findsSlips_111 flRX11_56 rfl rfl ?_
    refine AX.iload dX11_findsSlips_114 5 rfl ?_
    refine AX.iload dX11_findsSlips_116 5 rfl ?_
    refine AX.bipush dX11_findsSlips_118 bp_10 ?_
    refine AX.icmp_ne (tgt := 159) dX11_findsSlips_120 rfl (fun c2 => ?_) (fun c2 => ?_)
    · replace hz := (if_neg c2).symm.trans hz
      refine AX.bipush dX11_findsSlips_159 bp_16 ?_
      refine AX.aload_n dX11_findsSlips_161 0 rfl rfl ?_
      refine AX.getR dX11_findsSlips_162 flRX11_31 rfl rfl ?_
      refine AX.bipush dX11_findsSlips_165 bp_6 ?_
      refine AX.ialdE (v := σ.1 52 6) dX11_findsSlips_167 rfl rfl rfl ?_
      refine AX.isub dX11_findsSlips_168 ?_
      refine AX.i2l dX11_findsSlips_169 ?_
      refine AX.aload_n dX11_findsSlips_170 0 rfl rfl ?_
      refine AX.getR dX11_findsSlips_171 flRX11_56 rfl rfl ?_
      refine AX.iload dX11_findsSlips_174 5 rfl ?_
      obtain ⟨b3, hz⟩ := ite_n hz
      refine AX.laldE (v := σ.2 60 l5.toNatClampNeg) dX11_findsSlips_176 rfl b3 rfl ?_
      refine AX.lmul dX11_findsSlips_177 ?_
      exact AX.sub (ls' := [(0, .ref (G.2.2.1 44)), (1, .int l1), (2, .int l2), (3, .int l3), (4, .int l4), (5, .int l5)]) [0, 1, 2, 3, 4, 5] rfl (wfX11_findsSlips_j178 l1 l2 l3 l4 l5 l5 ((((16 : Int32) - (σ.1 52 6)).toInt64) * (σ.2 60 l5.toNatClampNeg)) σ hz K hback hk)
    · replace hz := (if_pos c2).symm.trans hz
      refine AX.ldc2 dX11_findsSlips_123 kcRX11_151 ?_
      refine AX.aload_n dX11_findsSlips_126 0 rfl rfl ?_
      refine AX.getR dX11_findsSlips_127 flRX11_56 rfl rfl ?_
      refine AX.iload dX11_findsSlips_130 5 rfl ?_
      obtain ⟨b4, hz⟩ := ite_n hz
      refine AX.laldE (v := σ.2 60 l5.toNatClampNeg) dX11_findsSlips_132 rfl b4 rfl ?_
      refine AX.lmul dX11_findsSlips_133 ?_
      refine AX.aload_n dX11_findsSlips_134 0 rfl rfl ?_
      refine AX.getR dX11_findsSlips_135 flRX11_31 rfl rfl ?_
      refine AX.bipush dX11_findsSlips_138 bp_6 ?_
      refine AX.ialdE (v := σ.1 52 6) dX11_findsSlips_140 rfl rfl rfl ?_
      refine AX.i2l dX11_findsSlips_141 ?_
      refine AX.aload_n dX11_findsSlips_142 0 rfl rfl ?_
      refine AX.getJE (v := σ.2 44 25) dX11_findsSlips_143 flRX11_193 rfl rfl rfl ?_
      refine AX.aload_n dX11_findsSlips_146 0 rfl rfl ?_
      refine AX.getR dX11_findsSlips_147 flRX11_56 rfl rfl ?_
      refine AX.iload dX11_findsSlips_150 5 rfl ?_
      refine AX.laldE (v := σ.2 60 l5.toNatClampNeg) dX11_findsSlips_152 rfl b4 rfl ?_
      refine AX.lsub dX11_findsSlips_153 ?_
      refine AX.lmul dX11_findsSlips_154 ?_
      refine AX.ladd dX11_findsSlips_155 ?_
      refine AX.goto (tgt := 178) dX11_findsSlips_156 rfl ?_
      exact AX.sub (ls' := [(0, .ref (G.2.2.1 44)), (1, .int l1), (2, .int l2), (3, .int l3), (4, .int l4), (5, .int l5)]) [0, 1, 2, 3, 4, 5] rfl (wfX11_findsSlips_j178 l1 l2 l3 l4 l5 l5 (((16 : Int64) * (σ.2 60 l5.toNatClampNeg)) + (((σ.1 52 6).toInt64) * ((σ.2 44 25) - (σ.2 60 l5.toNatClampNeg)))) σ hz K hback hk)
noncomputable def fX11_findsSlips_b43 (l1 : Int32) (l2 : Int32) (l3 : Int32) (l4 : Int32) (σ : St) : Option ((Int32 × St) ⊕ St) :=
  if l1 ≤ l4 then some (.inr σ) else if inb l4 100 = true then if (3 : Int32) ≤ (σ.1 46 l4.toNatClampNeg) then if (σ.1 46 l4.toNatClampNeg) = (4 : Int32) then (fX11_isIn l2 (σ.1 48 l4.toNatClampNeg)).bind fun q5 => if q5 = (0 : Int32) then fX11_findsSlips_j197 l1 l2 l3 l4 σ else (lpc (fun s => fX11_findsSlips_b103 l1 l2 l3 l4 s.1 s.2) (0, σ)).bind fun r7 => fX11_findsSlips_j197 l1 l2 l3 l4 (sL r7 44 25 ((r7.2 44 25) * (16 : Int64))) else fX11_findsSlips_j197 l1 l2 l3 l4 σ else (fX11_slipLoose (σ.1 46 l4.toNatClampNeg) l3 σ).bind fun q8 => fX11_findsSlips_j197 l1 l2 l3 l4 q8 else none
theorem wfX11_findsSlips_b43 {G : ag_G} (l1 : Int32) (l2 : Int32) (l3 : Int32) (l4 : Int32) (σ : St) {z : (Int32 × St) ⊕ St} (hz : fX11_findsSlips_b43 l1 l2 l3 l4 σ = some z) {Q : Option Value → St → Prop} (K : ((Int32 × St) ⊕ St) → Prop) (hback : ∀ a : Int32 × St, K (.inl a) → AX G mX11_findsSlips 2 53 43 [(0, .ref (G.2.2.1 44)), (1, .int l1), (2, .int l2), (3, .int l3), (4, .int a.1)] [] a.2 Q) (hexit0 : ∀ a : St, K (.inr a) → AX G mX11_findsSlips 2 53 203 [] [] a Q) (hk : K z) : AX G mX11_findsSlips 2 53 43 [(0, .ref (G.2.2.1 44)), (1, .int l1), (2, .int l2), (3, .int l3), (4, .int l4)] [] σ Q := by
  unfold fX11_findsSlips_b43 at hz
  refine AX.iload dX11_findsSlips_43 4 rfl ?_
  refine AX.iload_n dX11_findsSlips_45 1 rfl rfl ?_
  refine AX.icmp_ge (tgt := 203) dX11_findsSlips_46 rfl (fun c1 => ?_) (fun c1 => ?_)
  · replace hz := (if_pos c1).symm.trans hz
    exact AX.sub (ls' := []) [] rfl (hexit0 σ (kz (P := K) hz hk))
  · replace hz := (if_neg c1).symm.trans hz
    refine AX.aload_n dX11_findsSlips_49 0 rfl rfl ?_
    refine AX.getR dX11_findsSlips_50 flRX11_13 rfl rfl ?_
    refine AX.iload dX11_findsSlips_53 4 rfl ?_
    obtain ⟨b2, hz⟩ := ite_n hz
    refine AX.ialdE (v := σ.1 46 l4.toNatClampNeg) dX11_findsSlips_55 rfl b2 rfl ?_
    refine AX.iconst dX11_findsSlips_56 ic_3 ?_
    refine AX.icmp_ge (tgt := 75) dX11_findsSlips_57 rfl (fun c3 => ?_) (fun c3 => ?_)
    · replace hz := (if_pos c3).symm.trans hz
      refine AX.aload_n dX11_findsSlips_75 0 rfl rfl ?_
      refine AX.getR dX11_findsSlips_76 flRX11_13 rfl rfl ?_
      refine AX.iload dX11_findsSlips_79 4 rfl ?_
      refine AX.ialdE (v := σ.1 46 l4.toNatClampNeg) dX11_findsSlips_81 rfl b2 rfl ?_
      refine AX.iconst dX11_findsSlips_82 ic_4 ?_
      refine AX.icmp_ne (tgt := 197) dX11_findsSlips_83 rfl (fun c4 => ?_) (fun c4 => ?_)
      · replace hz := (if_neg c4).symm.trans hz
        exact AX.sub (ls' := [(0, .ref (G.2.2.1 44)), (1, .int l1), (2, .int l2), (3, .int l3), (4, .int l4)]) [0, 1, 2, 3, 4] rfl (wfX11_findsSlips_j197 l1 l2 l3 l4 σ hz K hback hk)
      · replace hz := (if_pos c4).symm.trans hz
        refine AX.iload_n dX11_findsSlips_86 2 rfl rfl ?_
        refine AX.aload_n dX11_findsSlips_87 0 rfl rfl ?_
        refine AX.getR dX11_findsSlips_88 flRX11_19 rfl rfl ?_
        refine AX.iload dX11_findsSlips_91 4 rfl ?_
        refine AX.ialdE (v := σ.1 48 l4.toNatClampNeg) dX11_findsSlips_93 rfl b2 rfl ?_
        obtain ⟨q5, hq5, hz⟩ := obind hz
        refine AX.callSw (As := [.int l2, .int (σ.1 48 l4.toNatClampNeg)]) (rest := []) (w := some (.int q5)) (st' := [.int q5]) dX11_findsSlips_94 mlRX11_199 ylX11_isIn ysX11_isIn rfl rfl (Nat.le_of_ble_eq_true rfl) ⟨Nat.le_of_ble_eq_true rfl, Nat.le_of_ble_eq_true rfl⟩ (xX11_isIn l2 (σ.1 48 l4.toNatClampNeg) σ hq5) rfl ?_
        refine AX.if_eq (tgt := 197) dX11_findsSlips_97 rfl (fun c6 => ?_) (fun c6 => ?_)
        · replace hz := (if_pos c6).symm.trans hz
          exact AX.sub (ls' := [(0, .ref (G.2.2.1 44)), (1, .int l1), (2, .int l2), (3, .int l3), (4, .int l4)]) [0, 1, 2, 3, 4] rfl (wfX11_findsSlips_j197 l1 l2 l3 l4 σ hz K hback hk)
        · replace hz := (if_neg c6).symm.trans hz
          refine AX.iconst dX11_findsSlips_100 ic_0 ?_
          refine AX.istore (ls' := [(0, .ref (G.2.2.1 44)), (1, .int l1), (2, .int l2), (3, .int l3), (4, .int l4), (5, .int 0)]) dX11_findsSlips_101 (Nat.le_of_ble_eq_true rfl) rfl ?_
          obtain ⟨r7, hr7, hz⟩ := obind hz
          refine AX.sub (ls' := [(0, .ref (G.2.2.1 44)), (1, .int l1), (2, .int l2), (3, .int l3), (4, .int l4), (5, .int 0)]) [0, 1, 2, 3, 4, 5] rfl ?_
          refine lpc_ind (s := (0, σ)) (r := r7) (fun s => AX G mX11_findsSlips 2 53 103 [(0, .ref (G.2.2.1 44)), (1, .int l1), (2, .int l2), (3, .int l3), (4, .int l4), (5, .int s.1)] [] s.2 Q) (fun a : St => AX G mX11_findsSlips 2 53 185 [(0, .ref (G.2.2.1 44)), (1, .int l1), (2, .int l2), (3, .int l3), (4, .int l4)] [] a Q) hr7 (fun s z hb hK => wfX11_findsSlips_b103 l1 l2 l3 l4 s.1 s.2 hb (Sum.elim (fun s => AX G mX11_findsSlips 2 53 103 [(0, .ref (G.2.2.1 44)), (1, .int l1), (2, .int l2), (3, .int l3), (4, .int l4), (5, .int s.1)] [] s.2 Q) (fun a : St => AX G mX11_findsSlips 2 53 185 [(0, .ref (G.2.2.1 44)), (1, .int l1), (2, .int l2), (3, .int l3), (4, .int l4)] [] a Q)) (fun _ h9 => h9) (fun _ h9 => h9) hK) ?_
          refine AX.aload_n dX11_findsSlips_185 0 rfl rfl ?_
          refine AX.dup dX11_findsSlips_186 rfl ?_
          refine AX.getJE (v := r7.2 44 25) dX11_findsSlips_187 flRX11_193 rfl rfl rfl ?_
          refine AX.ldc2 dX11_findsSlips_190 kcRX11_151 ?_
          refine AX.lmul dX11_findsSlips_193 ?_
          refine AX.putJ dX11_findsSlips_194 fpRX11_193 rfl rfl ?_
          exact AX.sub (ls' := [(0, .ref (G.2.2.1 44)), (1, .int l1), (2, .int l2), (3, .int l3), (4, .int l4)]) [0, 1, 2, 3, 4] rfl (wfX11_findsSlips_j197 l1 l2 l3 l4 (sL r7 44 25 ((r7.2 44 25) * (16 : Int64))) hz K hback hk)
    · replace hz := (if_neg c3).symm.trans hz
      refine AX.aload_n dX11_findsSlips_60 0 rfl rfl ?_
      refine AX.aload_n dX11_findsSlips_61 0 rfl rfl ?_
      refine AX.getR dX11_findsSlips_62 flRX11_13 rfl rfl ?_
      refine AX.iload dX11_findsSlips_65 4 rfl ?_
      refine AX.ialdE (v := σ.1 46 l4.toNatClampNeg) dX11_findsSlips_67 rfl b2 rfl ?_
      refine AX.iload_n dX11_findsSlips_68 3 rfl rfl ?_
      obtain ⟨q8, hq8, hz⟩ := obind hz
      refine AX.callVw (r := 44) (As := [.int (σ.1 46 l4.toNatClampNeg), .int l3]) (rest := []) (w := none) (st' := []) dX11_findsSlips_69 mlRX11_196 ylX11_slipLoose yvX11_slipLoose rfl rfl rfl (Nat.le_of_ble_eq_true rfl) ⟨Nat.le_of_ble_eq_true rfl, Nat.le_of_ble_eq_true rfl⟩ (xX11_slipLoose (σ.1 46 l4.toNatClampNeg) l3 σ hq8) rfl ?_
      refine AX.goto (tgt := 197) dX11_findsSlips_72 rfl ?_
      exact AX.sub (ls' := [(0, .ref (G.2.2.1 44)), (1, .int l1), (2, .int l2), (3, .int l3), (4, .int l4)]) [0, 1, 2, 3, 4] rfl (wfX11_findsSlips_j197 l1 l2 l3 l4 q8 hz K hback hk)
noncomputable def fX11_findsSlips (p0 : Int32) (p1 : Int32) (p2 : Int32) (σ : St) : Option (St) :=
  (lpc (fun s => fX11_findsSlips_b3 p0 p1 p2 s.1 s.2) (0, σ)).bind fun r1 => (lpc (fun s => fX11_findsSlips_b43 p0 p1 p2 s.1 s.2) (0, (sL r1 44 25 1))).bind fun r2 => some r2
theorem wfX11_findsSlips {G : ag_G} (p0 : Int32) (p1 : Int32) (p2 : Int32) (σ : St) {z : St} (hz : fX11_findsSlips p0 p1 p2 σ = some z) {Q : Option Value → St → Prop} (hk : Q (none) z) : AX G mX11_findsSlips 2 53 0 [(0, .ref (G.2.2.1 44)), (1, .int p0), (2, .int p1), (3, .int p2)] [] σ Q := by
  unfold fX11_findsSlips at hz
  refine AX.iconst dX11_findsSlips_0 ic_0 ?_
  refine AX.istore (ls' := [(0, .ref (G.2.2.1 44)), (1, .int p0), (2, .int p1), (3, .int p2), (4, .int 0)]) dX11_findsSlips_1 (Nat.le_of_ble_eq_true rfl) rfl ?_
  obtain ⟨r1, hr1, hz⟩ := obind hz
  refine AX.sub (ls' := [(0, .ref (G.2.2.1 44)), (1, .int p0), (2, .int p1), (3, .int p2), (4, .int 0)]) [0, 1, 2, 3, 4] rfl ?_
  refine lpc_ind (s := (0, σ)) (r := r1) (fun s => AX G mX11_findsSlips 2 53 3 [(0, .ref (G.2.2.1 44)), (1, .int p0), (2, .int p1), (3, .int p2), (4, .int s.1)] [] s.2 Q) (fun a : St => AX G mX11_findsSlips 2 53 35 [(0, .ref (G.2.2.1 44)), (1, .int p0), (2, .int p1), (3, .int p2)] [] a Q) hr1 (fun s z hb hK => wfX11_findsSlips_b3 p0 p1 p2 s.1 s.2 hb (Sum.elim (fun s => AX G mX11_findsSlips 2 53 3 [(0, .ref (G.2.2.1 44)), (1, .int p0), (2, .int p1), (3, .int p2), (4, .int s.1)] [] s.2 Q) (fun a : St => AX G mX11_findsSlips 2 53 35 [(0, .ref (G.2.2.1 44)), (1, .int p0), (2, .int p1), (3, .int p2)] [] a Q)) (fun _ h9 => h9) (fun _ h9 => h9) hK) ?_
  refine AX.aload_n dX11_findsSlips_35 0 rfl rfl ?_
  refine AX.lconst dX11_findsSlips_36 lc_1 ?_
  refine AX.putJ dX11_findsSlips_37 fpRX11_193 rfl rfl ?_
  refine AX.iconst dX11_findsSlips_40 ic_0 ?_
  refine AX.istore (ls' := [(0, .ref (G.2.2.1 44)), (1, .int p0), (2, .int p1), (3, .int p2), (4, .int 0)]) dX11_findsSlips_41 (Nat.le_of_ble_eq_true rfl) rfl ?_
  obtain ⟨r2, hr2, hz⟩ := obind hz
  refine AX.sub (ls' := [(0, .ref (G.2.2.1 44)), (1, .int p0), (2, .int p1), (3, .int p2), (4, .int 0)]) [0, 1, 2, 3, 4] rfl ?_
  refine lpc_ind (s := (0, (sL r1 44 25 1))) (r := r2) (fun s => AX G mX11_findsSlips 2 53 43 [(0, .ref (G.2.2.1 44)), (1, .int p0), (2, .int p1), (3, .int p2), (4, .int s.1)] [] s.2 Q) (fun a : St => AX G mX11_findsSlips 2 53 203 [] [] a Q) hr2 (fun s z hb hK => wfX11_findsSlips_b43 p0 p1 p2 s.1 s.2 hb (Sum.elim (fun s => AX G mX11_findsSlips 2 53 43 [(0, .ref (G.2.2.1 44)), (1, .int p0), (2, .int p1), (3, .int p2), (4, .int s.1)] [] s.2 Q) (fun a : St => AX G mX11_findsSlips 2 53 203 [] [] a Q)) (fun _ h9 => h9) (fun _ h9 => h9) hK) ?_
  exact AX.vreturn dX11_findsSlips_203 rfl (kz (P := fun z => Q (none) z) hz hk)
theorem xX11_findsSlips {G : ag_G} (p0 : Int32) (p1 : Int32) (p2 : Int32) (σ : St) {z : St} (hz : fX11_findsSlips p0 p1 p2 σ = some z) : AC G yX11_findsSlips mX11_findsSlips 2 53 [.ref (G.2.2.1 44), .int p0, .int p1, .int p2] σ (fun v σ1 => v = none ∧ σ1 = z) := AC.of (plainFor_of_name (by decide)) rfl (Nat.le_of_ble_eq_true rfl) (wfX11_findsSlips p0 p1 p2 σ hz ⟨rfl, rfl⟩)
noncomputable def fX11_slipsOf (p0 : Int32) (p1 : Int32) (p2 : Int32) (σ : St) : Option (Int64 × St) :=
  (fX11_findsSlips p0 (0 : Int32) (-1 : Int32) σ).bind fun q1 => if inb (p1 + (10 : Int32)) 21 = true then (fX11_lowest (q1.2 60 ((p1 + (10 : Int32)).toNatClampNeg)) (q1.2 44 25) p2).bind fun q3 => some (q3, q1) else none
theorem wfX11_slipsOf {G : ag_G} (p0 : Int32) (p1 : Int32) (p2 : Int32) (σ : St) {z : Int64 × St} (hz : fX11_slipsOf p0 p1 p2 σ = some z) {Q : Option Value → St → Prop} (hk : Q (some (.long z.1)) z.2) : AX G mX11_slipsOf 3 78 0 [(0, .ref (G.2.2.1 44)), (1, .int p0), (2, .int p1), (3, .int p2)] [] σ Q := by
  unfold fX11_slipsOf at hz
  refine AX.aload_n dX11_slipsOf_0 0 rfl rfl ?_
  refine AX.iload_n dX11_slipsOf_1 1 rfl rfl ?_
  refine AX.iconst dX11_slipsOf_2 ic_0 ?_
  refine AX.iconst dX11_slipsOf_3 ic_m1 ?_
  obtain ⟨q1, hq1, hz⟩ := obind hz
  refine AX.callVw (r := 44) (As := [.int p0, .int 0, .int (-1)]) (rest := []) (w := none) (st' := []) dX11_slipsOf_4 mlRX11_206 ylX11_findsSlips yvX11_findsSlips rfl rfl rfl (Nat.le_of_ble_eq_true rfl) ⟨Nat.le_of_ble_eq_true rfl, Nat.le_of_ble_eq_true rfl⟩ (xX11_findsSlips p0 (0 : Int32) (-1 : Int32) σ hq1) rfl ?_
  refine AX.aload_n dX11_slipsOf_7 0 rfl rfl ?_
  refine AX.getR dX11_slipsOf_8 flRX11_56 rfl rfl ?_
  refine AX.iload_n dX11_slipsOf_11 2 rfl rfl ?_
  refine AX.bipush dX11_slipsOf_12 bp_10 ?_
  refine AX.iadd dX11_slipsOf_14 ?_
  obtain ⟨b2, hz⟩ := ite_n hz
  refine AX.laldE (v := q1.2 60 ((p1 + (10 : Int32)).toNatClampNeg)) dX11_slipsOf_15 rfl b2 rfl ?_
  refine AX.aload_n dX11_slipsOf_16 0 rfl rfl ?_
  refine AX.getJE (v := q1.2 44 25) dX11_slipsOf_17 flRX11_193 rfl rfl rfl ?_
  refine AX.iload_n dX11_slipsOf_20 3 rfl rfl ?_
  obtain ⟨q3, hq3, hz⟩ := obind hz
  refine AX.callSw (As := [.long (q1.2 60 ((p1 + (10 : Int32)).toNatClampNeg)), .long (q1.2 44 25), .int p2]) (rest := []) (w := some (.long q3)) (st' := [.long q3]) dX11_slipsOf_21 mlRX11_172 ylX11_lowest ysX11_lowest rfl rfl (Nat.le_of_ble_eq_true rfl) ⟨Nat.le_of_ble_eq_true rfl, Nat.le_of_ble_eq_true rfl⟩ (xX11_lowest (q1.2 60 ((p1 + (10 : Int32)).toNatClampNeg)) (q1.2 44 25) p2 q1 hq3) rfl ?_
  exact AX.lreturn dX11_slipsOf_24 rfl (kz (P := fun z => Q (some (.long z.1)) z.2) hz hk)
theorem xX11_slipsOf {G : ag_G} (p0 : Int32) (p1 : Int32) (p2 : Int32) (σ : St) {z : Int64 × St} (hz : fX11_slipsOf p0 p1 p2 σ = some z) : AC G yX11_slipsOf mX11_slipsOf 3 78 [.ref (G.2.2.1 44), .int p0, .int p1, .int p2] σ (fun v σ1 => v = some (.long z.1) ∧ σ1 = z.2) := AC.of (plainFor_of_name (by decide)) rfl (Nat.le_of_ble_eq_true rfl) (wfX11_slipsOf p0 p1 p2 σ hz ⟨rfl, rfl⟩)
noncomputable def fX11_slips_j38  (σ : St) : Option (Int64 × St) :=
  (fX11_no (-2 : Int32)).bind fun q1 => some (q1, σ)
theorem wfX11_slips_j38 {G : ag_G}  (σ : St) {z : Int64 × St} (hz : fX11_slips_j38  σ = some z) {Q : Option Value → St → Prop} (hk : Q (some (.long z.1)) z.2) : AX G mX11_slips 6 135 38 [] [] σ Q := by
  unfold fX11_slips_j38 at hz
  refine AX.bipush dX11_slips_38 bp_m2 ?_
  obtain ⟨q1, hq1, hz⟩ := obind hz
  refine AX.callSw (As := [.int (-2)]) (rest := []) (w := some (.long q1)) (st' := [.long q1]) dX11_slips_40 mlRX11_168 ylX11_no ysX11_no rfl rfl (Nat.le_of_ble_eq_true rfl) ⟨Nat.le_of_ble_eq_true rfl, Nat.le_of_ble_eq_true rfl⟩ (xX11_no (-2 : Int32) σ hq1) rfl ?_
  exact AX.lreturn dX11_slips_43 rfl (kz (P := fun z => Q (some (.long z.1)) z.2) hz hk)
noncomputable def fX11_slips (p0 : Int32) (p1 : Int32) (p2 : Int32) (σ : St) : Option (Int64 × St) :=
  (fX11_isBar p0 σ).bind fun q1 => if q1.1 = (0 : Int32) then fX11_slips_j38  q1.2 else (fX11_in p1 (-10 : Int32) (10 : Int32)).bind fun q3 => if q3 = (0 : Int32) then fX11_slips_j38  q1.2 else (fX11_in p2 (0 : Int32) (1 : Int32)).bind fun q5 => if q5 = (0 : Int32) then fX11_slips_j38  q1.2 else (fX11_slipsOf p0 p1 p2 q1.2).bind fun q7 => some (q7.1, q7.2)
theorem wfX11_slips {G : ag_G} (p0 : Int32) (p1 : Int32) (p2 : Int32) (σ : St) {z : Int64 × St} (hz : fX11_slips p0 p1 p2 σ = some z) {Q : Option Value → St → Prop} (hk : Q (some (.long z.1)) z.2) : AX G mX11_slips 6 135 0 [(0, .ref (G.2.2.1 44)), (1, .int p0), (2, .int p1), (3, .int p2)] [] σ Q := by
  unfold fX11_slips at hz
  refine AX.aload_n dX11_slips_0 0 rfl rfl ?_
  refine AX.iload_n dX11_slips_1 1 rfl rfl ?_
  obtain ⟨q1, hq1, hz⟩ := obind hz
  refine AX.callVw (r := 44) (As := [.int p0]) (rest := []) (w := some (.int q1.1)) (st' := [.int q1.1]) dX11_slips_2 mlRX11_124 ylX11_isBar yvX11_isBar rfl rfl rfl (Nat.le_of_ble_eq_true rfl) ⟨Nat.le_of_ble_eq_true rfl, Nat.le_of_ble_eq_true rfl⟩ (xX11_isBar p0 σ hq1) rfl ?_
  refine AX.if_eq (tgt := 38) dX11_slips_5 rfl (fun c2 => ?_) (fun c2 => ?_)
  · replace hz := (if_pos c2).symm.trans hz
    exact AX.sub (ls' := []) [] rfl (wfX11_slips_j38  q1.2 hz hk)
  · replace hz := (if_neg c2).symm.trans hz
    refine AX.iload_n dX11_slips_8 2 rfl rfl ?_
    refine AX.bipush dX11_slips_9 bp_m10 ?_
    refine AX.bipush dX11_slips_11 bp_10 ?_
    obtain ⟨q3, hq3, hz⟩ := obind hz
    refine AX.callSw (As := [.int p1, .int (-10), .int 10]) (rest := []) (w := some (.int q3)) (st' := [.int q3]) dX11_slips_13 mlRX11_89 ylX11_in ysX11_in rfl rfl (Nat.le_of_ble_eq_true rfl) ⟨Nat.le_of_ble_eq_true rfl, Nat.le_of_ble_eq_true rfl⟩ (xX11_in p1 (-10 : Int32) (10 : Int32) q1.2 hq3) rfl ?_
    refine AX.if_eq (tgt := 38) dX11_slips_16 rfl (fun c4 => ?_) (fun c4 => ?_)
    · replace hz := (if_pos c4).symm.trans hz
      exact AX.sub (ls' := []) [] rfl (wfX11_slips_j38  q1.2 hz hk)
    · replace hz := (if_neg c4).symm.trans hz
      refine AX.iload_n dX11_slips_19 3 rfl rfl ?_
      refine AX.iconst dX11_slips_20 ic_0 ?_
      refine AX.iconst dX11_slips_21 ic_1 ?_
      obtain ⟨q5, hq5, hz⟩ := obind hz
      refine AX.callSw (As := [.int p2, .int 0, .int 1]) (rest := []) (w := some (.int q5)) (st' := [.int q5]) dX11_slips_22 mlRX11_89 ylX11_in ysX11_in rfl rfl (Nat.le_of_ble_eq_true rfl) ⟨Nat.le_of_ble_eq_true rfl, Nat.le_of_ble_eq_true rfl⟩ (xX11_in p2 (0 : Int32) (1 : Int32) q1.2 hq5) rfl ?_
      refine AX.if_eq (tgt := 38) dX11_slips_25 rfl (fun c6 => ?_) (fun c6 => ?_)
      · replace hz := (if_pos c6).symm.trans hz
        exact AX.sub (ls' := []) [] rfl (wfX11_slips_j38  q1.2 hz hk)
      · replace hz := (if_neg c6).symm.trans hz
        refine AX.aload_n dX11_slips_28 0 rfl rfl ?_
        refine AX.iload_n dX11_slips_29 1 rfl rfl ?_
        refine AX.iload_n dX11_slips_30 2 rfl rfl ?_
        refine AX.iload_n dX11_slips_31 3 rfl rfl ?_
        obtain ⟨q7, hq7, hz⟩ := obind hz
        refine AX.callVw (r := 44) (As := [.int p0, .int p1, .int p2]) (rest := []) (w := some (.long q7.1)) (st' := [.long q7.1]) dX11_slips_32 mlRX11_210 ylX11_slipsOf yvX11_slipsOf rfl rfl rfl (Nat.le_of_ble_eq_true rfl) ⟨Nat.le_of_ble_eq_true rfl, Nat.le_of_ble_eq_true rfl⟩ (xX11_slipsOf p0 p1 p2 q1.2 hq7) rfl ?_
        refine AX.goto (tgt := 43) dX11_slips_35 rfl ?_
        exact AX.lreturn dX11_slips_43 rfl (kz (P := fun z => Q (some (.long z.1)) z.2) hz hk)
theorem xX11_slips {G : ag_G} (p0 : Int32) (p1 : Int32) (p2 : Int32) (σ : St) {z : Int64 × St} (hz : fX11_slips p0 p1 p2 σ = some z) : AC G yX11_slips mX11_slips 6 135 [.ref (G.2.2.1 44), .int p0, .int p1, .int p2] σ (fun v σ1 => v = some (.long z.1) ∧ σ1 = z.2) := AC.of (plainFor_of_name (by decide)) rfl (Nat.le_of_ble_eq_true rfl) (wfX11_slips p0 p1 p2 σ hz ⟨rfl, rfl⟩)
