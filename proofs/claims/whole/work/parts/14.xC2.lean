noncomputable def fX11_isSome (p0 : Int32) (σ : St) : Option (Int32 × St) :=
  (fX11_reads  σ).bind fun q1 => (fX11_in p0 (0 : Int32) (63 : Int32)).bind fun q2 => if q2 = (0 : Int32) then some ((0 : Int32), q1) else (fX11_ones (p0 &&& (((1 : Int32) <<< ((q1.1 44 7) &&& 31)) - (1 : Int32)))).bind fun q4 => if (4 : Int32) ≤ q4 then some ((0 : Int32), q1) else some ((1 : Int32), q1)
theorem wfX11_isSome {G : ag_G} (p0 : Int32) (σ : St) {z : Int32 × St} (hz : fX11_isSome p0 σ = some z) {Q : Option Value → St → Prop} (hk : Q (some (.int z.1)) z.2) : AX G mX11_isSome 5 114 0 [(0, .ref (G.2.2.1 44)), (1, .int p0)] [] σ Q := by
  unfold fX11_isSome at hz
  refine AX.aload_n dX11_isSome_0 0 rfl rfl ?_
  obtain ⟨q1, hq1, hz⟩ := obind hz
  refine AX.callVw (r := 44) (As := []) (rest := []) (w := none) (st' := []) dX11_isSome_1 mlRX11_121 ylX11_reads yvX11_reads rfl rfl rfl (Nat.le_of_ble_eq_true rfl) ⟨Nat.le_of_ble_eq_true rfl, Nat.le_of_ble_eq_true rfl⟩ (xX11_reads  σ hq1) rfl ?_
  refine AX.iload_n dX11_isSome_4 1 rfl rfl ?_
  refine AX.iconst dX11_isSome_5 ic_0 ?_
  refine AX.bipush dX11_isSome_6 bp_63 ?_
  obtain ⟨q2, hq2, hz⟩ := obind hz
  refine AX.callSw (As := [.int p0, .int 0, .int 63]) (rest := []) (w := some (.int q2)) (st' := [.int q2]) dX11_isSome_8 mlRX11_89 ylX11_in ysX11_in rfl rfl (Nat.le_of_ble_eq_true rfl) ⟨Nat.le_of_ble_eq_true rfl, Nat.le_of_ble_eq_true rfl⟩ (xX11_in p0 (0 : Int32) (63 : Int32) q1 hq2) rfl ?_
  refine AX.if_eq (tgt := 35) dX11_isSome_11 rfl (fun c3 => ?_) (fun c3 => ?_)
  · replace hz := (if_pos c3).symm.trans hz
    refine AX.iconst dX11_isSome_35 ic_0 ?_
    exact AX.ireturn dX11_isSome_36 rfl nb_0 (kz (P := fun z => Q (some (.int z.1)) z.2) hz hk)
  · replace hz := (if_neg c3).symm.trans hz
    refine AX.iload_n dX11_isSome_14 1 rfl rfl ?_
    refine AX.iconst dX11_isSome_15 ic_1 ?_
    refine AX.aload_n dX11_isSome_16 0 rfl rfl ?_
    refine AX.getIE (v := q1.1 44 7) dX11_isSome_17 flRX11_100 rfl rfl rfl ?_
    refine AX.ishl dX11_isSome_20 ?_
    refine AX.iconst dX11_isSome_21 ic_1 ?_
    refine AX.isub dX11_isSome_22 ?_
    refine AX.iand dX11_isSome_23 ?_
    obtain ⟨q4, hq4, hz⟩ := obind hz
    refine AX.callSw (As := [.int (p0 &&& (((1 : Int32) <<< ((q1.1 44 7) &&& 31)) - (1 : Int32)))]) (rest := []) (w := some (.int q4)) (st' := [.int q4]) dX11_isSome_24 mlRX11_213 ylX11_ones ysX11_ones rfl rfl (Nat.le_of_ble_eq_true rfl) ⟨Nat.le_of_ble_eq_true rfl, Nat.le_of_ble_eq_true rfl⟩ (xX11_ones (p0 &&& (((1 : Int32) <<< ((q1.1 44 7) &&& 31)) - (1 : Int32))) q1 hq4) rfl ?_
    refine AX.iconst dX11_isSome_27 ic_4 ?_
    refine AX.icmp_ge (tgt := 35) dX11_isSome_28 rfl (fun c5 => ?_) (fun c5 => ?_)
    · replace hz := (if_pos c5).symm.trans hz
      refine AX.iconst dX11_isSome_35 ic_0 ?_
      exact AX.ireturn dX11_isSome_36 rfl nb_0 (kz (P := fun z => Q (some (.int z.1)) z.2) hz hk)
    · replace hz := (if_neg c5).symm.trans hz
      refine AX.iconst dX11_isSome_31 ic_1 ?_
      refine AX.goto (tgt := 36) dX11_isSome_32 rfl ?_
      exact AX.ireturn dX11_isSome_36 rfl nb_1 (kz (P := fun z => Q (some (.int z.1)) z.2) hz hk)
theorem xX11_isSome {G : ag_G} (p0 : Int32) (σ : St) {z : Int32 × St} (hz : fX11_isSome p0 σ = some z) : AC G yX11_isSome mX11_isSome 5 114 [.ref (G.2.2.1 44), .int p0] σ (fun v σ1 => v = some (.int z.1) ∧ σ1 = z.2) := AC.of (plainFor_of_name (by decide)) rfl (Nat.le_of_ble_eq_true rfl) (wfX11_isSome p0 σ hz ⟨rfl, rfl⟩)
noncomputable def fX11_safeBy (p0 : Int32) (σ : St) : Option (Int64 × St) :=
  (fX11_findsSlips ((σ.1 44 2) - (1 : Int32)) p0 (-1 : Int32) σ).bind fun q1 => some ((q1.2 60 10), q1)
theorem wfX11_safeBy {G : ag_G} (p0 : Int32) (σ : St) {z : Int64 × St} (hz : fX11_safeBy p0 σ = some z) {Q : Option Value → St → Prop} (hk : Q (some (.long z.1)) z.2) : AX G mX11_safeBy 3 78 0 [(0, .ref (G.2.2.1 44)), (1, .int p0)] [] σ Q := by
  unfold fX11_safeBy at hz
  refine AX.aload_n dX11_safeBy_0 0 rfl rfl ?_
  refine AX.aload_n dX11_safeBy_1 0 rfl rfl ?_
  refine AX.getIE (v := σ.1 44 2) dX11_safeBy_2 flRX11_97 rfl rfl rfl ?_
  refine AX.iconst dX11_safeBy_5 ic_1 ?_
  refine AX.isub dX11_safeBy_6 ?_
  refine AX.iload_n dX11_safeBy_7 1 rfl rfl ?_
  refine AX.iconst dX11_safeBy_8 ic_m1 ?_
  obtain ⟨q1, hq1, hz⟩ := obind hz
  refine AX.callVw (r := 44) (As := [.int ((σ.1 44 2) - (1 : Int32)), .int p0, .int (-1)]) (rest := []) (w := none) (st' := []) dX11_safeBy_9 mlRX11_206 ylX11_findsSlips yvX11_findsSlips rfl rfl rfl (Nat.le_of_ble_eq_true rfl) ⟨Nat.le_of_ble_eq_true rfl, Nat.le_of_ble_eq_true rfl⟩ (xX11_findsSlips ((σ.1 44 2) - (1 : Int32)) p0 (-1 : Int32) σ hq1) rfl ?_
  refine AX.aload_n dX11_safeBy_12 0 rfl rfl ?_
  refine AX.getR dX11_safeBy_13 flRX11_56 rfl rfl ?_
  refine AX.bipush dX11_safeBy_16 bp_10 ?_
  refine AX.laldE (v := q1.2 60 10) dX11_safeBy_18 rfl rfl rfl ?_
  exact AX.lreturn dX11_safeBy_19 rfl (kz (P := fun z => Q (some (.long z.1)) z.2) hz hk)
theorem xX11_safeBy {G : ag_G} (p0 : Int32) (σ : St) {z : Int64 × St} (hz : fX11_safeBy p0 σ = some z) : AC G yX11_safeBy mX11_safeBy 3 78 [.ref (G.2.2.1 44), .int p0] σ (fun v σ1 => v = some (.long z.1) ∧ σ1 = z.2) := AC.of (plainFor_of_name (by decide)) rfl (Nat.le_of_ble_eq_true rfl) (wfX11_safeBy p0 σ hz ⟨rfl, rfl⟩)
noncomputable def fX11_safeOf (p0 : Int32) (p1 : Int32) (σ : St) : Option (Int64 × St) :=
  if (σ.1 44 2) = (0 : Int32) then (fX11_no (-3 : Int32)).bind fun q4 => some (q4, σ) else (fX11_safeBy p0 σ).bind fun q2 => (fX11_lowest q2.1 (q2.2.2 44 25) p1).bind fun q3 => some (q3, q2.2)
theorem wfX11_safeOf {G : ag_G} (p0 : Int32) (p1 : Int32) (σ : St) {z : Int64 × St} (hz : fX11_safeOf p0 p1 σ = some z) {Q : Option Value → St → Prop} (hk : Q (some (.long z.1)) z.2) : AX G mX11_safeOf 4 99 0 [(0, .ref (G.2.2.1 44)), (1, .int p0), (2, .int p1)] [] σ Q := by
  unfold fX11_safeOf at hz
  refine AX.aload_n dX11_safeOf_0 0 rfl rfl ?_
  refine AX.getIE (v := σ.1 44 2) dX11_safeOf_1 flRX11_97 rfl rfl rfl ?_
  refine AX.if_ne (tgt := 13) dX11_safeOf_4 rfl (fun c1 => ?_) (fun c1 => ?_)
  · replace hz := (if_neg c1).symm.trans hz
    refine AX.aload_n dX11_safeOf_13 0 rfl rfl ?_
    refine AX.iload_n dX11_safeOf_14 1 rfl rfl ?_
    obtain ⟨q2, hq2, hz⟩ := obind hz
    refine AX.callVw (r := 44) (As := [.int p0]) (rest := []) (w := some (.long q2.1)) (st' := [.long q2.1]) dX11_safeOf_15 mlRX11_216 ylX11_safeBy yvX11_safeBy rfl rfl rfl (Nat.le_of_ble_eq_true rfl) ⟨Nat.le_of_ble_eq_true rfl, Nat.le_of_ble_eq_true rfl⟩ (xX11_safeBy p0 σ hq2) rfl ?_
    refine AX.lstore_n (ls' := [(0, .ref (G.2.2.1 44)), (1, .int p0), (2, .int p1), (3, .long q2.1)]) dX11_safeOf_18 rfl (Nat.le_of_ble_eq_true rfl) rfl ?_
    refine AX.lload_n dX11_safeOf_19 3 rfl rfl ?_
    refine AX.aload_n dX11_safeOf_20 0 rfl rfl ?_
    refine AX.getJE (v := q2.2.2 44 25) dX11_safeOf_21 flRX11_193 rfl rfl rfl ?_
    refine AX.iload_n dX11_safeOf_24 2 rfl rfl ?_
    obtain ⟨q3, hq3, hz⟩ := obind hz
    refine AX.callSw (As := [.long q2.1, .long (q2.2.2 44 25), .int p1]) (rest := []) (w := some (.long q3)) (st' := [.long q3]) dX11_safeOf_25 mlRX11_172 ylX11_lowest ysX11_lowest rfl rfl (Nat.le_of_ble_eq_true rfl) ⟨Nat.le_of_ble_eq_true rfl, Nat.le_of_ble_eq_true rfl⟩ (xX11_lowest q2.1 (q2.2.2 44 25) p1 q2.2 hq3) rfl ?_
    exact AX.lreturn dX11_safeOf_28 rfl (kz (P := fun z => Q (some (.long z.1)) z.2) hz hk)
  · replace hz := (if_pos c1).symm.trans hz
    refine AX.bipush dX11_safeOf_7 bp_m3 ?_
    obtain ⟨q4, hq4, hz⟩ := obind hz
    refine AX.callSw (As := [.int (-3)]) (rest := []) (w := some (.long q4)) (st' := [.long q4]) dX11_safeOf_9 mlRX11_168 ylX11_no ysX11_no rfl rfl (Nat.le_of_ble_eq_true rfl) ⟨Nat.le_of_ble_eq_true rfl, Nat.le_of_ble_eq_true rfl⟩ (xX11_no (-3 : Int32) σ hq4) rfl ?_
    exact AX.lreturn dX11_safeOf_12 rfl (kz (P := fun z => Q (some (.long z.1)) z.2) hz hk)
theorem xX11_safeOf {G : ag_G} (p0 : Int32) (p1 : Int32) (σ : St) {z : Int64 × St} (hz : fX11_safeOf p0 p1 σ = some z) : AC G yX11_safeOf mX11_safeOf 4 99 [.ref (G.2.2.1 44), .int p0, .int p1] σ (fun v σ1 => v = some (.long z.1) ∧ σ1 = z.2) := AC.of (plainFor_of_name (by decide)) rfl (Nat.le_of_ble_eq_true rfl) (wfX11_safeOf p0 p1 σ hz ⟨rfl, rfl⟩)
noncomputable def fX11_safe_j26  (σ : St) : Option (Int64 × St) :=
  (fX11_no (-2 : Int32)).bind fun q1 => some (q1, σ)
theorem wfX11_safe_j26 {G : ag_G}  (σ : St) {z : Int64 × St} (hz : fX11_safe_j26  σ = some z) {Q : Option Value → St → Prop} (hk : Q (some (.long z.1)) z.2) : AX G mX11_safe 6 135 26 [] [] σ Q := by
  unfold fX11_safe_j26 at hz
  refine AX.bipush dX11_safe_26 bp_m2 ?_
  obtain ⟨q1, hq1, hz⟩ := obind hz
  refine AX.callSw (As := [.int (-2)]) (rest := []) (w := some (.long q1)) (st' := [.long q1]) dX11_safe_28 mlRX11_168 ylX11_no ysX11_no rfl rfl (Nat.le_of_ble_eq_true rfl) ⟨Nat.le_of_ble_eq_true rfl, Nat.le_of_ble_eq_true rfl⟩ (xX11_no (-2 : Int32) σ hq1) rfl ?_
  exact AX.lreturn dX11_safe_31 rfl (kz (P := fun z => Q (some (.long z.1)) z.2) hz hk)
noncomputable def fX11_safe (p0 : Int32) (p1 : Int32) (σ : St) : Option (Int64 × St) :=
  (fX11_isSome p0 σ).bind fun q1 => if q1.1 = (0 : Int32) then fX11_safe_j26  q1.2 else (fX11_in p1 (0 : Int32) (1 : Int32)).bind fun q3 => if q3 = (0 : Int32) then fX11_safe_j26  q1.2 else (fX11_safeOf p0 p1 q1.2).bind fun q5 => some (q5.1, q5.2)
theorem wfX11_safe {G : ag_G} (p0 : Int32) (p1 : Int32) (σ : St) {z : Int64 × St} (hz : fX11_safe p0 p1 σ = some z) {Q : Option Value → St → Prop} (hk : Q (some (.long z.1)) z.2) : AX G mX11_safe 6 135 0 [(0, .ref (G.2.2.1 44)), (1, .int p0), (2, .int p1)] [] σ Q := by
  unfold fX11_safe at hz
  refine AX.aload_n dX11_safe_0 0 rfl rfl ?_
  refine AX.iload_n dX11_safe_1 1 rfl rfl ?_
  obtain ⟨q1, hq1, hz⟩ := obind hz
  refine AX.callVw (r := 44) (As := [.int p0]) (rest := []) (w := some (.int q1.1)) (st' := [.int q1.1]) dX11_safe_2 mlRX11_219 ylX11_isSome yvX11_isSome rfl rfl rfl (Nat.le_of_ble_eq_true rfl) ⟨Nat.le_of_ble_eq_true rfl, Nat.le_of_ble_eq_true rfl⟩ (xX11_isSome p0 σ hq1) rfl ?_
  refine AX.if_eq (tgt := 26) dX11_safe_5 rfl (fun c2 => ?_) (fun c2 => ?_)
  · replace hz := (if_pos c2).symm.trans hz
    exact AX.sub (ls' := []) [] rfl (wfX11_safe_j26  q1.2 hz hk)
  · replace hz := (if_neg c2).symm.trans hz
    refine AX.iload_n dX11_safe_8 2 rfl rfl ?_
    refine AX.iconst dX11_safe_9 ic_0 ?_
    refine AX.iconst dX11_safe_10 ic_1 ?_
    obtain ⟨q3, hq3, hz⟩ := obind hz
    refine AX.callSw (As := [.int p1, .int 0, .int 1]) (rest := []) (w := some (.int q3)) (st' := [.int q3]) dX11_safe_11 mlRX11_89 ylX11_in ysX11_in rfl rfl (Nat.le_of_ble_eq_true rfl) ⟨Nat.le_of_ble_eq_true rfl, Nat.le_of_ble_eq_true rfl⟩ (xX11_in p1 (0 : Int32) (1 : Int32) q1.2 hq3) rfl ?_
    refine AX.if_eq (tgt := 26) dX11_safe_14 rfl (fun c4 => ?_) (fun c4 => ?_)
    · replace hz := (if_pos c4).symm.trans hz
      exact AX.sub (ls' := []) [] rfl (wfX11_safe_j26  q1.2 hz hk)
    · replace hz := (if_neg c4).symm.trans hz
      refine AX.aload_n dX11_safe_17 0 rfl rfl ?_
      refine AX.iload_n dX11_safe_18 1 rfl rfl ?_
      refine AX.iload_n dX11_safe_19 2 rfl rfl ?_
      obtain ⟨q5, hq5, hz⟩ := obind hz
      refine AX.callVw (r := 44) (As := [.int p0, .int p1]) (rest := []) (w := some (.long q5.1)) (st' := [.long q5.1]) dX11_safe_20 mlRX11_222 ylX11_safeOf yvX11_safeOf rfl rfl rfl (Nat.le_of_ble_eq_true rfl) ⟨Nat.le_of_ble_eq_true rfl, Nat.le_of_ble_eq_true rfl⟩ (xX11_safeOf p0 p1 q1.2 hq5) rfl ?_
      refine AX.goto (tgt := 31) dX11_safe_23 rfl ?_
      exact AX.lreturn dX11_safe_31 rfl (kz (P := fun z => Q (some (.long z.1)) z.2) hz hk)
theorem xX11_safe {G : ag_G} (p0 : Int32) (p1 : Int32) (σ : St) {z : Int64 × St} (hz : fX11_safe p0 p1 σ = some z) : AC G yX11_safe mX11_safe 6 135 [.ref (G.2.2.1 44), .int p0, .int p1] σ (fun v σ1 => v = some (.long z.1) ∧ σ1 = z.2) := AC.of (plainFor_of_name (by decide)) rfl (Nat.le_of_ble_eq_true rfl) (wfX11_safe p0 p1 σ hz ⟨rfl, rfl⟩)
noncomputable def fX11_writeOf_j89 (l1 : Int32) (l2 : Int32) (l5 : Int32) (t0 : Int64) (σ : St) : Option ((Int32 × Int64 × Int32 × St) ⊕ (Int32 × St)) :=
  some (.inl (l2, t0, l5 + 1, σ))
theorem wfX11_writeOf_j89 {G : ag_G} (l1 : Int32) (l2 : Int32) (l5 : Int32) (t0 : Int64) (σ : St) {z : (Int32 × Int64 × Int32 × St) ⊕ (Int32 × St)} (hz : fX11_writeOf_j89 l1 l2 l5 t0 σ = some z) {Q : Option Value → St → Prop} (K : ((Int32 × Int64 × Int32 × St) ⊕ (Int32 × St)) → Prop) (hback : ∀ a : Int32 × Int64 × Int32 × St, K (.inl a) → AX G mX11_writeOf 4 99 17 [(0, .ref (G.2.2.1 44)), (1, .int l1), (2, .int a.1), (3, .long a.2.1), (5, .int a.2.2.1)] [] a.2.2.2 Q) (hk : K z) : AX G mX11_writeOf 4 99 89 [(0, .ref (G.2.2.1 44)), (1, .int l1), (2, .int l2), (5, .int l5)] [.long t0] σ Q := by
  unfold fX11_writeOf_j89 at hz
  refine AX.lstore_n (ls' := [(0, .ref (G.2.2.1 44)), (1, .int l1), (2, .int l2), (3, .long t0), (5, .int l5)]) dX11_writeOf_89 rfl (Nat.le_of_ble_eq_true rfl) rfl ?_
  refine AX.iinc (v := l5 + 1) (ls' := [(0, .ref (G.2.2.1 44)), (1, .int l1), (2, .int l2), (3, .long t0), (5, .int (l5 + 1))]) 4 dX11_writeOf_90 rfl (Nat.le_of_ble_eq_true rfl) (congrArg (l5 + ·) ic_1) rfl ?_
  refine AX.goto (tgt := 17) dX11_writeOf_93 rfl ?_
  exact AX.sub (ls' := [(0, .ref (G.2.2.1 44)), (1, .int l1), (2, .int l2), (3, .long t0), (5, .int (l5 + 1))]) [0, 1, 2, 3, 4] rfl (hback (l2, t0, l5 + 1, σ) (kz (P := K) hz hk))
noncomputable def fX11_writeOf_j76 (l1 : Int32) (l3 : Int64) (l5 : Int32) (l6 : Int64) (t0 : Int32) (σ : St) : Option ((Int32 × Int64 × Int32 × St) ⊕ (Int32 × St)) :=
  if t0 = l5 then fX11_writeOf_j89 l1 t0 l5 l6 σ else fX11_writeOf_j89 l1 t0 l5 l3 σ
theorem wfX11_writeOf_j76 {G : ag_G} (l1 : Int32) (l3 : Int64) (l5 : Int32) (l6 : Int64) (t0 : Int32) (σ : St) {z : (Int32 × Int64 × Int32 × St) ⊕ (Int32 × St)} (hz : fX11_writeOf_j76 l1 l3 l5 l6 t0 σ = some z) {Q : Option Value → St → Prop} (K : ((Int32 × Int64 × Int32 × St) ⊕ (Int32 × St)) → Prop) (hback : ∀ a : Int32 × Int64 × Int32 × St, K (.inl a) → AX G mX11_writeOf 4 99 17 [(0, .ref (G.2.2.1 44)), (1, .int l1), (2, .int a.1), (3, .long a.2.1), (5, .int a.2.2.1)] [] a.2.2.2 Q) (hk : K z) : AX G mX11_writeOf 4 99 76 [(0, .ref (G.2.2.1 44)), (1, .int l1), (3, .long l3), (5, .int l5), (6, .long l6)] [.int t0] σ Q := by
  unfold fX11_writeOf_j76 at hz
  refine AX.istore_n (ls' := [(0, .ref (G.2.2.1 44)), (1, .int l1), (2, .int t0), (3, .long l3), (5, .int l5), (6, .long l6)]) dX11_writeOf_76 rfl (Nat.le_of_ble_eq_true rfl) rfl ?_
  refine AX.iload_n dX11_writeOf_77 2 rfl rfl ?_
  refine AX.iload dX11_writeOf_78 4 rfl ?_
  refine AX.icmp_ne (tgt := 88) dX11_writeOf_80 rfl (fun c1 => ?_) (fun c1 => ?_)
  · replace hz := (if_neg c1).symm.trans hz
    refine AX.lload_n dX11_writeOf_88 3 rfl rfl ?_
    exact AX.sub (ls' := [(0, .ref (G.2.2.1 44)), (1, .int l1), (2, .int t0), (5, .int l5)]) [0, 1, 2, 4] rfl (wfX11_writeOf_j89 l1 t0 l5 l3 σ hz K hback hk)
  · replace hz := (if_pos c1).symm.trans hz
    refine AX.lload dX11_writeOf_83 5 rfl ?_
    refine AX.goto (tgt := 89) dX11_writeOf_85 rfl ?_
    exact AX.sub (ls' := [(0, .ref (G.2.2.1 44)), (1, .int l1), (2, .int t0), (5, .int l5)]) [0, 1, 2, 4] rfl (wfX11_writeOf_j89 l1 t0 l5 l6 σ hz K hback hk)
noncomputable def fX11_writeOf_j75 (l1 : Int32) (l2 : Int32) (l3 : Int64) (l5 : Int32) (l6 : Int64) (σ : St) : Option ((Int32 × Int64 × Int32 × St) ⊕ (Int32 × St)) :=
  fX11_writeOf_j76 l1 l3 l5 l6 l2 σ
theorem wfX11_writeOf_j75 {G : ag_G} (l1 : Int32) (l2 : Int32) (l3 : Int64) (l5 : Int32) (l6 : Int64) (σ : St) {z : (Int32 × Int64 × Int32 × St) ⊕ (Int32 × St)} (hz : fX11_writeOf_j75 l1 l2 l3 l5 l6 σ = some z) {Q : Option Value → St → Prop} (K : ((Int32 × Int64 × Int32 × St) ⊕ (Int32 × St)) → Prop) (hback : ∀ a : Int32 × Int64 × Int32 × St, K (.inl a) → AX G mX11_writeOf 4 99 17 [(0, .ref (G.2.2.1 44)), (1, .int l1), (2, .int a.1), (3, .long a.2.1), (5, .int a.2.2.1)] [] a.2.2.2 Q) (hk : K z) : AX G mX11_writeOf 4 99 75 [(0, .ref (G.2.2.1 44)), (1, .int l1), (2, .int l2), (3, .long l3), (5, .int l5), (6, .long l6)] [] σ Q := by
  unfold fX11_writeOf_j75 at hz
  refine AX.iload_n dX11_writeOf_75 2 rfl rfl ?_
  exact AX.sub (ls' := [(0, .ref (G.2.2.1 44)), (1, .int l1), (3, .long l3), (5, .int l5), (6, .long l6)]) [0, 1, 3, 4, 5] rfl (wfX11_writeOf_j76 l1 l3 l5 l6 l2 σ hz K hback hk)
noncomputable def fX11_writeOf_j70 (l1 : Int32) (l3 : Int64) (l5 : Int32) (l6 : Int64) (σ : St) : Option ((Int32 × Int64 × Int32 × St) ⊕ (Int32 × St)) :=
  fX11_writeOf_j76 l1 l3 l5 l6 l5 σ
theorem wfX11_writeOf_j70 {G : ag_G} (l1 : Int32) (l3 : Int64) (l5 : Int32) (l6 : Int64) (σ : St) {z : (Int32 × Int64 × Int32 × St) ⊕ (Int32 × St)} (hz : fX11_writeOf_j70 l1 l3 l5 l6 σ = some z) {Q : Option Value → St → Prop} (K : ((Int32 × Int64 × Int32 × St) ⊕ (Int32 × St)) → Prop) (hback : ∀ a : Int32 × Int64 × Int32 × St, K (.inl a) → AX G mX11_writeOf 4 99 17 [(0, .ref (G.2.2.1 44)), (1, .int l1), (2, .int a.1), (3, .long a.2.1), (5, .int a.2.2.1)] [] a.2.2.2 Q) (hk : K z) : AX G mX11_writeOf 4 99 70 [(0, .ref (G.2.2.1 44)), (1, .int l1), (3, .long l3), (5, .int l5), (6, .long l6)] [] σ Q := by
  unfold fX11_writeOf_j70 at hz
  refine AX.iload dX11_writeOf_70 3 rfl ?_
  refine AX.goto (tgt := 76) dX11_writeOf_72 rfl ?_
  exact AX.sub (ls' := [(0, .ref (G.2.2.1 44)), (1, .int l1), (3, .long l3), (5, .int l5), (6, .long l6)]) [0, 1, 2, 3, 4] rfl (wfX11_writeOf_j76 l1 l3 l5 l6 l5 σ hz K hback hk)
noncomputable def fX11_writeOf_j49 (l1 : Int32) (l2 : Int32) (l3 : Int64) (l5 : Int32) (t0 : Int64) (σ : St) : Option ((Int32 × Int64 × Int32 × St) ⊕ (Int32 × St)) :=
  if t0 < (0 : Int64) then fX11_writeOf_j75 l1 l2 l3 l5 t0 σ else if l2 = (-1 : Int32) then fX11_writeOf_j70 l1 l3 l5 t0 σ else if t0 ≤ l3 then fX11_writeOf_j75 l1 l2 l3 l5 t0 σ else fX11_writeOf_j70 l1 l3 l5 t0 σ
theorem wfX11_writeOf_j49 {G : ag_G} (l1 : Int32) (l2 : Int32) (l3 : Int64) (l5 : Int32) (t0 : Int64) (σ : St) {z : (Int32 × Int64 × Int32 × St) ⊕ (Int32 × St)} (hz : fX11_writeOf_j49 l1 l2 l3 l5 t0 σ = some z) {Q : Option Value → St → Prop} (K : ((Int32 × Int64 × Int32 × St) ⊕ (Int32 × St)) → Prop) (hback : ∀ a : Int32 × Int64 × Int32 × St, K (.inl a) → AX G mX11_writeOf 4 99 17 [(0, .ref (G.2.2.1 44)), (1, .int l1), (2, .int a.1), (3, .long a.2.1), (5, .int a.2.2.1)] [] a.2.2.2 Q) (hk : K z) : AX G mX11_writeOf 4 99 49 [(0, .ref (G.2.2.1 44)), (1, .int l1), (2, .int l2), (3, .long l3), (5, .int l5)] [.long t0] σ Q := by
  unfold fX11_writeOf_j49 at hz
  refine AX.lstore (ls' := [(0, .ref (G.2.2.1 44)), (1, .int l1), (2, .int l2), (3, .long l3), (5, .int l5), (6, .long t0)]) dX11_writeOf_49 (Nat.le_of_ble_eq_true rfl) rfl ?_
  refine AX.lload dX11_writeOf_51 5 rfl ?_
  refine AX.lconst dX11_writeOf_53 lc_0 ?_
  refine AX.lcmp_lt (tgt := 75) dX11_writeOf_54 dX11_writeOf_55 rfl (fun c1 => ?_) (fun c1 => ?_)
  · replace hz := (if_pos c1).symm.trans hz
    exact AX.sub (ls' := [(0, .ref (G.2.2.1 44)), (1, .int l1), (2, .int l2), (3, .long l3), (5, .int l5), (6, .long t0)]) [0, 1, 2, 3, 4, 5] rfl (wfX11_writeOf_j75 l1 l2 l3 l5 t0 σ hz K hback hk)
  · replace hz := (if_neg c1).symm.trans hz
    refine AX.iload_n dX11_writeOf_58 2 rfl rfl ?_
    refine AX.iconst dX11_writeOf_59 ic_m1 ?_
    refine AX.icmp_eq (tgt := 70) dX11_writeOf_60 rfl (fun c2 => ?_) (fun c2 => ?_)
    · replace hz := (if_pos c2).symm.trans hz
      exact AX.sub (ls' := [(0, .ref (G.2.2.1 44)), (1, .int l1), (3, .long l3), (5, .int l5), (6, .long t0)]) [0, 1, 3, 4, 5] rfl (wfX11_writeOf_j70 l1 l3 l5 t0 σ hz K hback hk)
    · replace hz := (if_neg c2).symm.trans hz
      refine AX.lload dX11_writeOf_63 5 rfl ?_
      refine AX.lload_n dX11_writeOf_65 3 rfl rfl ?_
      refine AX.lcmp_le (tgt := 75) dX11_writeOf_66 dX11_writeOf_67 rfl (fun c3 => ?_) (fun c3 => ?_)
      · replace hz := (if_pos c3).symm.trans hz
        exact AX.sub (ls' := [(0, .ref (G.2.2.1 44)), (1, .int l1), (2, .int l2), (3, .long l3), (5, .int l5), (6, .long t0)]) [0, 1, 2, 3, 4, 5] rfl (wfX11_writeOf_j75 l1 l2 l3 l5 t0 σ hz K hback hk)
      · replace hz := (if_neg c3).symm.trans hz
        exact AX.sub (ls' := [(0, .ref (G.2.2.1 44)), (1, .int l1), (3, .long l3), (5, .int l5), (6, .long t0)]) [0, 1, 3, 4, 5] rfl (wfX11_writeOf_j70 l1 l3 l5 t0 σ hz K hback hk)
noncomputable def fX11_writeOf_b17 (l1 : Int32) (l2 : Int32) (l3 : Int64) (l5 : Int32) (σ : St) : Option ((Int32 × Int64 × Int32 × St) ⊕ (Int32 × St)) :=
  if ((1 : Int32) <<< ((σ.1 44 7) &&& 31)) ≤ l5 then some (.inr (l2, σ)) else (fX11_ones l5).bind fun q2 => if q2 = l1 then (fX11_safeBy l5 σ).bind fun q4 => fX11_writeOf_j49 l1 l2 l3 l5 q4.1 q4.2 else fX11_writeOf_j49 l1 l2 l3 l5 (-1) σ
theorem wfX11_writeOf_b17 {G : ag_G} (l1 : Int32) (l2 : Int32) (l3 : Int64) (l5 : Int32) (σ : St) {z : (Int32 × Int64 × Int32 × St) ⊕ (Int32 × St)} (hz : fX11_writeOf_b17 l1 l2 l3 l5 σ = some z) {Q : Option Value → St → Prop} (K : ((Int32 × Int64 × Int32 × St) ⊕ (Int32 × St)) → Prop) (hback : ∀ a : Int32 × Int64 × Int32 × St, K (.inl a) → AX G mX11_writeOf 4 99 17 [(0, .ref (G.2.2.1 44)), (1, .int l1), (2, .int a.1), (3, .long a.2.1), (5, .int a.2.2.1)] [] a.2.2.2 Q) (hexit0 : ∀ a : Int32 × St, K (.inr a) → AX G mX11_writeOf 4 99 96 [(2, .int a.1)] [] a.2 Q) (hk : K z) : AX G mX11_writeOf 4 99 17 [(0, .ref (G.2.2.1 44)), (1, .int l1), (2, .int l2), (3, .long l3), (5, .int l5)] [] σ Q := by
  unfold fX11_writeOf_b17 at hz
  refine AX.iload dX11_writeOf_17 4 rfl ?_
  refine AX.iconst dX11_writeOf_19 ic_1 ?_
  refine AX.aload_n dX11_writeOf_20 0 rfl rfl ?_
  refine AX.getIE (v := σ.1 44 7) dX11_writeOf_21 flRX11_100 rfl rfl rfl ?_
  refine AX.ishl dX11_writeOf_24 ?_
  refine AX.icmp_ge (tgt := 96) dX11_writeOf_25 rfl (fun c1 => ?_) (fun c1 => ?_)
  · replace hz := (if_pos c1).symm.trans hz
    exact AX.sub (ls' := [(2, .int l2)]) [2] rfl (hexit0 (l2, σ) (kz (P := K) hz hk))
  · replace hz := (if_neg c1).symm.trans hz
    refine AX.iload dX11_writeOf_28 4 rfl ?_
    obtain ⟨q2, hq2, hz⟩ := obind hz
    refine AX.callSw (As := [.int l5]) (rest := []) (w := some (.int q2)) (st' := [.int q2]) dX11_writeOf_30 mlRX11_213 ylX11_ones ysX11_ones rfl rfl (Nat.le_of_ble_eq_true rfl) ⟨Nat.le_of_ble_eq_true rfl, Nat.le_of_ble_eq_true rfl⟩ (xX11_ones l5 σ hq2) rfl ?_
    refine AX.iload_n dX11_writeOf_33 1 rfl rfl ?_
    refine AX.icmp_ne (tgt := 46) dX11_writeOf_34 rfl (fun c3 => ?_) (fun c3 => ?_)
    · replace hz := (if_neg c3).symm.trans hz
      refine AX.ldc2 dX11_writeOf_46 kcRX11_225 ?_
      exact AX.sub (ls' := [(0, .ref (G.2.2.1 44)), (1, .int l1), (2, .int l2), (3, .long l3), (5, .int l5)]) [0, 1, 2, 3, 4] rfl (wfX11_writeOf_j49 l1 l2 l3 l5 (-1) σ hz K hback hk)
    · replace hz := (if_pos c3).symm.trans hz
      refine AX.aload_n dX11_writeOf_37 0 rfl rfl ?_
      refine AX.iload dX11_writeOf_38 4 rfl ?_
      obtain ⟨q4, hq4, hz⟩ := obind hz
      refine AX.callVw (r := 44) (As := [.int l5]) (rest := []) (w := some (.long q4.1)) (st' := [.long q4.1]) dX11_writeOf_40 mlRX11_216 ylX11_safeBy yvX11_safeBy rfl rfl rfl (Nat.le_of_ble_eq_true rfl) ⟨Nat.le_of_ble_eq_true rfl, Nat.le_of_ble_eq_true rfl⟩ (xX11_safeBy l5 σ hq4) rfl ?_
      refine AX.goto (tgt := 49) dX11_writeOf_43 rfl ?_
      exact AX.sub (ls' := [(0, .ref (G.2.2.1 44)), (1, .int l1), (2, .int l2), (3, .long l3), (5, .int l5)]) [0, 1, 2, 3, 4] rfl (wfX11_writeOf_j49 l1 l2 l3 l5 q4.1 q4.2 hz K hback hk)
noncomputable def fX11_writeOf (p0 : Int32) (σ : St) : Option (Int32 × St) :=
  if (σ.1 44 2) = (0 : Int32) then some ((-3 : Int32), σ) else (lpc (fun s => fX11_writeOf_b17 p0 s.1 s.2.1 s.2.2.1 s.2.2.2) (-1, 0, 0, σ)).bind fun r2 => some (r2.1, r2.2)
theorem wfX11_writeOf {G : ag_G} (p0 : Int32) (σ : St) {z : Int32 × St} (hz : fX11_writeOf p0 σ = some z) {Q : Option Value → St → Prop} (hk : Q (some (.int z.1)) z.2) : AX G mX11_writeOf 4 99 0 [(0, .ref (G.2.2.1 44)), (1, .int p0)] [] σ Q := by
  unfold fX11_writeOf at hz
  refine AX.aload_n dX11_writeOf_0 0 rfl rfl ?_
  refine AX.getIE (v := σ.1 44 2) dX11_writeOf_1 flRX11_97 rfl rfl rfl ?_
  refine AX.if_ne (tgt := 10) dX11_writeOf_4 rfl (fun c1 => ?_) (fun c1 => ?_)
  · replace hz := (if_neg c1).symm.trans hz
    refine AX.iconst dX11_writeOf_10 ic_m1 ?_
    refine AX.istore_n (ls' := [(0, .ref (G.2.2.1 44)), (1, .int p0), (2, .int (-1))]) dX11_writeOf_11 rfl (Nat.le_of_ble_eq_true rfl) rfl ?_
    refine AX.lconst dX11_writeOf_12 lc_0 ?_
    refine AX.lstore_n (ls' := [(0, .ref (G.2.2.1 44)), (1, .int p0), (2, .int (-1)), (3, .long 0)]) dX11_writeOf_13 rfl (Nat.le_of_ble_eq_true rfl) rfl ?_
    refine AX.iconst dX11_writeOf_14 ic_0 ?_
    refine AX.istore (ls' := [(0, .ref (G.2.2.1 44)), (1, .int p0), (2, .int (-1)), (3, .long 0), (5, .int 0)]) dX11_writeOf_15 (Nat.le_of_ble_eq_true rfl) rfl ?_
    obtain ⟨r2, hr2, hz⟩ := obind hz
    refine AX.sub (ls' := [(0, .ref (G.2.2.1 44)), (1, .int p0), (2, .int (-1)), (3, .long 0), (5, .int 0)]) [0, 1, 2, 3, 4] rfl ?_
    refine lpc_ind (s := (-1, 0, 0, σ)) (r := r2) (fun s => AX G mX11_writeOf 4 99 17 [(0, .ref (G.2.2.1 44)), (1, .int p0), (2, .int s.1), (3, .long s.2.1), (5, .int s.2.2.1)] [] s.2.2.2 Q) (fun a : Int32 × St => AX G mX11_writeOf 4 99 96 [(2, .int a.1)] [] a.2 Q) hr2 (fun s z hb hK => wfX11_writeOf_b17 p0 s.1 s.2.1 s.2.2.1 s.2.2.2 hb (Sum.elim (fun s => AX G mX11_writeOf 4 99 17 [(0, .ref (G.2.2.1 44)), (1, .int p0), (2, .int s.1), (3, .long s.2.1), (5, .int s.2.2.1)] [] s.2.2.2 Q) (fun a : Int32 × St => AX G mX11_writeOf 4 99 96 [(2, .int a.1)] [] a.2 Q)) (fun _ h9 => h9) (fun _ h9 => h9) hK) ?_
    refine AX.iload_n dX11_writeOf_96 0 rfl rfl ?_
    exact AX.ireturn dX11_writeOf_97 rfl (vp_nar_int _) (kz (P := fun z => Q (some (.int z.1)) z.2) hz hk)
  · replace hz := (if_pos c1).symm.trans hz
    refine AX.bipush dX11_writeOf_7 bp_m3 ?_
    exact AX.ireturn dX11_writeOf_9 rfl (vp_nar_int _) (kz (P := fun z => Q (some (.int z.1)) z.2) hz hk)
theorem xX11_writeOf {G : ag_G} (p0 : Int32) (σ : St) {z : Int32 × St} (hz : fX11_writeOf p0 σ = some z) : AC G yX11_writeOf mX11_writeOf 4 99 [.ref (G.2.2.1 44), .int p0] σ (fun v σ1 => v = some (.int z.1) ∧ σ1 = z.2) := AC.of (plainFor_of_name (by decide)) rfl (Nat.le_of_ble_eq_true rfl) (wfX11_writeOf p0 σ hz ⟨rfl, rfl⟩)
noncomputable def fX11_cuesNow  (σ : St) : Option (Int32 × St) :=
  (fX11_reads  σ).bind fun q1 => some ((q1.1 44 7), q1)
theorem wfX11_cuesNow {G : ag_G}  (σ : St) {z : Int32 × St} (hz : fX11_cuesNow  σ = some z) {Q : Option Value → St → Prop} (hk : Q (some (.int z.1)) z.2) : AX G mX11_cuesNow 5 114 0 [(0, .ref (G.2.2.1 44))] [] σ Q := by
  unfold fX11_cuesNow at hz
  refine AX.aload_n dX11_cuesNow_0 0 rfl rfl ?_
  obtain ⟨q1, hq1, hz⟩ := obind hz
  refine AX.callVw (r := 44) (As := []) (rest := []) (w := none) (st' := []) dX11_cuesNow_1 mlRX11_121 ylX11_reads yvX11_reads rfl rfl rfl (Nat.le_of_ble_eq_true rfl) ⟨Nat.le_of_ble_eq_true rfl, Nat.le_of_ble_eq_true rfl⟩ (xX11_reads  σ hq1) rfl ?_
  refine AX.aload_n dX11_cuesNow_4 0 rfl rfl ?_
  refine AX.getIE (v := q1.1 44 7) dX11_cuesNow_5 flRX11_100 rfl rfl rfl ?_
  exact AX.ireturn dX11_cuesNow_8 rfl (vp_nar_int _) (kz (P := fun z => Q (some (.int z.1)) z.2) hz hk)
theorem xX11_cuesNow {G : ag_G}  (σ : St) {z : Int32 × St} (hz : fX11_cuesNow  σ = some z) : AC G yX11_cuesNow mX11_cuesNow 5 114 [.ref (G.2.2.1 44)] σ (fun v σ1 => v = some (.int z.1) ∧ σ1 = z.2) := AC.of (plainFor_of_name (by decide)) rfl (Nat.le_of_ble_eq_true rfl) (wfX11_cuesNow  σ hz ⟨rfl, rfl⟩)
noncomputable def fX11_write_j17 (l1 : Int32) (t0 : Int32) (t1 : Int32) (t2 : Int32) (σ : St) : Option (Int32 × St) :=
  (fX11_in t0 t1 t2).bind fun q1 => if q1 = (0 : Int32) then some ((-2 : Int32), σ) else (fX11_writeOf l1 σ).bind fun q3 => some (q3.1, q3.2)
theorem wfX11_write_j17 {G : ag_G} (l1 : Int32) (t0 : Int32) (t1 : Int32) (t2 : Int32) (σ : St) {z : Int32 × St} (hz : fX11_write_j17 l1 t0 t1 t2 σ = some z) {Q : Option Value → St → Prop} (hk : Q (some (.int z.1)) z.2) : AX G mX11_write 6 134 17 [(0, .ref (G.2.2.1 44)), (1, .int l1)] [.int t2, .int t1, .int t0] σ Q := by
  unfold fX11_write_j17 at hz
  obtain ⟨q1, hq1, hz⟩ := obind hz
  refine AX.callSw (As := [.int t0, .int t1, .int t2]) (rest := []) (w := some (.int q1)) (st' := [.int q1]) dX11_write_17 mlRX11_89 ylX11_in ysX11_in rfl rfl (Nat.le_of_ble_eq_true rfl) ⟨Nat.le_of_ble_eq_true rfl, Nat.le_of_ble_eq_true rfl⟩ (xX11_in t0 t1 t2 σ hq1) rfl ?_
  refine AX.if_eq (tgt := 31) dX11_write_20 rfl (fun c2 => ?_) (fun c2 => ?_)
  · replace hz := (if_pos c2).symm.trans hz
    refine AX.bipush dX11_write_31 bp_m2 ?_
    exact AX.ireturn dX11_write_33 rfl (vp_nar_int _) (kz (P := fun z => Q (some (.int z.1)) z.2) hz hk)
  · replace hz := (if_neg c2).symm.trans hz
    refine AX.aload_n dX11_write_23 0 rfl rfl ?_
    refine AX.iload_n dX11_write_24 1 rfl rfl ?_
    obtain ⟨q3, hq3, hz⟩ := obind hz
    refine AX.callVw (r := 44) (As := [.int l1]) (rest := []) (w := some (.int q3.1)) (st' := [.int q3.1]) dX11_write_25 mlRX11_230 ylX11_writeOf yvX11_writeOf rfl rfl rfl (Nat.le_of_ble_eq_true rfl) ⟨Nat.le_of_ble_eq_true rfl, Nat.le_of_ble_eq_true rfl⟩ (xX11_writeOf l1 σ hq3) rfl ?_
    refine AX.goto (tgt := 33) dX11_write_28 rfl ?_
    exact AX.ireturn dX11_write_33 rfl (vp_nar_int _) (kz (P := fun z => Q (some (.int z.1)) z.2) hz hk)
noncomputable def fX11_write (p0 : Int32) (σ : St) : Option (Int32 × St) :=
  (fX11_cuesNow  σ).bind fun q1 => if (3 : Int32) ≤ q1.1 then fX11_write_j17 p0 p0 0 3 q1.2 else fX11_write_j17 p0 p0 0 q1.1 q1.2
theorem wfX11_write {G : ag_G} (p0 : Int32) (σ : St) {z : Int32 × St} (hz : fX11_write p0 σ = some z) {Q : Option Value → St → Prop} (hk : Q (some (.int z.1)) z.2) : AX G mX11_write 6 134 0 [(0, .ref (G.2.2.1 44)), (1, .int p0)] [] σ Q := by
  unfold fX11_write at hz
  refine AX.aload_n dX11_write_0 0 rfl rfl ?_
  obtain ⟨q1, hq1, hz⟩ := obind hz
  refine AX.callVw (r := 44) (As := []) (rest := []) (w := some (.int q1.1)) (st' := [.int q1.1]) dX11_write_1 mlRX11_227 ylX11_cuesNow yvX11_cuesNow rfl rfl rfl (Nat.le_of_ble_eq_true rfl) ⟨Nat.le_of_ble_eq_true rfl, Nat.le_of_ble_eq_true rfl⟩ (xX11_cuesNow  σ hq1) rfl ?_
  refine AX.istore_n (ls' := [(0, .ref (G.2.2.1 44)), (1, .int p0), (2, .int q1.1)]) dX11_write_4 rfl (Nat.le_of_ble_eq_true rfl) rfl ?_
  refine AX.iload_n dX11_write_5 1 rfl rfl ?_
  refine AX.iconst dX11_write_6 ic_0 ?_
  refine AX.iload_n dX11_write_7 2 rfl rfl ?_
  refine AX.iconst dX11_write_8 ic_3 ?_
  refine AX.icmp_ge (tgt := 16) dX11_write_9 rfl (fun c2 => ?_) (fun c2 => ?_)
  · replace hz := (if_pos c2).symm.trans hz
    refine AX.iconst dX11_write_16 ic_3 ?_
    exact AX.sub (ls' := [(0, .ref (G.2.2.1 44)), (1, .int p0)]) [0, 1] rfl (wfX11_write_j17 p0 p0 0 3 q1.2 hz hk)
  · replace hz := (if_neg c2).symm.trans hz
    refine AX.iload_n dX11_write_12 2 rfl rfl ?_
    refine AX.goto (tgt := 17) dX11_write_13 rfl ?_
    exact AX.sub (ls' := [(0, .ref (G.2.2.1 44)), (1, .int p0)]) [0, 1] rfl (wfX11_write_j17 p0 p0 0 q1.1 q1.2 hz hk)
theorem xX11_write {G : ag_G} (p0 : Int32) (σ : St) {z : Int32 × St} (hz : fX11_write p0 σ = some z) : AC G yX11_write mX11_write 6 134 [.ref (G.2.2.1 44), .int p0] σ (fun v σ1 => v = some (.int z.1) ∧ σ1 = z.2) := AC.of (plainFor_of_name (by decide)) rfl (Nat.le_of_ble_eq_true rfl) (wfX11_write p0 σ hz ⟨rfl, rfl⟩)
noncomputable def fX11_fewOf_j82 (l1 : Int32) (l2 : Int32) (l3 : Int32) (σ : St) : Option ((Int32 × Int32 × St) ⊕ (Int32 × St)) :=
  some (.inl (l2, l3 + 1, σ))
theorem wfX11_fewOf_j82 {G : ag_G} (l1 : Int32) (l2 : Int32) (l3 : Int32) (σ : St) {z : (Int32 × Int32 × St) ⊕ (Int32 × St)} (hz : fX11_fewOf_j82 l1 l2 l3 σ = some z) {Q : Option Value → St → Prop} (K : ((Int32 × Int32 × St) ⊕ (Int32 × St)) → Prop) (hback : ∀ a : Int32 × Int32 × St, K (.inl a) → AX G mX11_fewOf 5 114 18 [(0, .ref (G.2.2.1 44)), (1, .int l1), (2, .int a.1), (3, .int a.2.1)] [] a.2.2 Q) (hk : K z) : AX G mX11_fewOf 5 114 82 [(0, .ref (G.2.2.1 44)), (1, .int l1), (2, .int l2), (3, .int l3)] [] σ Q := by
  unfold fX11_fewOf_j82 at hz
  refine AX.iinc (v := l3 + 1) (ls' := [(0, .ref (G.2.2.1 44)), (1, .int l1), (2, .int l2), (3, .int (l3 + 1))]) 3 dX11_fewOf_82 rfl (Nat.le_of_ble_eq_true rfl) (congrArg (l3 + ·) ic_1) rfl ?_
  refine AX.goto (tgt := 18) dX11_fewOf_85 rfl ?_
  exact AX.sub (ls' := [(0, .ref (G.2.2.1 44)), (1, .int l1), (2, .int l2), (3, .int (l3 + 1))]) [0, 1, 2, 3] rfl (hback (l2, l3 + 1, σ) (kz (P := K) hz hk))
noncomputable def fX11_fewOf_j81 (l1 : Int32) (l3 : Int32) (t0 : Int32) (σ : St) : Option ((Int32 × Int32 × St) ⊕ (Int32 × St)) :=
  fX11_fewOf_j82 l1 t0 l3 σ
theorem wfX11_fewOf_j81 {G : ag_G} (l1 : Int32) (l3 : Int32) (t0 : Int32) (σ : St) {z : (Int32 × Int32 × St) ⊕ (Int32 × St)} (hz : fX11_fewOf_j81 l1 l3 t0 σ = some z) {Q : Option Value → St → Prop} (K : ((Int32 × Int32 × St) ⊕ (Int32 × St)) → Prop) (hback : ∀ a : Int32 × Int32 × St, K (.inl a) → AX G mX11_fewOf 5 114 18 [(0, .ref (G.2.2.1 44)), (1, .int l1), (2, .int a.1), (3, .int a.2.1)] [] a.2.2 Q) (hk : K z) : AX G mX11_fewOf 5 114 81 [(0, .ref (G.2.2.1 44)), (1, .int l1), (3, .int l3)] [.int t0] σ Q := by
  unfold fX11_fewOf_j81 at hz
  refine AX.istore_n (ls' := [(0, .ref (G.2.2.1 44)), (1, .int l1), (2, .int t0), (3, .int l3)]) dX11_fewOf_81 rfl (Nat.le_of_ble_eq_true rfl) rfl ?_
  exact AX.sub (ls' := [(0, .ref (G.2.2.1 44)), (1, .int l1), (2, .int t0), (3, .int l3)]) [0, 1, 2, 3] rfl (wfX11_fewOf_j82 l1 t0 l3 σ hz K hback hk)
noncomputable def fX11_fewOf_j52 (l1 : Int32) (l2 : Int32) (l3 : Int32) (σ : St) : Option ((Int32 × Int32 × St) ⊕ (Int32 × St)) :=
  (fX11_safeBy l3 σ).bind fun q1 => if ((16 : Int64) * q1.1) < (l1.toInt64 * (q1.2.2 44 25)) then fX11_fewOf_j81 l1 l3 l2 q1.2 else fX11_fewOf_j81 l1 l3 l3 q1.2
theorem wfX11_fewOf_j52 {G : ag_G} (l1 : Int32) (l2 : Int32) (l3 : Int32) (σ : St) {z : (Int32 × Int32 × St) ⊕ (Int32 × St)} (hz : fX11_fewOf_j52 l1 l2 l3 σ = some z) {Q : Option Value → St → Prop} (K : ((Int32 × Int32 × St) ⊕ (Int32 × St)) → Prop) (hback : ∀ a : Int32 × Int32 × St, K (.inl a) → AX G mX11_fewOf 5 114 18 [(0, .ref (G.2.2.1 44)), (1, .int l1), (2, .int a.1), (3, .int a.2.1)] [] a.2.2 Q) (hk : K z) : AX G mX11_fewOf 5 114 52 [(0, .ref (G.2.2.1 44)), (1, .int l1), (2, .int l2), (3, .int l3)] [] σ Q := by
  unfold fX11_fewOf_j52 at hz
  refine AX.aload_n dX11_fewOf_52 0 rfl rfl ?_
  refine AX.iload_n dX11_fewOf_53 3 rfl rfl ?_
  obtain ⟨q1, hq1, hz⟩ := obind hz
  refine AX.callVw (r := 44) (As := [.int l3]) (rest := []) (w := some (.long q1.1)) (st' := [.long q1.1]) dX11_fewOf_54 mlRX11_216 ylX11_safeBy yvX11_safeBy rfl rfl rfl (Nat.le_of_ble_eq_true rfl) ⟨Nat.le_of_ble_eq_true rfl, Nat.le_of_ble_eq_true rfl⟩ (xX11_safeBy l3 σ hq1) rfl ?_
  refine AX.lstore (ls' := [(0, .ref (G.2.2.1 44)), (1, .int l1), (2, .int l2), (3, .int l3), (4, .long q1.1)]) dX11_fewOf_57 (Nat.le_of_ble_eq_true rfl) rfl ?_
  refine AX.ldc2 dX11_fewOf_59 kcRX11_151 ?_
  refine AX.lload dX11_fewOf_62 4 rfl ?_
  refine AX.lmul dX11_fewOf_64 ?_
  refine AX.iload_n dX11_fewOf_65 1 rfl rfl ?_
  refine AX.i2l dX11_fewOf_66 ?_
  refine AX.aload_n dX11_fewOf_67 0 rfl rfl ?_
  refine AX.getJE (v := q1.2.2 44 25) dX11_fewOf_68 flRX11_193 rfl rfl rfl ?_
  refine AX.lmul dX11_fewOf_71 ?_
  refine AX.lcmp_lt (tgt := 80) dX11_fewOf_72 dX11_fewOf_73 rfl (fun c2 => ?_) (fun c2 => ?_)
  · replace hz := (if_pos c2).symm.trans hz
    refine AX.iload_n dX11_fewOf_80 2 rfl rfl ?_
    exact AX.sub (ls' := [(0, .ref (G.2.2.1 44)), (1, .int l1), (3, .int l3)]) [0, 1, 3] rfl (wfX11_fewOf_j81 l1 l3 l2 q1.2 hz K hback hk)
  · replace hz := (if_neg c2).symm.trans hz
    refine AX.iload_n dX11_fewOf_76 3 rfl rfl ?_
    refine AX.goto (tgt := 81) dX11_fewOf_77 rfl ?_
    exact AX.sub (ls' := [(0, .ref (G.2.2.1 44)), (1, .int l1), (3, .int l3)]) [0, 1, 3] rfl (wfX11_fewOf_j81 l1 l3 l3 q1.2 hz K hback hk)
noncomputable def fX11_fewOf_b18 (l1 : Int32) (l2 : Int32) (l3 : Int32) (σ : St) : Option ((Int32 × Int32 × St) ⊕ (Int32 × St)) :=
  if ((1 : Int32) <<< ((σ.1 44 7) &&& 31)) ≤ l3 then some (.inr (l2, σ)) else (fX11_ones l3).bind fun q2 => if (4 : Int32) ≤ q2 then fX11_fewOf_j82 l1 l2 l3 σ else if l2 = (-1 : Int32) then fX11_fewOf_j52 l1 l2 l3 σ else (fX11_ones l3).bind fun q5 => (fX11_ones l2).bind fun q6 => if q6 ≤ q5 then fX11_fewOf_j82 l1 l2 l3 σ else fX11_fewOf_j52 l1 l2 l3 σ
theorem wfX11_fewOf_b18 {G : ag_G} (l1 : Int32) (l2 : Int32) (l3 : Int32) (σ : St) {z : (Int32 × Int32 × St) ⊕ (Int32 × St)} (hz : fX11_fewOf_b18 l1 l2 l3 σ = some z) {Q : Option Value → St → Prop} (K : ((Int32 × Int32 × St) ⊕ (Int32 × St)) → Prop) (hback : ∀ a : Int32 × Int32 × St, K (.inl a) → AX G mX11_fewOf 5 114 18 [(0, .ref (G.2.2.1 44)), (1, .int l1), (2, .int a.1), (3, .int a.2.1)] [] a.2.2 Q) (hexit0 : ∀ a : Int32 × St, K (.inr a) → AX G mX11_fewOf 5 114 88 [(2, .int a.1)] [] a.2 Q) (hk : K z) : AX G mX11_fewOf 5 114 18 [(0, .ref (G.2.2.1 44)), (1, .int l1), (2, .int l2), (3, .int l3)] [] σ Q := by
  unfold fX11_fewOf_b18 at hz
  refine AX.iload_n dX11_fewOf_18 3 rfl rfl ?_
  refine AX.iconst dX11_fewOf_19 ic_1 ?_
  refine AX.aload_n dX11_fewOf_20 0 rfl rfl ?_
  refine AX.getIE (v := σ.1 44 7) dX11_fewOf_21 flRX11_100 rfl rfl rfl ?_
  refine AX.ishl dX11_fewOf_24 ?_
  refine AX.icmp_ge (tgt := 88) dX11_fewOf_25 rfl (fun c1 => ?_) (fun c1 => ?_)
  · replace hz := (if_pos c1).symm.trans hz
    exact AX.sub (ls' := [(2, .int l2)]) [2] rfl (hexit0 (l2, σ) (kz (P := K) hz hk))
  · replace hz := (if_neg c1).symm.trans hz
    refine AX.iload_n dX11_fewOf_28 3 rfl rfl ?_
    obtain ⟨q2, hq2, hz⟩ := obind hz
    refine AX.callSw (As := [.int l3]) (rest := []) (w := some (.int q2)) (st' := [.int q2]) dX11_fewOf_29 mlRX11_213 ylX11_ones ysX11_ones rfl rfl (Nat.le_of_ble_eq_true rfl) ⟨Nat.le_of_ble_eq_true rfl, Nat.le_of_ble_eq_true rfl⟩ (xX11_ones l3 σ hq2) rfl ?_
    refine AX.iconst dX11_fewOf_32 ic_4 ?_
    refine AX.icmp_ge (tgt := 82) dX11_fewOf_33 rfl (fun c3 => ?_) (fun c3 => ?_)
    · replace hz := (if_pos c3).symm.trans hz
      exact AX.sub (ls' := [(0, .ref (G.2.2.1 44)), (1, .int l1), (2, .int l2), (3, .int l3)]) [0, 1, 2, 3] rfl (wfX11_fewOf_j82 l1 l2 l3 σ hz K hback hk)
    · replace hz := (if_neg c3).symm.trans hz
      refine AX.iload_n dX11_fewOf_36 2 rfl rfl ?_
      refine AX.iconst dX11_fewOf_37 ic_m1 ?_
      refine AX.icmp_eq (tgt := 52) dX11_fewOf_38 rfl (fun c4 => ?_) (fun c4 => ?_)
      · replace hz := (if_pos c4).symm.trans hz
        exact AX.sub (ls' := [(0, .ref (G.2.2.1 44)), (1, .int l1), (2, .int l2), (3, .int l3)]) [0, 1, 2, 3] rfl (wfX11_fewOf_j52 l1 l2 l3 σ hz K hback hk)
      · replace hz := (if_neg c4).symm.trans hz
        refine AX.iload_n dX11_fewOf_41 3 rfl rfl ?_
        obtain ⟨q5, hq5, hz⟩ := obind hz
        refine AX.callSw (As := [.int l3]) (rest := []) (w := some (.int q5)) (st' := [.int q5]) dX11_fewOf_42 mlRX11_213 ylX11_ones ysX11_ones rfl rfl (Nat.le_of_ble_eq_true rfl) ⟨Nat.le_of_ble_eq_true rfl, Nat.le_of_ble_eq_true rfl⟩ (xX11_ones l3 σ hq5) rfl ?_
        refine AX.iload_n dX11_fewOf_45 2 rfl rfl ?_
        obtain ⟨q6, hq6, hz⟩ := obind hz
        refine AX.callSw (As := [.int l2]) (rest := [.int q5]) (w := some (.int q6)) (st' := [.int q6, .int q5]) dX11_fewOf_46 mlRX11_213 ylX11_ones ysX11_ones rfl rfl (Nat.le_of_ble_eq_true rfl) ⟨Nat.le_of_ble_eq_true rfl, Nat.le_of_ble_eq_true rfl⟩ (xX11_ones l2 σ hq6) rfl ?_
        refine AX.icmp_ge (tgt := 82) dX11_fewOf_49 rfl (fun c7 => ?_) (fun c7 => ?_)
        · replace hz := (if_pos c7).symm.trans hz
          exact AX.sub (ls' := [(0, .ref (G.2.2.1 44)), (1, .int l1), (2, .int l2), (3, .int l3)]) [0, 1, 2, 3] rfl (wfX11_fewOf_j82 l1 l2 l3 σ hz K hback hk)
        · replace hz := (if_neg c7).symm.trans hz
          exact AX.sub (ls' := [(0, .ref (G.2.2.1 44)), (1, .int l1), (2, .int l2), (3, .int l3)]) [0, 1, 2, 3] rfl (wfX11_fewOf_j52 l1 l2 l3 σ hz K hback hk)
noncomputable def fX11_fewOf (p0 : Int32) (σ : St) : Option (Int32 × St) :=
  (fX11_reads  σ).bind fun q1 => if (q1.1 44 2) = (0 : Int32) then some ((-3 : Int32), q1) else (lpc (fun s => fX11_fewOf_b18 p0 s.1 s.2.1 s.2.2) (-1, 0, q1)).bind fun r3 => some (r3.1, r3.2)
theorem wfX11_fewOf {G : ag_G} (p0 : Int32) (σ : St) {z : Int32 × St} (hz : fX11_fewOf p0 σ = some z) {Q : Option Value → St → Prop} (hk : Q (some (.int z.1)) z.2) : AX G mX11_fewOf 5 114 0 [(0, .ref (G.2.2.1 44)), (1, .int p0)] [] σ Q := by
  unfold fX11_fewOf at hz
  refine AX.aload_n dX11_fewOf_0 0 rfl rfl ?_
  obtain ⟨q1, hq1, hz⟩ := obind hz
  refine AX.callVw (r := 44) (As := []) (rest := []) (w := none) (st' := []) dX11_fewOf_1 mlRX11_121 ylX11_reads yvX11_reads rfl rfl rfl (Nat.le_of_ble_eq_true rfl) ⟨Nat.le_of_ble_eq_true rfl, Nat.le_of_ble_eq_true rfl⟩ (xX11_reads  σ hq1) rfl ?_
  refine AX.aload_n dX11_fewOf_4 0 rfl rfl ?_
  refine AX.getIE (v := q1.1 44 2) dX11_fewOf_5 flRX11_97 rfl rfl rfl ?_
  refine AX.if_ne (tgt := 14) dX11_fewOf_8 rfl (fun c2 => ?_) (fun c2 => ?_)
  · replace hz := (if_neg c2).symm.trans hz
    refine AX.iconst dX11_fewOf_14 ic_m1 ?_
    refine AX.istore_n (ls' := [(0, .ref (G.2.2.1 44)), (1, .int p0), (2, .int (-1))]) dX11_fewOf_15 rfl (Nat.le_of_ble_eq_true rfl) rfl ?_
    refine AX.iconst dX11_fewOf_16 ic_0 ?_
    refine AX.istore_n (ls' := [(0, .ref (G.2.2.1 44)), (1, .int p0), (2, .int (-1)), (3, .int 0)]) dX11_fewOf_17 rfl (Nat.le_of_ble_eq_true rfl) rfl ?_
    obtain ⟨r3, hr3, hz⟩ := obind hz
    refine AX.sub (ls' := [(0, .ref (G.2.2.1 44)), (1, .int p0), (2, .int (-1)), (3, .int 0)]) [0, 1, 2, 3] rfl ?_
    refine lpc_ind (s := (-1, 0, q1)) (r := r3) (fun s => AX G mX11_fewOf 5 114 18 [(0, .ref (G.2.2.1 44)), (1, .int p0), (2, .int s.1), (3, .int s.2.1)] [] s.2.2 Q) (fun a : Int32 × St => AX G mX11_fewOf 5 114 88 [(2, .int a.1)] [] a.2 Q) hr3 (fun s z hb hK => wfX11_fewOf_b18 p0 s.1 s.2.1 s.2.2 hb (Sum.elim (fun s => AX G mX11_fewOf 5 114 18 [(0, .ref (G.2.2.1 44)), (1, .int p0), (2, .int s.1), (3, .int s.2.1)] [] s.2.2 Q) (fun a : Int32 × St => AX G mX11_fewOf 5 114 88 [(2, .int a.1)] [] a.2 Q)) (fun _ h9 => h9) (fun _ h9 => h9) hK) ?_
    refine AX.iload_n dX11_fewOf_88 0 rfl rfl ?_
    exact AX.ireturn dX11_fewOf_89 rfl (vp_nar_int _) (kz (P := fun z => Q (some (.int z.1)) z.2) hz hk)
  · replace hz := (if_pos c2).symm.trans hz
    refine AX.bipush dX11_fewOf_11 bp_m3 ?_
    exact AX.ireturn dX11_fewOf_13 rfl (vp_nar_int _) (kz (P := fun z => Q (some (.int z.1)) z.2) hz hk)
theorem xX11_fewOf {G : ag_G} (p0 : Int32) (σ : St) {z : Int32 × St} (hz : fX11_fewOf p0 σ = some z) : AC G yX11_fewOf mX11_fewOf 5 114 [.ref (G.2.2.1 44), .int p0] σ (fun v σ1 => v = some (.int z.1) ∧ σ1 = z.2) := AC.of (plainFor_of_name (by decide)) rfl (Nat.le_of_ble_eq_true rfl) (wfX11_fewOf p0 σ hz ⟨rfl, rfl⟩)
noncomputable def fX11_few (p0 : Int32) (σ : St) : Option (Int32 × St) :=
  (fX11_in p0 (0 : Int32) (16 : Int32)).bind fun q1 => if q1 = (0 : Int32) then some ((-2 : Int32), σ) else (fX11_fewOf p0 σ).bind fun q3 => some (q3.1, q3.2)
theorem wfX11_few {G : ag_G} (p0 : Int32) (σ : St) {z : Int32 × St} (hz : fX11_few p0 σ = some z) {Q : Option Value → St → Prop} (hk : Q (some (.int z.1)) z.2) : AX G mX11_few 6 139 0 [(0, .ref (G.2.2.1 44)), (1, .int p0)] [] σ Q := by
  unfold fX11_few at hz
  refine AX.iload_n dX11_few_0 1 rfl rfl ?_
  refine AX.iconst dX11_few_1 ic_0 ?_
  refine AX.bipush dX11_few_2 bp_16 ?_
  obtain ⟨q1, hq1, hz⟩ := obind hz
  refine AX.callSw (As := [.int p0, .int 0, .int 16]) (rest := []) (w := some (.int q1)) (st' := [.int q1]) dX11_few_4 mlRX11_89 ylX11_in ysX11_in rfl rfl (Nat.le_of_ble_eq_true rfl) ⟨Nat.le_of_ble_eq_true rfl, Nat.le_of_ble_eq_true rfl⟩ (xX11_in p0 (0 : Int32) (16 : Int32) σ hq1) rfl ?_
  refine AX.if_eq (tgt := 18) dX11_few_7 rfl (fun c2 => ?_) (fun c2 => ?_)
  · replace hz := (if_pos c2).symm.trans hz
    refine AX.bipush dX11_few_18 bp_m2 ?_
    exact AX.ireturn dX11_few_20 rfl (vp_nar_int _) (kz (P := fun z => Q (some (.int z.1)) z.2) hz hk)
  · replace hz := (if_neg c2).symm.trans hz
    refine AX.aload_n dX11_few_10 0 rfl rfl ?_
    refine AX.iload_n dX11_few_11 1 rfl rfl ?_
    obtain ⟨q3, hq3, hz⟩ := obind hz
    refine AX.callVw (r := 44) (As := [.int p0]) (rest := []) (w := some (.int q3.1)) (st' := [.int q3.1]) dX11_few_12 mlRX11_233 ylX11_fewOf yvX11_fewOf rfl rfl rfl (Nat.le_of_ble_eq_true rfl) ⟨Nat.le_of_ble_eq_true rfl, Nat.le_of_ble_eq_true rfl⟩ (xX11_fewOf p0 σ hq3) rfl ?_
    refine AX.goto (tgt := 20) dX11_few_15 rfl ?_
    exact AX.ireturn dX11_few_20 rfl (vp_nar_int _) (kz (P := fun z => Q (some (.int z.1)) z.2) hz hk)
theorem xX11_few {G : ag_G} (p0 : Int32) (σ : St) {z : Int32 × St} (hz : fX11_few p0 σ = some z) : AC G yX11_few mX11_few 6 139 [.ref (G.2.2.1 44), .int p0] σ (fun v σ1 => v = some (.int z.1) ∧ σ1 = z.2) := AC.of (plainFor_of_name (by decide)) rfl (Nat.le_of_ble_eq_true rfl) (wfX11_few p0 σ hz ⟨rfl, rfl⟩)
noncomputable def fX11_anewOf_j43 (l1 : Int32) (l3 : Int32) (t0 : Int32) (t1 : Int32) (σ : St) : Option ((Int32 × Int32) ⊕ Int32) :=
  ltb (t0 + t1) fun x1 => some (.inl (x1, l3 + 1))
theorem wfX11_anewOf_j43 {G : ag_G} (l1 : Int32) (l3 : Int32) (t0 : Int32) (t1 : Int32) (σ : St) {z : (Int32 × Int32) ⊕ Int32} (hz : fX11_anewOf_j43 l1 l3 t0 t1 σ = some z) {Q : Option Value → St → Prop} (K : ((Int32 × Int32) ⊕ Int32) → Prop) (hback : ∀ a : Int32 × Int32, K (.inl a) → AX G mX11_anewOf 3 78 4 [(0, .ref (G.2.2.1 44)), (1, .int l1), (2, .int a.1), (3, .int a.2)] [] σ Q) (hk : K z) : AX G mX11_anewOf 3 78 43 [(0, .ref (G.2.2.1 44)), (1, .int l1), (3, .int l3)] [.int t1, .int t0] σ Q := by
  unfold fX11_anewOf_j43 at hz
  refine AX.iadd dX11_anewOf_43 ?_
  obtain ⟨x1, hx1, hz⟩ := ltb_e hz
  refine AX.topI hx1 ?_
  refine AX.istore_n (ls' := [(0, .ref (G.2.2.1 44)), (1, .int l1), (2, .int x1), (3, .int l3)]) dX11_anewOf_44 rfl (Nat.le_of_ble_eq_true rfl) rfl ?_
  refine AX.iinc (v := l3 + 1) (ls' := [(0, .ref (G.2.2.1 44)), (1, .int l1), (2, .int x1), (3, .int (l3 + 1))]) 3 dX11_anewOf_45 rfl (Nat.le_of_ble_eq_true rfl) (congrArg (l3 + ·) ic_1) rfl ?_
  refine AX.goto (tgt := 4) dX11_anewOf_48 rfl ?_
  exact AX.sub (ls' := [(0, .ref (G.2.2.1 44)), (1, .int l1), (2, .int x1), (3, .int (l3 + 1))]) [0, 1, 2, 3] rfl (hback (x1, l3 + 1) (kz (P := K) hz hk))
noncomputable def fX11_anewOf_b4 (l1 : Int32) (l2 : Int32) (l3 : Int32) (σ : St) : Option ((Int32 × Int32) ⊕ Int32) :=
  if (σ.1 44 7) ≤ l3 then some (.inr l2) else if inb l3 7 = true then if inb (σ.1 49 l3.toNatClampNeg) 100 = true then if inb l1 7 = true then if inb (σ.1 49 l1.toNatClampNeg) 100 = true then if (σ.1 47 ((σ.1 49 l3.toNatClampNeg).toNatClampNeg)) = (σ.1 47 ((σ.1 49 l1.toNatClampNeg).toNatClampNeg)) then fX11_anewOf_j43 l1 l3 l2 1 σ else fX11_anewOf_j43 l1 l3 l2 0 σ else none else none else none else none
theorem wfX11_anewOf_b4 {G : ag_G} (l1 : Int32) (l2 : Int32) (l3 : Int32) (σ : St) {z : (Int32 × Int32) ⊕ Int32} (hz : fX11_anewOf_b4 l1 l2 l3 σ = some z) {Q : Option Value → St → Prop} (K : ((Int32 × Int32) ⊕ Int32) → Prop) (hback : ∀ a : Int32 × Int32, K (.inl a) → AX G mX11_anewOf 3 78 4 [(0, .ref (G.2.2.1 44)), (1, .int l1), (2, .int a.1), (3, .int a.2)] [] σ Q) (hexit0 : ∀ a : Int32, K (.inr a) → AX G mX11_anewOf 3 78 51 [(0, .ref (G.2.2.1 44)), (1, .int l1), (2, .int a)] [] σ Q) (hk : K z) : AX G mX11_anewOf 3 78 4 [(0, .ref (G.2.2.1 44)), (1, .int l1), (2, .int l2), (3, .int l3)] [] σ Q := by
  unfold fX11_anewOf_b4 at hz
  refine AX.iload_n dX11_anewOf_4 3 rfl rfl ?_
  refine AX.aload_n dX11_anewOf_5 0 rfl rfl ?_
  refine AX.getIE (v := σ.1 44 7) dX11_anewOf_6 flRX11_100 rfl rfl rfl ?_
  refine AX.icmp_ge (tgt := 51) dX11_anewOf_9 rfl (fun c1 => ?_) (fun c1 => ?_)
  · replace hz := (if_pos c1).symm.trans hz
    exact AX.sub (ls' := [(0, .ref (G.2.2.1 44)), (1, .int l1), (2, .int l2)]) [0, 1, 2] rfl (hexit0 l2 (kz (P := K) hz hk))
  · replace hz := (if_neg c1).symm.trans hz
    refine AX.iload_n dX11_anewOf_12 2 rfl rfl ?_
    refine AX.aload_n dX11_anewOf_13 0 rfl rfl ?_
    refine AX.getR dX11_anewOf_14 flRX11_16 rfl rfl ?_
    refine AX.aload_n dX11_anewOf_17 0 rfl rfl ?_
    refine AX.getR dX11_anewOf_18 flRX11_22 rfl rfl ?_
    refine AX.iload_n dX11_anewOf_21 3 rfl rfl ?_
    obtain ⟨b2, hz⟩ := ite_n hz
    refine AX.ialdE (v := σ.1 49 l3.toNatClampNeg) dX11_anewOf_22 rfl b2 rfl ?_
    obtain ⟨b3, hz⟩ := ite_n hz
    refine AX.ialdE (v := σ.1 47 ((σ.1 49 l3.toNatClampNeg).toNatClampNeg)) dX11_anewOf_23 rfl b3 rfl ?_
    refine AX.aload_n dX11_anewOf_24 0 rfl rfl ?_
    refine AX.getR dX11_anewOf_25 flRX11_16 rfl rfl ?_
    refine AX.aload_n dX11_anewOf_28 0 rfl rfl ?_
    refine AX.getR dX11_anewOf_29 flRX11_22 rfl rfl ?_
    refine AX.iload_n dX11_anewOf_32 1 rfl rfl ?_
    obtain ⟨b4, hz⟩ := ite_n hz
    refine AX.ialdE (v := σ.1 49 l1.toNatClampNeg) dX11_anewOf_33 rfl b4 rfl ?_
    obtain ⟨b5, hz⟩ := ite_n hz
    refine AX.ialdE (v := σ.1 47 ((σ.1 49 l1.toNatClampNeg).toNatClampNeg)) dX11_anewOf_34 rfl b5 rfl ?_
    refine AX.icmp_ne (tgt := 42) dX11_anewOf_35 rfl (fun c6 => ?_) (fun c6 => ?_)
    · replace hz := (if_neg c6).symm.trans hz
      refine AX.iconst dX11_anewOf_42 ic_0 ?_
      exact AX.sub (ls' := [(0, .ref (G.2.2.1 44)), (1, .int l1), (3, .int l3)]) [0, 1, 3] rfl (wfX11_anewOf_j43 l1 l3 l2 0 σ hz K hback hk)
    · replace hz := (if_pos c6).symm.trans hz
      refine AX.iconst dX11_anewOf_38 ic_1 ?_
      refine AX.goto (tgt := 43) dX11_anewOf_39 rfl ?_
      exact AX.sub (ls' := [(0, .ref (G.2.2.1 44)), (1, .int l1), (3, .int l3)]) [0, 1, 3] rfl (wfX11_anewOf_j43 l1 l3 l2 1 σ hz K hback hk)
noncomputable def fX11_anewOf (p0 : Int32) (σ : St) : Option (Int32 × St) :=
  (lpc (fun s => fX11_anewOf_b4 p0 s.1 s.2 σ) (0, 0)).bind fun r1 => ltb ((((σ.1 52 0) * r1) + ((σ.1 52 1) * ((σ.1 44 7) - r1))).toInt64) fun x2 => if inb p0 7 = true then (fX11_findsSlips (σ.1 49 p0.toNatClampNeg) (0 : Int32) (-1 : Int32) σ).bind fun q4 => if x2 ≤ (0 : Int64) then some ((0 : Int32), q4) else if (((q4.1 52 0).toInt64) * (q4.2 44 25)) ≤ ((q4.2 60 10) * x2) then some ((0 : Int32), q4) else some ((1 : Int32), q4) else none
theorem wfX11_anewOf {G : ag_G} (p0 : Int32) (σ : St) {z : Int32 × St} (hz : fX11_anewOf p0 σ = some z) {Q : Option Value → St → Prop} (hk : Q (some (.int z.1)) z.2) : AX G mX11_anewOf 3 78 0 [(0, .ref (G.2.2.1 44)), (1, .int p0)] [] σ Q := by
  unfold fX11_anewOf at hz
  refine AX.iconst dX11_anewOf_0 ic_0 ?_
  refine AX.istore_n (ls' := [(0, .ref (G.2.2.1 44)), (1, .int p0), (2, .int 0)]) dX11_anewOf_1 rfl (Nat.le_of_ble_eq_true rfl) rfl ?_
  refine AX.iconst dX11_anewOf_2 ic_0 ?_
  refine AX.istore_n (ls' := [(0, .ref (G.2.2.1 44)), (1, .int p0), (2, .int 0), (3, .int 0)]) dX11_anewOf_3 rfl (Nat.le_of_ble_eq_true rfl) rfl ?_
  obtain ⟨r1, hr1, hz⟩ := obind hz
  refine AX.sub (ls' := [(0, .ref (G.2.2.1 44)), (1, .int p0), (2, .int 0), (3, .int 0)]) [0, 1, 2, 3] rfl ?_
  refine lpc_ind (s := (0, 0)) (r := r1) (fun s => AX G mX11_anewOf 3 78 4 [(0, .ref (G.2.2.1 44)), (1, .int p0), (2, .int s.1), (3, .int s.2)] [] σ Q) (fun a : Int32 => AX G mX11_anewOf 3 78 51 [(0, .ref (G.2.2.1 44)), (1, .int p0), (2, .int a)] [] σ Q) hr1 (fun s z hb hK => wfX11_anewOf_b4 p0 s.1 s.2 σ hb (Sum.elim (fun s => AX G mX11_anewOf 3 78 4 [(0, .ref (G.2.2.1 44)), (1, .int p0), (2, .int s.1), (3, .int s.2)] [] σ Q) (fun a : Int32 => AX G mX11_anewOf 3 78 51 [(0, .ref (G.2.2.1 44)), (1, .int p0), (2, .int a)] [] σ Q)) (fun _ h9 => h9) (fun _ h9 => h9) hK) ?_
  refine AX.aload_n dX11_anewOf_51 0 rfl rfl ?_
  refine AX.getR dX11_anewOf_52 flRX11_31 rfl rfl ?_
  refine AX.iconst dX11_anewOf_55 ic_0 ?_
  refine AX.ialdE (v := σ.1 52 0) dX11_anewOf_56 rfl rfl rfl ?_
  refine AX.iload_n dX11_anewOf_57 2 rfl rfl ?_
  refine AX.imul dX11_anewOf_58 ?_
  refine AX.aload_n dX11_anewOf_59 0 rfl rfl ?_
  refine AX.getR dX11_anewOf_60 flRX11_31 rfl rfl ?_
  refine AX.iconst dX11_anewOf_63 ic_1 ?_
  refine AX.ialdE (v := σ.1 52 1) dX11_anewOf_64 rfl rfl rfl ?_
  refine AX.aload_n dX11_anewOf_65 0 rfl rfl ?_
  refine AX.getIE (v := σ.1 44 7) dX11_anewOf_66 flRX11_100 rfl rfl rfl ?_
  refine AX.iload_n dX11_anewOf_69 2 rfl rfl ?_
  refine AX.isub dX11_anewOf_70 ?_
  refine AX.imul dX11_anewOf_71 ?_
  refine AX.iadd dX11_anewOf_72 ?_
  refine AX.i2l dX11_anewOf_73 ?_
  obtain ⟨x2, hx2, hz⟩ := ltb_e hz
  refine AX.topL hx2 ?_
  refine AX.lstore_n (ls' := [(0, .ref (G.2.2.1 44)), (1, .int p0), (2, .int r1), (3, .long x2)]) dX11_anewOf_74 rfl (Nat.le_of_ble_eq_true rfl) rfl ?_
  refine AX.aload_n dX11_anewOf_75 0 rfl rfl ?_
  refine AX.aload_n dX11_anewOf_76 0 rfl rfl ?_
  refine AX.getR dX11_anewOf_77 flRX11_22 rfl rfl ?_
  refine AX.iload_n dX11_anewOf_80 1 rfl rfl ?_
  obtain ⟨b3, hz⟩ := ite_n hz
  refine AX.ialdE (v := σ.1 49 p0.toNatClampNeg) dX11_anewOf_81 rfl b3 rfl ?_
  refine AX.iconst dX11_anewOf_82 ic_0 ?_
  refine AX.iconst dX11_anewOf_83 ic_m1 ?_
  obtain ⟨q4, hq4, hz⟩ := obind hz
  refine AX.callVw (r := 44) (As := [.int (σ.1 49 p0.toNatClampNeg), .int 0, .int (-1)]) (rest := []) (w := none) (st' := []) dX11_anewOf_84 mlRX11_206 ylX11_findsSlips yvX11_findsSlips rfl rfl rfl (Nat.le_of_ble_eq_true rfl) ⟨Nat.le_of_ble_eq_true rfl, Nat.le_of_ble_eq_true rfl⟩ (xX11_findsSlips (σ.1 49 p0.toNatClampNeg) (0 : Int32) (-1 : Int32) σ hq4) rfl ?_
  refine AX.lload_n dX11_anewOf_87 3 rfl rfl ?_
  refine AX.lconst dX11_anewOf_88 lc_0 ?_
  refine AX.lcmp_le (tgt := 122) dX11_anewOf_89 dX11_anewOf_90 rfl (fun c5 => ?_) (fun c5 => ?_)
  · replace hz := (if_pos c5).symm.trans hz
    refine AX.iconst dX11_anewOf_122 ic_0 ?_
    exact AX.ireturn dX11_anewOf_123 rfl (vp_nar_int _) (kz (P := fun z => Q (some (.int z.1)) z.2) hz hk)
  · replace hz := (if_neg c5).symm.trans hz
    refine AX.aload_n dX11_anewOf_93 0 rfl rfl ?_
    refine AX.getR dX11_anewOf_94 flRX11_31 rfl rfl ?_
    refine AX.iconst dX11_anewOf_97 ic_0 ?_
    refine AX.ialdE (v := q4.1 52 0) dX11_anewOf_98 rfl rfl rfl ?_
    refine AX.i2l dX11_anewOf_99 ?_
    refine AX.aload_n dX11_anewOf_100 0 rfl rfl ?_
    refine AX.getJE (v := q4.2 44 25) dX11_anewOf_101 flRX11_193 rfl rfl rfl ?_
    refine AX.lmul dX11_anewOf_104 ?_
    refine AX.aload_n dX11_anewOf_105 0 rfl rfl ?_
    refine AX.getR dX11_anewOf_106 flRX11_56 rfl rfl ?_
    refine AX.bipush dX11_anewOf_109 bp_10 ?_
    refine AX.laldE (v := q4.2 60 10) dX11_anewOf_111 rfl rfl rfl ?_
    refine AX.lload_n dX11_anewOf_112 3 rfl rfl ?_
    refine AX.lmul dX11_anewOf_113 ?_
    refine AX.lcmp_le (tgt := 122) dX11_anewOf_114 dX11_anewOf_115 rfl (fun c6 => ?_) (fun c6 => ?_)
    · replace hz := (if_pos c6).symm.trans hz
      refine AX.iconst dX11_anewOf_122 ic_0 ?_
      exact AX.ireturn dX11_anewOf_123 rfl (vp_nar_int _) (kz (P := fun z => Q (some (.int z.1)) z.2) hz hk)
    · replace hz := (if_neg c6).symm.trans hz
      refine AX.iconst dX11_anewOf_118 ic_1 ?_
      refine AX.goto (tgt := 123) dX11_anewOf_119 rfl ?_
      exact AX.ireturn dX11_anewOf_123 rfl (vp_nar_int _) (kz (P := fun z => Q (some (.int z.1)) z.2) hz hk)
theorem xX11_anewOf {G : ag_G} (p0 : Int32) (σ : St) {z : Int32 × St} (hz : fX11_anewOf p0 σ = some z) : AC G yX11_anewOf mX11_anewOf 3 78 [.ref (G.2.2.1 44), .int p0] σ (fun v σ1 => v = some (.int z.1) ∧ σ1 = z.2) := AC.of (plainFor_of_name (by decide)) rfl (Nat.le_of_ble_eq_true rfl) (wfX11_anewOf p0 σ hz ⟨rfl, rfl⟩)
noncomputable def fX11_anew (p0 : Int32) (σ : St) : Option (Int32 × St) :=
  (fX11_cuesNow  σ).bind fun q1 => (fX11_in p0 (0 : Int32) (q1.1 - (1 : Int32))).bind fun q2 => if q2 = (0 : Int32) then some ((-2 : Int32), q1.2) else (fX11_anewOf p0 q1.2).bind fun q4 => some (q4.1, q4.2)
theorem wfX11_anew {G : ag_G} (p0 : Int32) (σ : St) {z : Int32 × St} (hz : fX11_anew p0 σ = some z) {Q : Option Value → St → Prop} (hk : Q (some (.int z.1)) z.2) : AX G mX11_anew 6 134 0 [(0, .ref (G.2.2.1 44)), (1, .int p0)] [] σ Q := by
  unfold fX11_anew at hz
  refine AX.iload_n dX11_anew_0 1 rfl rfl ?_
  refine AX.iconst dX11_anew_1 ic_0 ?_
  refine AX.aload_n dX11_anew_2 0 rfl rfl ?_
  obtain ⟨q1, hq1, hz⟩ := obind hz
  refine AX.callVw (r := 44) (As := []) (rest := [.int 0, .int p0]) (w := some (.int q1.1)) (st' := [.int q1.1, .int 0, .int p0]) dX11_anew_3 mlRX11_227 ylX11_cuesNow yvX11_cuesNow rfl rfl rfl (Nat.le_of_ble_eq_true rfl) ⟨Nat.le_of_ble_eq_true rfl, Nat.le_of_ble_eq_true rfl⟩ (xX11_cuesNow  σ hq1) rfl ?_
  refine AX.iconst dX11_anew_6 ic_1 ?_
  refine AX.isub dX11_anew_7 ?_
  obtain ⟨q2, hq2, hz⟩ := obind hz
  refine AX.callSw (As := [.int p0, .int 0, .int (q1.1 - (1 : Int32))]) (rest := []) (w := some (.int q2)) (st' := [.int q2]) dX11_anew_8 mlRX11_89 ylX11_in ysX11_in rfl rfl (Nat.le_of_ble_eq_true rfl) ⟨Nat.le_of_ble_eq_true rfl, Nat.le_of_ble_eq_true rfl⟩ (xX11_in p0 (0 : Int32) (q1.1 - (1 : Int32)) q1.2 hq2) rfl ?_
  refine AX.if_eq (tgt := 22) dX11_anew_11 rfl (fun c3 => ?_) (fun c3 => ?_)
  · replace hz := (if_pos c3).symm.trans hz
    refine AX.bipush dX11_anew_22 bp_m2 ?_
    exact AX.ireturn dX11_anew_24 rfl (vp_nar_int _) (kz (P := fun z => Q (some (.int z.1)) z.2) hz hk)
  · replace hz := (if_neg c3).symm.trans hz
    refine AX.aload_n dX11_anew_14 0 rfl rfl ?_
    refine AX.iload_n dX11_anew_15 1 rfl rfl ?_
    obtain ⟨q4, hq4, hz⟩ := obind hz
    refine AX.callVw (r := 44) (As := [.int p0]) (rest := []) (w := some (.int q4.1)) (st' := [.int q4.1]) dX11_anew_16 mlRX11_236 ylX11_anewOf yvX11_anewOf rfl rfl rfl (Nat.le_of_ble_eq_true rfl) ⟨Nat.le_of_ble_eq_true rfl, Nat.le_of_ble_eq_true rfl⟩ (xX11_anewOf p0 q1.2 hq4) rfl ?_
    refine AX.goto (tgt := 24) dX11_anew_19 rfl ?_
    exact AX.ireturn dX11_anew_24 rfl (vp_nar_int _) (kz (P := fun z => Q (some (.int z.1)) z.2) hz hk)
theorem xX11_anew {G : ag_G} (p0 : Int32) (σ : St) {z : Int32 × St} (hz : fX11_anew p0 σ = some z) : AC G yX11_anew mX11_anew 6 134 [.ref (G.2.2.1 44), .int p0] σ (fun v σ1 => v = some (.int z.1) ∧ σ1 = z.2) := AC.of (plainFor_of_name (by decide)) rfl (Nat.le_of_ble_eq_true rfl) (wfX11_anew p0 σ hz ⟨rfl, rfl⟩)
noncomputable def fX11_joint_j29  : Option (Int64) :=
  (fX11_no (-2 : Int32)).bind fun q1 => some q1
theorem wfX11_joint_j29 {G : ag_G}  {σ : St} {z : Int64} (hz : fX11_joint_j29  = some z) {Q : Option Value → St → Prop} (hk : Q (some (.long z)) σ) : AX G mX11_joint 1 30 29 [] [] σ Q := by
  unfold fX11_joint_j29 at hz
  refine AX.bipush dX11_joint_29 bp_m2 ?_
  obtain ⟨q1, hq1, hz⟩ := obind hz
  refine AX.callSw (As := [.int (-2)]) (rest := []) (w := some (.long q1)) (st' := [.long q1]) dX11_joint_31 mlRX11_168 ylX11_no ysX11_no rfl rfl (Nat.le_of_ble_eq_true rfl) ⟨Nat.le_of_ble_eq_true rfl, Nat.le_of_ble_eq_true rfl⟩ (xX11_no (-2 : Int32) σ hq1) rfl ?_
  exact AX.lreturn dX11_joint_34 rfl (kz (P := fun z => Q (some (.long z)) σ) hz hk)
noncomputable def fX11_joint (p0 : Int32) (p1 : Int32) (p2 : Int32) : Option (Int64) :=
  (fX11_in p0 (0 : Int32) (16 : Int32)).bind fun q1 => if q1 = (0 : Int32) then fX11_joint_j29  else (fX11_in p1 (0 : Int32) (16 : Int32)).bind fun q3 => if q3 = (0 : Int32) then fX11_joint_j29  else (fX11_in p2 (0 : Int32) (1 : Int32)).bind fun q5 => if q5 = (0 : Int32) then fX11_joint_j29  else ltb (p0 * p1) fun x7 => ltb (((16 : Int32) - p0) * ((16 : Int32) - p1)) fun x8 => if (x7 + x8) = (0 : Int32) then (fX11_no (-3 : Int32)).bind fun q11 => some q11 else (fX11_lowest x7.toInt64 ((x7 + x8).toInt64) p2).bind fun q10 => some q10
theorem wfX11_joint {G : ag_G} (p0 : Int32) (p1 : Int32) (p2 : Int32) (σ : St) {z : Int64} (hz : fX11_joint p0 p1 p2 = some z) {Q : Option Value → St → Prop} (hk : Q (some (.long z)) σ) : AX G mX11_joint 1 30 0 [(0, .ref (G.2.2.1 44)), (1, .int p0), (2, .int p1), (3, .int p2)] [] σ Q := by
  unfold fX11_joint at hz
  refine AX.iload_n dX11_joint_0 1 rfl rfl ?_
  refine AX.iconst dX11_joint_1 ic_0 ?_
  refine AX.bipush dX11_joint_2 bp_16 ?_
  obtain ⟨q1, hq1, hz⟩ := obind hz
  refine AX.callSw (As := [.int p0, .int 0, .int 16]) (rest := []) (w := some (.int q1)) (st' := [.int q1]) dX11_joint_4 mlRX11_89 ylX11_in ysX11_in rfl rfl (Nat.le_of_ble_eq_true rfl) ⟨Nat.le_of_ble_eq_true rfl, Nat.le_of_ble_eq_true rfl⟩ (xX11_in p0 (0 : Int32) (16 : Int32) σ hq1) rfl ?_
  refine AX.if_eq (tgt := 29) dX11_joint_7 rfl (fun c2 => ?_) (fun c2 => ?_)
  · replace hz := (if_pos c2).symm.trans hz
    exact AX.sub (ls' := []) [] rfl (wfX11_joint_j29  hz hk)
  · replace hz := (if_neg c2).symm.trans hz
    refine AX.iload_n dX11_joint_10 2 rfl rfl ?_
    refine AX.iconst dX11_joint_11 ic_0 ?_
    refine AX.bipush dX11_joint_12 bp_16 ?_
    obtain ⟨q3, hq3, hz⟩ := obind hz
    refine AX.callSw (As := [.int p1, .int 0, .int 16]) (rest := []) (w := some (.int q3)) (st' := [.int q3]) dX11_joint_14 mlRX11_89 ylX11_in ysX11_in rfl rfl (Nat.le_of_ble_eq_true rfl) ⟨Nat.le_of_ble_eq_true rfl, Nat.le_of_ble_eq_true rfl⟩ (xX11_in p1 (0 : Int32) (16 : Int32) σ hq3) rfl ?_
    refine AX.if_eq (tgt := 29) dX11_joint_17 rfl (fun c4 => ?_) (fun c4 => ?_)
    · replace hz := (if_pos c4).symm.trans hz
      exact AX.sub (ls' := []) [] rfl (wfX11_joint_j29  hz hk)
    · replace hz := (if_neg c4).symm.trans hz
      refine AX.iload_n dX11_joint_20 3 rfl rfl ?_
      refine AX.iconst dX11_joint_21 ic_0 ?_
      refine AX.iconst dX11_joint_22 ic_1 ?_
      obtain ⟨q5, hq5, hz⟩ := obind hz
      refine AX.callSw (As := [.int p2, .int 0, .int 1]) (rest := []) (w := some (.int q5)) (st' := [.int q5]) dX11_joint_23 mlRX11_89 ylX11_in ysX11_in rfl rfl (Nat.le_of_ble_eq_true rfl) ⟨Nat.le_of_ble_eq_true rfl, Nat.le_of_ble_eq_true rfl⟩ (xX11_in p2 (0 : Int32) (1 : Int32) σ hq5) rfl ?_
      refine AX.if_ne (tgt := 35) dX11_joint_26 rfl (fun c6 => ?_) (fun c6 => ?_)
      · replace hz := (if_neg c6).symm.trans hz
        refine AX.iload_n dX11_joint_35 1 rfl rfl ?_
        refine AX.iload_n dX11_joint_36 2 rfl rfl ?_
        refine AX.imul dX11_joint_37 ?_
        obtain ⟨x7, hx7, hz⟩ := ltb_e hz
        refine AX.topI hx7 ?_
        refine AX.istore (ls' := [(0, .ref (G.2.2.1 44)), (1, .int p0), (2, .int p1), (3, .int p2), (4, .int x7)]) dX11_joint_38 (Nat.le_of_ble_eq_true rfl) rfl ?_
        refine AX.bipush dX11_joint_40 bp_16 ?_
        refine AX.iload_n dX11_joint_42 1 rfl rfl ?_
        refine AX.isub dX11_joint_43 ?_
        refine AX.bipush dX11_joint_44 bp_16 ?_
        refine AX.iload_n dX11_joint_46 2 rfl rfl ?_
        refine AX.isub dX11_joint_47 ?_
        refine AX.imul dX11_joint_48 ?_
        obtain ⟨x8, hx8, hz⟩ := ltb_e hz
        refine AX.topI hx8 ?_
        refine AX.istore (ls' := [(0, .ref (G.2.2.1 44)), (1, .int p0), (2, .int p1), (3, .int p2), (4, .int x7), (5, .int x8)]) dX11_joint_49 (Nat.le_of_ble_eq_true rfl) rfl ?_
        refine AX.iload dX11_joint_51 4 rfl ?_
        refine AX.iload dX11_joint_53 5 rfl ?_
        refine AX.iadd dX11_joint_55 ?_
        refine AX.if_ne (tgt := 67) dX11_joint_56 rfl (fun c9 => ?_) (fun c9 => ?_)
        · replace hz := (if_neg c9).symm.trans hz
          refine AX.iload dX11_joint_67 4 rfl ?_
          refine AX.i2l dX11_joint_69 ?_
          refine AX.iload dX11_joint_70 4 rfl ?_
          refine AX.iload dX11_joint_72 5 rfl ?_
          refine AX.iadd dX11_joint_74 ?_
          refine AX.i2l dX11_joint_75 ?_
          refine AX.iload_n dX11_joint_76 3 rfl rfl ?_
          obtain ⟨q10, hq10, hz⟩ := obind hz
          refine AX.callSw (As := [.long x7.toInt64, .long ((x7 + x8).toInt64), .int p2]) (rest := []) (w := some (.long q10)) (st' := [.long q10]) dX11_joint_77 mlRX11_172 ylX11_lowest ysX11_lowest rfl rfl (Nat.le_of_ble_eq_true rfl) ⟨Nat.le_of_ble_eq_true rfl, Nat.le_of_ble_eq_true rfl⟩ (xX11_lowest x7.toInt64 ((x7 + x8).toInt64) p2 σ hq10) rfl ?_
          exact AX.lreturn dX11_joint_80 rfl (kz (P := fun z => Q (some (.long z)) σ) hz hk)
        · replace hz := (if_pos c9).symm.trans hz
          refine AX.bipush dX11_joint_59 bp_m3 ?_
          obtain ⟨q11, hq11, hz⟩ := obind hz
          refine AX.callSw (As := [.int (-3)]) (rest := []) (w := some (.long q11)) (st' := [.long q11]) dX11_joint_61 mlRX11_168 ylX11_no ysX11_no rfl rfl (Nat.le_of_ble_eq_true rfl) ⟨Nat.le_of_ble_eq_true rfl, Nat.le_of_ble_eq_true rfl⟩ (xX11_no (-3 : Int32) σ hq11) rfl ?_
          refine AX.goto (tgt := 80) dX11_joint_64 rfl ?_
          exact AX.lreturn dX11_joint_80 rfl (kz (P := fun z => Q (some (.long z)) σ) hz hk)
      · replace hz := (if_pos c6).symm.trans hz
        exact AX.sub (ls' := []) [] rfl (wfX11_joint_j29  hz hk)
theorem xX11_joint {G : ag_G} (p0 : Int32) (p1 : Int32) (p2 : Int32) (σ : St) {z : Int64} (hz : fX11_joint p0 p1 p2 = some z) : AC G yX11_joint mX11_joint 1 30 [.ref (G.2.2.1 44), .int p0, .int p1, .int p2] σ (fun v σ1 => v = some (.long z) ∧ σ1 = σ) := AC.of (plainFor_of_name (by decide)) rfl (Nat.le_of_ble_eq_true rfl) (wfX11_joint p0 p1 p2 σ hz ⟨rfl, rfl⟩)
noncomputable def fX11_eveningBy (p0 : Int32) (σ : St) : Option (Int64 × St) :=
  (fX11_findsSlips ((σ.1 44 2) - (1 : Int32)) (0 : Int32) p0 σ).bind fun q1 => some ((q1.2 60 10), q1)
theorem wfX11_eveningBy {G : ag_G} (p0 : Int32) (σ : St) {z : Int64 × St} (hz : fX11_eveningBy p0 σ = some z) {Q : Option Value → St → Prop} (hk : Q (some (.long z.1)) z.2) : AX G mX11_eveningBy 3 78 0 [(0, .ref (G.2.2.1 44)), (1, .int p0)] [] σ Q := by
  unfold fX11_eveningBy at hz
  refine AX.aload_n dX11_eveningBy_0 0 rfl rfl ?_
  refine AX.aload_n dX11_eveningBy_1 0 rfl rfl ?_
  refine AX.getIE (v := σ.1 44 2) dX11_eveningBy_2 flRX11_97 rfl rfl rfl ?_
  refine AX.iconst dX11_eveningBy_5 ic_1 ?_
  refine AX.isub dX11_eveningBy_6 ?_
  refine AX.iconst dX11_eveningBy_7 ic_0 ?_
  refine AX.iload_n dX11_eveningBy_8 1 rfl rfl ?_
  obtain ⟨q1, hq1, hz⟩ := obind hz
  refine AX.callVw (r := 44) (As := [.int ((σ.1 44 2) - (1 : Int32)), .int 0, .int p0]) (rest := []) (w := none) (st' := []) dX11_eveningBy_9 mlRX11_206 ylX11_findsSlips yvX11_findsSlips rfl rfl rfl (Nat.le_of_ble_eq_true rfl) ⟨Nat.le_of_ble_eq_true rfl, Nat.le_of_ble_eq_true rfl⟩ (xX11_findsSlips ((σ.1 44 2) - (1 : Int32)) (0 : Int32) p0 σ hq1) rfl ?_
  refine AX.aload_n dX11_eveningBy_12 0 rfl rfl ?_
  refine AX.getR dX11_eveningBy_13 flRX11_56 rfl rfl ?_
  refine AX.bipush dX11_eveningBy_16 bp_10 ?_
  refine AX.laldE (v := q1.2 60 10) dX11_eveningBy_18 rfl rfl rfl ?_
  exact AX.lreturn dX11_eveningBy_19 rfl (kz (P := fun z => Q (some (.long z.1)) z.2) hz hk)
theorem xX11_eveningBy {G : ag_G} (p0 : Int32) (σ : St) {z : Int64 × St} (hz : fX11_eveningBy p0 σ = some z) : AC G yX11_eveningBy mX11_eveningBy 3 78 [.ref (G.2.2.1 44), .int p0] σ (fun v σ1 => v = some (.long z.1) ∧ σ1 = z.2) := AC.of (plainFor_of_name (by decide)) rfl (Nat.le_of_ble_eq_true rfl) (wfX11_eveningBy p0 σ hz ⟨rfl, rfl⟩)
noncomputable def fX11_eveningOf (p0 : Int32) (p1 : Int32) (σ : St) : Option (Int64 × St) :=
  (fX11_reads  σ).bind fun q1 => if (q1.1 44 2) = (0 : Int32) then (fX11_no (-3 : Int32)).bind fun q5 => some (q5, q1) else (fX11_eveningBy p0 q1).bind fun q3 => (fX11_lowest q3.1 (q3.2.2 44 25) p1).bind fun q4 => some (q4, q3.2)
theorem wfX11_eveningOf {G : ag_G} (p0 : Int32) (p1 : Int32) (σ : St) {z : Int64 × St} (hz : fX11_eveningOf p0 p1 σ = some z) {Q : Option Value → St → Prop} (hk : Q (some (.long z.1)) z.2) : AX G mX11_eveningOf 5 114 0 [(0, .ref (G.2.2.1 44)), (1, .int p0), (2, .int p1)] [] σ Q := by
  unfold fX11_eveningOf at hz
  refine AX.aload_n dX11_eveningOf_0 0 rfl rfl ?_
  obtain ⟨q1, hq1, hz⟩ := obind hz
  refine AX.callVw (r := 44) (As := []) (rest := []) (w := none) (st' := []) dX11_eveningOf_1 mlRX11_121 ylX11_reads yvX11_reads rfl rfl rfl (Nat.le_of_ble_eq_true rfl) ⟨Nat.le_of_ble_eq_true rfl, Nat.le_of_ble_eq_true rfl⟩ (xX11_reads  σ hq1) rfl ?_
  refine AX.aload_n dX11_eveningOf_4 0 rfl rfl ?_
  refine AX.getIE (v := q1.1 44 2) dX11_eveningOf_5 flRX11_97 rfl rfl rfl ?_
  refine AX.if_ne (tgt := 17) dX11_eveningOf_8 rfl (fun c2 => ?_) (fun c2 => ?_)
  · replace hz := (if_neg c2).symm.trans hz
    refine AX.aload_n dX11_eveningOf_17 0 rfl rfl ?_
    refine AX.iload_n dX11_eveningOf_18 1 rfl rfl ?_
    obtain ⟨q3, hq3, hz⟩ := obind hz
    refine AX.callVw (r := 44) (As := [.int p0]) (rest := []) (w := some (.long q3.1)) (st' := [.long q3.1]) dX11_eveningOf_19 mlRX11_239 ylX11_eveningBy yvX11_eveningBy rfl rfl rfl (Nat.le_of_ble_eq_true rfl) ⟨Nat.le_of_ble_eq_true rfl, Nat.le_of_ble_eq_true rfl⟩ (xX11_eveningBy p0 q1 hq3) rfl ?_
    refine AX.lstore_n (ls' := [(0, .ref (G.2.2.1 44)), (1, .int p0), (2, .int p1), (3, .long q3.1)]) dX11_eveningOf_22 rfl (Nat.le_of_ble_eq_true rfl) rfl ?_
    refine AX.lload_n dX11_eveningOf_23 3 rfl rfl ?_
    refine AX.aload_n dX11_eveningOf_24 0 rfl rfl ?_
    refine AX.getJE (v := q3.2.2 44 25) dX11_eveningOf_25 flRX11_193 rfl rfl rfl ?_
    refine AX.iload_n dX11_eveningOf_28 2 rfl rfl ?_
    obtain ⟨q4, hq4, hz⟩ := obind hz
    refine AX.callSw (As := [.long q3.1, .long (q3.2.2 44 25), .int p1]) (rest := []) (w := some (.long q4)) (st' := [.long q4]) dX11_eveningOf_29 mlRX11_172 ylX11_lowest ysX11_lowest rfl rfl (Nat.le_of_ble_eq_true rfl) ⟨Nat.le_of_ble_eq_true rfl, Nat.le_of_ble_eq_true rfl⟩ (xX11_lowest q3.1 (q3.2.2 44 25) p1 q3.2 hq4) rfl ?_
    exact AX.lreturn dX11_eveningOf_32 rfl (kz (P := fun z => Q (some (.long z.1)) z.2) hz hk)
  · replace hz := (if_pos c2).symm.trans hz
    refine AX.bipush dX11_eveningOf_11 bp_m3 ?_
    obtain ⟨q5, hq5, hz⟩ := obind hz
    refine AX.callSw (As := [.int (-3)]) (rest := []) (w := some (.long q5)) (st' := [.long q5]) dX11_eveningOf_13 mlRX11_168 ylX11_no ysX11_no rfl rfl (Nat.le_of_ble_eq_true rfl) ⟨Nat.le_of_ble_eq_true rfl, Nat.le_of_ble_eq_true rfl⟩ (xX11_no (-3 : Int32) q1 hq5) rfl ?_
    exact AX.lreturn dX11_eveningOf_16 rfl (kz (P := fun z => Q (some (.long z.1)) z.2) hz hk)
theorem xX11_eveningOf {G : ag_G} (p0 : Int32) (p1 : Int32) (σ : St) {z : Int64 × St} (hz : fX11_eveningOf p0 p1 σ = some z) : AC G yX11_eveningOf mX11_eveningOf 5 114 [.ref (G.2.2.1 44), .int p0, .int p1] σ (fun v σ1 => v = some (.long z.1) ∧ σ1 = z.2) := AC.of (plainFor_of_name (by decide)) rfl (Nat.le_of_ble_eq_true rfl) (wfX11_eveningOf p0 p1 σ hz ⟨rfl, rfl⟩)
noncomputable def fX11_evening_j28  (σ : St) : Option (Int64 × St) :=
  (fX11_no (-2 : Int32)).bind fun q1 => some (q1, σ)
theorem wfX11_evening_j28 {G : ag_G}  (σ : St) {z : Int64 × St} (hz : fX11_evening_j28  σ = some z) {Q : Option Value → St → Prop} (hk : Q (some (.long z.1)) z.2) : AX G mX11_evening 6 138 28 [] [] σ Q := by
  unfold fX11_evening_j28 at hz
  refine AX.bipush dX11_evening_28 bp_m2 ?_
  obtain ⟨q1, hq1, hz⟩ := obind hz
  refine AX.callSw (As := [.int (-2)]) (rest := []) (w := some (.long q1)) (st' := [.long q1]) dX11_evening_30 mlRX11_168 ylX11_no ysX11_no rfl rfl (Nat.le_of_ble_eq_true rfl) ⟨Nat.le_of_ble_eq_true rfl, Nat.le_of_ble_eq_true rfl⟩ (xX11_no (-2 : Int32) σ hq1) rfl ?_
  exact AX.lreturn dX11_evening_33 rfl (kz (P := fun z => Q (some (.long z.1)) z.2) hz hk)
noncomputable def fX11_evening (p0 : Int32) (p1 : Int32) (σ : St) : Option (Int64 × St) :=
  (fX11_in p0 (0 : Int32) (59 : Int32)).bind fun q1 => if q1 = (0 : Int32) then fX11_evening_j28  σ else (fX11_in p1 (0 : Int32) (1 : Int32)).bind fun q3 => if q3 = (0 : Int32) then fX11_evening_j28  σ else (fX11_eveningOf p0 p1 σ).bind fun q5 => some (q5.1, q5.2)
theorem wfX11_evening {G : ag_G} (p0 : Int32) (p1 : Int32) (σ : St) {z : Int64 × St} (hz : fX11_evening p0 p1 σ = some z) {Q : Option Value → St → Prop} (hk : Q (some (.long z.1)) z.2) : AX G mX11_evening 6 138 0 [(0, .ref (G.2.2.1 44)), (1, .int p0), (2, .int p1)] [] σ Q := by
  unfold fX11_evening at hz
  refine AX.iload_n dX11_evening_0 1 rfl rfl ?_
  refine AX.iconst dX11_evening_1 ic_0 ?_
  refine AX.bipush dX11_evening_2 bp_59 ?_
  obtain ⟨q1, hq1, hz⟩ := obind hz
  refine AX.callSw (As := [.int p0, .int 0, .int 59]) (rest := []) (w := some (.int q1)) (st' := [.int q1]) dX11_evening_4 mlRX11_89 ylX11_in ysX11_in rfl rfl (Nat.le_of_ble_eq_true rfl) ⟨Nat.le_of_ble_eq_true rfl, Nat.le_of_ble_eq_true rfl⟩ (xX11_in p0 (0 : Int32) (59 : Int32) σ hq1) rfl ?_
  refine AX.if_eq (tgt := 28) dX11_evening_7 rfl (fun c2 => ?_) (fun c2 => ?_)
  · replace hz := (if_pos c2).symm.trans hz
    exact AX.sub (ls' := []) [] rfl (wfX11_evening_j28  σ hz hk)
  · replace hz := (if_neg c2).symm.trans hz
    refine AX.iload_n dX11_evening_10 2 rfl rfl ?_
    refine AX.iconst dX11_evening_11 ic_0 ?_
    refine AX.iconst dX11_evening_12 ic_1 ?_
    obtain ⟨q3, hq3, hz⟩ := obind hz
    refine AX.callSw (As := [.int p1, .int 0, .int 1]) (rest := []) (w := some (.int q3)) (st' := [.int q3]) dX11_evening_13 mlRX11_89 ylX11_in ysX11_in rfl rfl (Nat.le_of_ble_eq_true rfl) ⟨Nat.le_of_ble_eq_true rfl, Nat.le_of_ble_eq_true rfl⟩ (xX11_in p1 (0 : Int32) (1 : Int32) σ hq3) rfl ?_
    refine AX.if_eq (tgt := 28) dX11_evening_16 rfl (fun c4 => ?_) (fun c4 => ?_)
    · replace hz := (if_pos c4).symm.trans hz
      exact AX.sub (ls' := []) [] rfl (wfX11_evening_j28  σ hz hk)
    · replace hz := (if_neg c4).symm.trans hz
      refine AX.aload_n dX11_evening_19 0 rfl rfl ?_
      refine AX.iload_n dX11_evening_20 1 rfl rfl ?_
      refine AX.iload_n dX11_evening_21 2 rfl rfl ?_
      obtain ⟨q5, hq5, hz⟩ := obind hz
      refine AX.callVw (r := 44) (As := [.int p0, .int p1]) (rest := []) (w := some (.long q5.1)) (st' := [.long q5.1]) dX11_evening_22 mlRX11_242 ylX11_eveningOf yvX11_eveningOf rfl rfl rfl (Nat.le_of_ble_eq_true rfl) ⟨Nat.le_of_ble_eq_true rfl, Nat.le_of_ble_eq_true rfl⟩ (xX11_eveningOf p0 p1 σ hq5) rfl ?_
      refine AX.goto (tgt := 33) dX11_evening_25 rfl ?_
      exact AX.lreturn dX11_evening_33 rfl (kz (P := fun z => Q (some (.long z.1)) z.2) hz hk)
theorem xX11_evening {G : ag_G} (p0 : Int32) (p1 : Int32) (σ : St) {z : Int64 × St} (hz : fX11_evening p0 p1 σ = some z) : AC G yX11_evening mX11_evening 6 138 [.ref (G.2.2.1 44), .int p0, .int p1] σ (fun v σ1 => v = some (.long z.1) ∧ σ1 = z.2) := AC.of (plainFor_of_name (by decide)) rfl (Nat.le_of_ble_eq_true rfl) (wfX11_evening p0 p1 σ hz ⟨rfl, rfl⟩)
noncomputable def fX11_primeOf_j43 (l1 : Int32) (l3 : Int32) (t0 : Int32) (σ : St) : Option ((Int32 × Int32 × St) ⊕ (Int32 × St)) :=
  some (.inl (t0, l3 + 1, σ))
theorem wfX11_primeOf_j43 {G : ag_G} (l1 : Int32) (l3 : Int32) (t0 : Int32) (σ : St) {z : (Int32 × Int32 × St) ⊕ (Int32 × St)} (hz : fX11_primeOf_j43 l1 l3 t0 σ = some z) {Q : Option Value → St → Prop} (K : ((Int32 × Int32 × St) ⊕ (Int32 × St)) → Prop) (hback : ∀ a : Int32 × Int32 × St, K (.inl a) → AX G mX11_primeOf 5 114 18 [(0, .ref (G.2.2.1 44)), (1, .int l1), (2, .int a.1), (3, .int a.2.1)] [] a.2.2 Q) (hk : K z) : AX G mX11_primeOf 5 114 43 [(0, .ref (G.2.2.1 44)), (1, .int l1), (3, .int l3)] [.int t0] σ Q := by
  unfold fX11_primeOf_j43 at hz
  refine AX.istore_n (ls' := [(0, .ref (G.2.2.1 44)), (1, .int l1), (2, .int t0), (3, .int l3)]) dX11_primeOf_43 rfl (Nat.le_of_ble_eq_true rfl) rfl ?_
  refine AX.iinc (v := l3 + 1) (ls' := [(0, .ref (G.2.2.1 44)), (1, .int l1), (2, .int t0), (3, .int (l3 + 1))]) 3 dX11_primeOf_44 rfl (Nat.le_of_ble_eq_true rfl) (congrArg (l3 + ·) ic_1) rfl ?_
  refine AX.goto (tgt := 18) dX11_primeOf_47 rfl ?_
  exact AX.sub (ls' := [(0, .ref (G.2.2.1 44)), (1, .int l1), (2, .int t0), (3, .int (l3 + 1))]) [0, 1, 2, 3] rfl (hback (t0, l3 + 1, σ) (kz (P := K) hz hk))
noncomputable def fX11_primeOf_b18 (l1 : Int32) (l2 : Int32) (l3 : Int32) (σ : St) : Option ((Int32 × Int32 × St) ⊕ (Int32 × St)) :=
  if (60 : Int32) ≤ l3 then some (.inr (l2, σ)) else (fX11_eveningBy l3 σ).bind fun q2 => (fX11_eveningBy l2 q2.2).bind fun q3 => if q2.1 ≤ q3.1 then fX11_primeOf_j43 l1 l3 l2 q3.2 else fX11_primeOf_j43 l1 l3 l3 q3.2
theorem wfX11_primeOf_b18 {G : ag_G} (l1 : Int32) (l2 : Int32) (l3 : Int32) (σ : St) {z : (Int32 × Int32 × St) ⊕ (Int32 × St)} (hz : fX11_primeOf_b18 l1 l2 l3 σ = some z) {Q : Option Value → St → Prop} (K : ((Int32 × Int32 × St) ⊕ (Int32 × St)) → Prop) (hback : ∀ a : Int32 × Int32 × St, K (.inl a) → AX G mX11_primeOf 5 114 18 [(0, .ref (G.2.2.1 44)), (1, .int l1), (2, .int a.1), (3, .int a.2.1)] [] a.2.2 Q) (hexit0 : ∀ a : Int32 × St, K (.inr a) → AX G mX11_primeOf 5 114 50 [(0, .ref (G.2.2.1 44)), (1, .int l1), (2, .int a.1)] [] a.2 Q) (hk : K z) : AX G mX11_primeOf 5 114 18 [(0, .ref (G.2.2.1 44)), (1, .int l1), (2, .int l2), (3, .int l3)] [] σ Q := by
  unfold fX11_primeOf_b18 at hz
  refine AX.iload_n dX11_primeOf_18 3 rfl rfl ?_
  refine AX.bipush dX11_primeOf_19 bp_60 ?_
  refine AX.icmp_ge (tgt := 50) dX11_primeOf_21 rfl (fun c1 => ?_) (fun c1 => ?_)
  · replace hz := (if_pos c1).symm.trans hz
    exact AX.sub (ls' := [(0, .ref (G.2.2.1 44)), (1, .int l1), (2, .int l2)]) [0, 1, 2] rfl (hexit0 (l2, σ) (kz (P := K) hz hk))
  · replace hz := (if_neg c1).symm.trans hz
    refine AX.aload_n dX11_primeOf_24 0 rfl rfl ?_
    refine AX.iload_n dX11_primeOf_25 3 rfl rfl ?_
    obtain ⟨q2, hq2, hz⟩ := obind hz
    refine AX.callVw (r := 44) (As := [.int l3]) (rest := []) (w := some (.long q2.1)) (st' := [.long q2.1]) dX11_primeOf_26 mlRX11_239 ylX11_eveningBy yvX11_eveningBy rfl rfl rfl (Nat.le_of_ble_eq_true rfl) ⟨Nat.le_of_ble_eq_true rfl, Nat.le_of_ble_eq_true rfl⟩ (xX11_eveningBy l3 σ hq2) rfl ?_
    refine AX.aload_n dX11_primeOf_29 0 rfl rfl ?_
    refine AX.iload_n dX11_primeOf_30 2 rfl rfl ?_
    obtain ⟨q3, hq3, hz⟩ := obind hz
    refine AX.callVw (r := 44) (As := [.int l2]) (rest := [.long q2.1]) (w := some (.long q3.1)) (st' := [.long q3.1, .long q2.1]) dX11_primeOf_31 mlRX11_239 ylX11_eveningBy yvX11_eveningBy rfl rfl rfl (Nat.le_of_ble_eq_true rfl) ⟨Nat.le_of_ble_eq_true rfl, Nat.le_of_ble_eq_true rfl⟩ (xX11_eveningBy l2 q2.2 hq3) rfl ?_
    refine AX.lcmp_le (tgt := 42) dX11_primeOf_34 dX11_primeOf_35 rfl (fun c4 => ?_) (fun c4 => ?_)
    · replace hz := (if_pos c4).symm.trans hz
      refine AX.iload_n dX11_primeOf_42 2 rfl rfl ?_
      exact AX.sub (ls' := [(0, .ref (G.2.2.1 44)), (1, .int l1), (3, .int l3)]) [0, 1, 3] rfl (wfX11_primeOf_j43 l1 l3 l2 q3.2 hz K hback hk)
    · replace hz := (if_neg c4).symm.trans hz
      refine AX.iload_n dX11_primeOf_38 3 rfl rfl ?_
      refine AX.goto (tgt := 43) dX11_primeOf_39 rfl ?_
      exact AX.sub (ls' := [(0, .ref (G.2.2.1 44)), (1, .int l1), (3, .int l3)]) [0, 1, 3] rfl (wfX11_primeOf_j43 l1 l3 l3 q3.2 hz K hback hk)
noncomputable def fX11_primeOf_b52 (l1 : Int32) (l2 : Int32) (l3 : Int32) (σ : St) : Option ((Int32 × St) ⊕ (Int32 × St)) :=
  if (60 : Int32) ≤ (l2 + l3) then some (.inr (l3, σ)) else (fX11_eveningBy (l2 + l3) σ).bind fun q2 => (fX11_eveningBy l2 q2.2).bind fun q3 => if q2.1 = q3.1 then some (.inl (l3 + 1, q3.2)) else some (.inr (l3, q3.2))
theorem wfX11_primeOf_b52 {G : ag_G} (l1 : Int32) (l2 : Int32) (l3 : Int32) (σ : St) {z : (Int32 × St) ⊕ (Int32 × St)} (hz : fX11_primeOf_b52 l1 l2 l3 σ = some z) {Q : Option Value → St → Prop} (K : ((Int32 × St) ⊕ (Int32 × St)) → Prop) (hback : ∀ a : Int32 × St, K (.inl a) → AX G mX11_primeOf 5 114 52 [(0, .ref (G.2.2.1 44)), (1, .int l1), (2, .int l2), (3, .int a.1)] [] a.2 Q) (hexit0 : ∀ a : Int32 × St, K (.inr a) → AX G mX11_primeOf 5 114 82 [(1, .int l1), (2, .int l2), (3, .int a.1)] [] a.2 Q) (hk : K z) : AX G mX11_primeOf 5 114 52 [(0, .ref (G.2.2.1 44)), (1, .int l1), (2, .int l2), (3, .int l3)] [] σ Q := by
  unfold fX11_primeOf_b52 at hz
  refine AX.iload_n dX11_primeOf_52 2 rfl rfl ?_
  refine AX.iload_n dX11_primeOf_53 3 rfl rfl ?_
  refine AX.iadd dX11_primeOf_54 ?_
  refine AX.bipush dX11_primeOf_55 bp_60 ?_
  refine AX.icmp_ge (tgt := 82) dX11_primeOf_57 rfl (fun c1 => ?_) (fun c1 => ?_)
  · replace hz := (if_pos c1).symm.trans hz
    exact AX.sub (ls' := [(1, .int l1), (2, .int l2), (3, .int l3)]) [1, 2, 3] rfl (hexit0 (l3, σ) (kz (P := K) hz hk))
  · replace hz := (if_neg c1).symm.trans hz
    refine AX.aload_n dX11_primeOf_60 0 rfl rfl ?_
    refine AX.iload_n dX11_primeOf_61 2 rfl rfl ?_
    refine AX.iload_n dX11_primeOf_62 3 rfl rfl ?_
    refine AX.iadd dX11_primeOf_63 ?_
    obtain ⟨q2, hq2, hz⟩ := obind hz
    refine AX.callVw (r := 44) (As := [.int (l2 + l3)]) (rest := []) (w := some (.long q2.1)) (st' := [.long q2.1]) dX11_primeOf_64 mlRX11_239 ylX11_eveningBy yvX11_eveningBy rfl rfl rfl (Nat.le_of_ble_eq_true rfl) ⟨Nat.le_of_ble_eq_true rfl, Nat.le_of_ble_eq_true rfl⟩ (xX11_eveningBy (l2 + l3) σ hq2) rfl ?_
    refine AX.aload_n dX11_primeOf_67 0 rfl rfl ?_
    refine AX.iload_n dX11_primeOf_68 2 rfl rfl ?_
    obtain ⟨q3, hq3, hz⟩ := obind hz
    refine AX.callVw (r := 44) (As := [.int l2]) (rest := [.long q2.1]) (w := some (.long q3.1)) (st' := [.long q3.1, .long q2.1]) dX11_primeOf_69 mlRX11_239 ylX11_eveningBy yvX11_eveningBy rfl rfl rfl (Nat.le_of_ble_eq_true rfl) ⟨Nat.le_of_ble_eq_true rfl, Nat.le_of_ble_eq_true rfl⟩ (xX11_eveningBy l2 q2.2 hq3) rfl ?_
    refine AX.lcmp_ne (tgt := 82) dX11_primeOf_72 dX11_primeOf_73 rfl (fun c4 => ?_) (fun c4 => ?_)
    · replace hz := (if_neg c4).symm.trans hz
      exact AX.sub (ls' := [(1, .int l1), (2, .int l2), (3, .int l3)]) [1, 2, 3] rfl (hexit0 (l3, q3.2) (kz (P := K) hz hk))
    · replace hz := (if_pos c4).symm.trans hz
      refine AX.iinc (v := l3 + 1) (ls' := [(0, .ref (G.2.2.1 44)), (1, .int l1), (2, .int l2), (3, .int (l3 + 1))]) 3 dX11_primeOf_76 rfl (Nat.le_of_ble_eq_true rfl) (congrArg (l3 + ·) ic_1) rfl ?_
      refine AX.goto (tgt := 52) dX11_primeOf_79 rfl ?_
      exact AX.sub (ls' := [(0, .ref (G.2.2.1 44)), (1, .int l1), (2, .int l2), (3, .int (l3 + 1))]) [0, 1, 2, 3] rfl (hback (l3 + 1, q3.2) (kz (P := K) hz hk))
noncomputable def fX11_primeOf (p0 : Int32) (σ : St) : Option (Int32 × St) :=
  (fX11_reads  σ).bind fun q1 => if (q1.1 44 2) = (0 : Int32) then some ((-3 : Int32), q1) else (lpc (fun s => fX11_primeOf_b18 p0 s.1 s.2.1 s.2.2) (0, 1, q1)).bind fun r3 => (lpc (fun s => fX11_primeOf_b52 p0 r3.1 s.1 s.2) (0, r3.2)).bind fun r4 => if p0 = (0 : Int32) then some (r3.1, r4.2) else some (r4.1, r4.2)
theorem wfX11_primeOf {G : ag_G} (p0 : Int32) (σ : St) {z : Int32 × St} (hz : fX11_primeOf p0 σ = some z) {Q : Option Value → St → Prop} (hk : Q (some (.int z.1)) z.2) : AX G mX11_primeOf 5 114 0 [(0, .ref (G.2.2.1 44)), (1, .int p0)] [] σ Q := by
  unfold fX11_primeOf at hz
  refine AX.aload_n dX11_primeOf_0 0 rfl rfl ?_
  obtain ⟨q1, hq1, hz⟩ := obind hz
  refine AX.callVw (r := 44) (As := []) (rest := []) (w := none) (st' := []) dX11_primeOf_1 mlRX11_121 ylX11_reads yvX11_reads rfl rfl rfl (Nat.le_of_ble_eq_true rfl) ⟨Nat.le_of_ble_eq_true rfl, Nat.le_of_ble_eq_true rfl⟩ (xX11_reads  σ hq1) rfl ?_
  refine AX.aload_n dX11_primeOf_4 0 rfl rfl ?_
  refine AX.getIE (v := q1.1 44 2) dX11_primeOf_5 flRX11_97 rfl rfl rfl ?_
  refine AX.if_ne (tgt := 14) dX11_primeOf_8 rfl (fun c2 => ?_) (fun c2 => ?_)
  · replace hz := (if_neg c2).symm.trans hz
    refine AX.iconst dX11_primeOf_14 ic_0 ?_
    refine AX.istore_n (ls' := [(0, .ref (G.2.2.1 44)), (1, .int p0), (2, .int 0)]) dX11_primeOf_15 rfl (Nat.le_of_ble_eq_true rfl) rfl ?_
    refine AX.iconst dX11_primeOf_16 ic_1 ?_
    refine AX.istore_n (ls' := [(0, .ref (G.2.2.1 44)), (1, .int p0), (2, .int 0), (3, .int 1)]) dX11_primeOf_17 rfl (Nat.le_of_ble_eq_true rfl) rfl ?_
    obtain ⟨r3, hr3, hz⟩ := obind hz
    refine AX.sub (ls' := [(0, .ref (G.2.2.1 44)), (1, .int p0), (2, .int 0), (3, .int 1)]) [0, 1, 2, 3] rfl ?_
    refine lpc_ind (s := (0, 1, q1)) (r := r3) (fun s => AX G mX11_primeOf 5 114 18 [(0, .ref (G.2.2.1 44)), (1, .int p0), (2, .int s.1), (3, .int s.2.1)] [] s.2.2 Q) (fun a : Int32 × St => AX G mX11_primeOf 5 114 50 [(0, .ref (G.2.2.1 44)), (1, .int p0), (2, .int a.1)] [] a.2 Q) hr3 (fun s z hb hK => wfX11_primeOf_b18 p0 s.1 s.2.1 s.2.2 hb (Sum.elim (fun s => AX G mX11_primeOf 5 114 18 [(0, .ref (G.2.2.1 44)), (1, .int p0), (2, .int s.1), (3, .int s.2.1)] [] s.2.2 Q) (fun a : Int32 × St => AX G mX11_primeOf 5 114 50 [(0, .ref (G.2.2.1 44)), (1, .int p0), (2, .int a.1)] [] a.2 Q)) (fun _ h9 => h9) (fun _ h9 => h9) hK) ?_
    refine AX.iconst dX11_primeOf_50 ic_0 ?_
    refine AX.istore_n (ls' := [(0, .ref (G.2.2.1 44)), (1, .int p0), (2, .int r3.1), (3, .int 0)]) dX11_primeOf_51 rfl (Nat.le_of_ble_eq_true rfl) rfl ?_
    obtain ⟨r4, hr4, hz⟩ := obind hz
    refine AX.sub (ls' := [(0, .ref (G.2.2.1 44)), (1, .int p0), (2, .int r3.1), (3, .int 0)]) [0, 1, 2, 3] rfl ?_
    refine lpc_ind (s := (0, r3.2)) (r := r4) (fun s => AX G mX11_primeOf 5 114 52 [(0, .ref (G.2.2.1 44)), (1, .int p0), (2, .int r3.1), (3, .int s.1)] [] s.2 Q) (fun a : Int32 × St => AX G mX11_primeOf 5 114 82 [(1, .int p0), (2, .int r3.1), (3, .int a.1)] [] a.2 Q) hr4 (fun s z hb hK => wfX11_primeOf_b52 p0 r3.1 s.1 s.2 hb (Sum.elim (fun s => AX G mX11_primeOf 5 114 52 [(0, .ref (G.2.2.1 44)), (1, .int p0), (2, .int r3.1), (3, .int s.1)] [] s.2 Q) (fun a : Int32 × St => AX G mX11_primeOf 5 114 82 [(1, .int p0), (2, .int r3.1), (3, .int a.1)] [] a.2 Q)) (fun _ h9 => h9) (fun _ h9 => h9) hK) ?_
    refine AX.iload_n dX11_primeOf_82 0 rfl rfl ?_
    refine AX.if_ne (tgt := 90) dX11_primeOf_83 rfl (fun c5 => ?_) (fun c5 => ?_)
    · replace hz := (if_neg c5).symm.trans hz
      refine AX.iload_n dX11_primeOf_90 2 rfl rfl ?_
      exact AX.ireturn dX11_primeOf_91 rfl (vp_nar_int _) (kz (P := fun z => Q (some (.int z.1)) z.2) hz hk)
    · replace hz := (if_pos c5).symm.trans hz
      refine AX.iload_n dX11_primeOf_86 1 rfl rfl ?_
      refine AX.goto (tgt := 91) dX11_primeOf_87 rfl ?_
      exact AX.ireturn dX11_primeOf_91 rfl (vp_nar_int _) (kz (P := fun z => Q (some (.int z.1)) z.2) hz hk)
  · replace hz := (if_pos c2).symm.trans hz
    refine AX.bipush dX11_primeOf_11 bp_m3 ?_
    exact AX.ireturn dX11_primeOf_13 rfl (vp_nar_int _) (kz (P := fun z => Q (some (.int z.1)) z.2) hz hk)
theorem xX11_primeOf {G : ag_G} (p0 : Int32) (σ : St) {z : Int32 × St} (hz : fX11_primeOf p0 σ = some z) : AC G yX11_primeOf mX11_primeOf 5 114 [.ref (G.2.2.1 44), .int p0] σ (fun v σ1 => v = some (.int z.1) ∧ σ1 = z.2) := AC.of (plainFor_of_name (by decide)) rfl (Nat.le_of_ble_eq_true rfl) (wfX11_primeOf p0 σ hz ⟨rfl, rfl⟩)
noncomputable def fX11_prime (p0 : Int32) (σ : St) : Option (Int32 × St) :=
  (fX11_in p0 (0 : Int32) (1 : Int32)).bind fun q1 => if q1 = (0 : Int32) then some ((-2 : Int32), σ) else (fX11_primeOf p0 σ).bind fun q3 => some (q3.1, q3.2)
theorem wfX11_prime {G : ag_G} (p0 : Int32) (σ : St) {z : Int32 × St} (hz : fX11_prime p0 σ = some z) {Q : Option Value → St → Prop} (hk : Q (some (.int z.1)) z.2) : AX G mX11_prime 6 137 0 [(0, .ref (G.2.2.1 44)), (1, .int p0)] [] σ Q := by
  unfold fX11_prime at hz
  refine AX.iload_n dX11_prime_0 1 rfl rfl ?_
  refine AX.iconst dX11_prime_1 ic_0 ?_
  refine AX.iconst dX11_prime_2 ic_1 ?_
  obtain ⟨q1, hq1, hz⟩ := obind hz
  refine AX.callSw (As := [.int p0, .int 0, .int 1]) (rest := []) (w := some (.int q1)) (st' := [.int q1]) dX11_prime_3 mlRX11_89 ylX11_in ysX11_in rfl rfl (Nat.le_of_ble_eq_true rfl) ⟨Nat.le_of_ble_eq_true rfl, Nat.le_of_ble_eq_true rfl⟩ (xX11_in p0 (0 : Int32) (1 : Int32) σ hq1) rfl ?_
  refine AX.if_eq (tgt := 17) dX11_prime_6 rfl (fun c2 => ?_) (fun c2 => ?_)
  · replace hz := (if_pos c2).symm.trans hz
    refine AX.bipush dX11_prime_17 bp_m2 ?_
    exact AX.ireturn dX11_prime_19 rfl (vp_nar_int _) (kz (P := fun z => Q (some (.int z.1)) z.2) hz hk)
  · replace hz := (if_neg c2).symm.trans hz
    refine AX.aload_n dX11_prime_9 0 rfl rfl ?_
    refine AX.iload_n dX11_prime_10 1 rfl rfl ?_
    obtain ⟨q3, hq3, hz⟩ := obind hz
    refine AX.callVw (r := 44) (As := [.int p0]) (rest := []) (w := some (.int q3.1)) (st' := [.int q3.1]) dX11_prime_11 mlRX11_245 ylX11_primeOf yvX11_primeOf rfl rfl rfl (Nat.le_of_ble_eq_true rfl) ⟨Nat.le_of_ble_eq_true rfl, Nat.le_of_ble_eq_true rfl⟩ (xX11_primeOf p0 σ hq3) rfl ?_
    refine AX.goto (tgt := 19) dX11_prime_14 rfl ?_
    exact AX.ireturn dX11_prime_19 rfl (vp_nar_int _) (kz (P := fun z => Q (some (.int z.1)) z.2) hz hk)
theorem xX11_prime {G : ag_G} (p0 : Int32) (σ : St) {z : Int32 × St} (hz : fX11_prime p0 σ = some z) : AC G yX11_prime mX11_prime 6 137 [.ref (G.2.2.1 44), .int p0] σ (fun v σ1 => v = some (.int z.1) ∧ σ1 = z.2) := AC.of (plainFor_of_name (by decide)) rfl (Nat.le_of_ble_eq_true rfl) (wfX11_prime p0 σ hz ⟨rfl, rfl⟩)
noncomputable def fX11_player_j20  (σ : St) : Option (Int32 × St) :=
  some ((-2 : Int32), σ)
theorem wfX11_player_j20 {G : ag_G}  (σ : St) {z : Int32 × St} (hz : fX11_player_j20  σ = some z) {Q : Option Value → St → Prop} (hk : Q (some (.int z.1)) z.2) : AX G mX11_player 1 22 20 [] [] σ Q := by
  unfold fX11_player_j20 at hz
  refine AX.bipush dX11_player_20 bp_m2 ?_
  exact AX.ireturn dX11_player_22 rfl (vp_nar_int _) (kz (P := fun z => Q (some (.int z.1)) z.2) hz hk)
noncomputable def fX11_player (p0 : Int32) (p1 : Int32) (σ : St) : Option (Int32 × St) :=
  (fX11_in p0 (1 : Int32) (98 : Int32)).bind fun q1 => if q1 = (0 : Int32) then fX11_player_j20  σ else (fX11_in p1 (1 : Int32) (99 : Int32)).bind fun q3 => if q3 = (0 : Int32) then fX11_player_j20  σ else if (σ.1 44 26) = (8 : Int32) then some ((-4 : Int32), σ) else if inb (σ.1 44 26) 8 = true then some (((σ.1 44 26) + (1 : Int32)), (sI (sI (sI σ 62 ((σ.1 44 26).toNatClampNeg) p0) 63 ((σ.1 44 26).toNatClampNeg) p1) 44 26 ((σ.1 44 26) + (1 : Int32)))) else none
theorem wfX11_player {G : ag_G} (p0 : Int32) (p1 : Int32) (σ : St) {z : Int32 × St} (hz : fX11_player p0 p1 σ = some z) {Q : Option Value → St → Prop} (hk : Q (some (.int z.1)) z.2) : AX G mX11_player 1 22 0 [(0, .ref (G.2.2.1 44)), (1, .int p0), (2, .int p1)] [] σ Q := by
  unfold fX11_player at hz
  refine AX.iload_n dX11_player_0 1 rfl rfl ?_
  refine AX.iconst dX11_player_1 ic_1 ?_
  refine AX.bipush dX11_player_2 bp_98 ?_
  obtain ⟨q1, hq1, hz⟩ := obind hz
  refine AX.callSw (As := [.int p0, .int 1, .int 98]) (rest := []) (w := some (.int q1)) (st' := [.int q1]) dX11_player_4 mlRX11_89 ylX11_in ysX11_in rfl rfl (Nat.le_of_ble_eq_true rfl) ⟨Nat.le_of_ble_eq_true rfl, Nat.le_of_ble_eq_true rfl⟩ (xX11_in p0 (1 : Int32) (98 : Int32) σ hq1) rfl ?_
  refine AX.if_eq (tgt := 20) dX11_player_7 rfl (fun c2 => ?_) (fun c2 => ?_)
  · replace hz := (if_pos c2).symm.trans hz
    exact AX.sub (ls' := []) [] rfl (wfX11_player_j20  σ hz hk)
  · replace hz := (if_neg c2).symm.trans hz
    refine AX.iload_n dX11_player_10 2 rfl rfl ?_
    refine AX.iconst dX11_player_11 ic_1 ?_
    refine AX.bipush dX11_player_12 bp_99 ?_
    obtain ⟨q3, hq3, hz⟩ := obind hz
    refine AX.callSw (As := [.int p1, .int 1, .int 99]) (rest := []) (w := some (.int q3)) (st' := [.int q3]) dX11_player_14 mlRX11_89 ylX11_in ysX11_in rfl rfl (Nat.le_of_ble_eq_true rfl) ⟨Nat.le_of_ble_eq_true rfl, Nat.le_of_ble_eq_true rfl⟩ (xX11_in p1 (1 : Int32) (99 : Int32) σ hq3) rfl ?_
    refine AX.if_ne (tgt := 23) dX11_player_17 rfl (fun c4 => ?_) (fun c4 => ?_)
    · replace hz := (if_neg c4).symm.trans hz
      refine AX.aload_n dX11_player_23 0 rfl rfl ?_
      refine AX.getIE (v := σ.1 44 26) dX11_player_24 flRX11_248 rfl rfl rfl ?_
      refine AX.bipush dX11_player_27 bp_8 ?_
      refine AX.icmp_ne (tgt := 35) dX11_player_29 rfl (fun c5 => ?_) (fun c5 => ?_)
      · replace hz := (if_neg c5).symm.trans hz
        refine AX.aload_n dX11_player_35 0 rfl rfl ?_
        refine AX.getR dX11_player_36 flRX11_62 rfl rfl ?_
        refine AX.aload_n dX11_player_39 0 rfl rfl ?_
        refine AX.getIE (v := σ.1 44 26) dX11_player_40 flRX11_248 rfl rfl rfl ?_
        refine AX.iload_n dX11_player_43 1 rfl rfl ?_
        obtain ⟨b6, hz⟩ := ite_n hz
        refine AX.iast dX11_player_44 rfl b6 ?_
        refine AX.aload_n dX11_player_45 0 rfl rfl ?_
        refine AX.getR dX11_player_46 flRX11_65 rfl rfl ?_
        refine AX.aload_n dX11_player_49 0 rfl rfl ?_
        refine AX.getIE (v := σ.1 44 26) dX11_player_50 flRX11_248 rfl rfl rfl ?_
        refine AX.iload_n dX11_player_53 2 rfl rfl ?_
        refine AX.iast dX11_player_54 rfl b6 ?_
        refine AX.aload_n dX11_player_55 0 rfl rfl ?_
        refine AX.dup dX11_player_56 rfl ?_
        refine AX.getIE (v := σ.1 44 26) dX11_player_57 flRX11_248 rfl rfl rfl ?_
        refine AX.iconst dX11_player_60 ic_1 ?_
        refine AX.iadd dX11_player_61 ?_
        refine AX.putI dX11_player_62 fpRX11_248 rfl rfl (vp_nar_int _) rfl ?_
        refine AX.aload_n dX11_player_65 0 rfl rfl ?_
        refine AX.getIE (v := (σ.1 44 26) + (1 : Int32)) dX11_player_66 flRX11_248 rfl rfl rfl ?_
        exact AX.ireturn dX11_player_69 rfl (vp_nar_int _) (kz (P := fun z => Q (some (.int z.1)) z.2) hz hk)
      · replace hz := (if_pos c5).symm.trans hz
        refine AX.bipush dX11_player_32 bp_m4 ?_
        exact AX.ireturn dX11_player_34 rfl (vp_nar_int _) (kz (P := fun z => Q (some (.int z.1)) z.2) hz hk)
    · replace hz := (if_pos c4).symm.trans hz
      exact AX.sub (ls' := []) [] rfl (wfX11_player_j20  σ hz hk)
theorem xX11_player {G : ag_G} (p0 : Int32) (p1 : Int32) (σ : St) {z : Int32 × St} (hz : fX11_player p0 p1 σ = some z) : AC G yX11_player mX11_player 1 22 [.ref (G.2.2.1 44), .int p0, .int p1] σ (fun v σ1 => v = some (.int z.1) ∧ σ1 = z.2) := AC.of (plainFor_of_name (by decide)) rfl (Nat.le_of_ble_eq_true rfl) (wfX11_player p0 p1 σ hz ⟨rfl, rfl⟩)
noncomputable def fX11_leave  (σ : St) : Option (Int32 × St) :=
  ltb (σ.1 44 26) fun x1 => some (x1, (sI σ 44 26 0))
theorem wfX11_leave {G : ag_G}  (σ : St) {z : Int32 × St} (hz : fX11_leave  σ = some z) {Q : Option Value → St → Prop} (hk : Q (some (.int z.1)) z.2) : AX G mX11_leave 0 0 0 [(0, .ref (G.2.2.1 44))] [] σ Q := by
  unfold fX11_leave at hz
  refine AX.aload_n dX11_leave_0 0 rfl rfl ?_
  refine AX.getIE (v := σ.1 44 26) dX11_leave_1 flRX11_248 rfl rfl rfl ?_
  obtain ⟨x1, hx1, hz⟩ := ltb_e hz
  refine AX.topI hx1 ?_
  refine AX.istore_n (ls' := [(0, .ref (G.2.2.1 44)), (1, .int x1)]) dX11_leave_4 rfl (Nat.le_of_ble_eq_true rfl) rfl ?_
  refine AX.aload_n dX11_leave_5 0 rfl rfl ?_
  refine AX.iconst dX11_leave_6 ic_0 ?_
  refine AX.putI dX11_leave_7 fpRX11_248 rfl rfl (vp_nar_int _) rfl ?_
  refine AX.iload_n dX11_leave_10 1 rfl rfl ?_
  exact AX.ireturn dX11_leave_11 rfl (vp_nar_int _) (kz (P := fun z => Q (some (.int z.1)) z.2) hz hk)
theorem xX11_leave {G : ag_G}  (σ : St) {z : Int32 × St} (hz : fX11_leave  σ = some z) : AC G yX11_leave mX11_leave 0 0 [.ref (G.2.2.1 44)] σ (fun v σ1 => v = some (.int z.1) ∧ σ1 = z.2) := AC.of (plainFor_of_name (by decide)) rfl (Nat.le_of_ble_eq_true rfl) (wfX11_leave  σ hz ⟨rfl, rfl⟩)
noncomputable def fX11_looksBy_j105 (l1 : Int32) (l2 : Int32) (l3 : Int32) (l5 : Int32) (t0 : Int32) (σ : St) : Option ((Int32 × Int32) ⊕ Int32) :=
  some (.inl (t0, l5 + 1))
theorem wfX11_looksBy_j105 {G : ag_G} (l1 : Int32) (l2 : Int32) (l3 : Int32) (l5 : Int32) (t0 : Int32) (σ : St) {z : (Int32 × Int32) ⊕ Int32} (hz : fX11_looksBy_j105 l1 l2 l3 l5 t0 σ = some z) {Q : Option Value → St → Prop} (K : ((Int32 × Int32) ⊕ Int32) → Prop) (hback : ∀ a : Int32 × Int32, K (.inl a) → AX G mX11_looksBy 1 22 16 [(0, .ref (G.2.2.1 44)), (1, .int l1), (2, .int l2), (3, .int l3), (4, .int a.1), (5, .int a.2)] [] σ Q) (hk : K z) : AX G mX11_looksBy 1 22 105 [(0, .ref (G.2.2.1 44)), (1, .int l1), (2, .int l2), (3, .int l3), (5, .int l5)] [.int t0] σ Q := by
  unfold fX11_looksBy_j105 at hz
  refine AX.istore (ls' := [(0, .ref (G.2.2.1 44)), (1, .int l1), (2, .int l2), (3, .int l3), (4, .int t0), (5, .int l5)]) dX11_looksBy_105 (Nat.le_of_ble_eq_true rfl) rfl ?_
  refine AX.iinc (v := l5 + 1) (ls' := [(0, .ref (G.2.2.1 44)), (1, .int l1), (2, .int l2), (3, .int l3), (4, .int t0), (5, .int (l5 + 1))]) 5 dX11_looksBy_107 rfl (Nat.le_of_ble_eq_true rfl) (congrArg (l5 + ·) ic_1) rfl ?_
  refine AX.goto (tgt := 16) dX11_looksBy_110 rfl ?_
  exact AX.sub (ls' := [(0, .ref (G.2.2.1 44)), (1, .int l1), (2, .int l2), (3, .int l3), (4, .int t0), (5, .int (l5 + 1))]) [0, 1, 2, 3, 4, 5] rfl (hback (t0, l5 + 1) (kz (P := K) hz hk))
noncomputable def fX11_looksBy_j103 (l1 : Int32) (l2 : Int32) (l3 : Int32) (l4 : Int32) (l5 : Int32) (σ : St) : Option ((Int32 × Int32) ⊕ Int32) :=
  fX11_looksBy_j105 l1 l2 l3 l5 l4 σ
theorem wfX11_looksBy_j103 {G : ag_G} (l1 : Int32) (l2 : Int32) (l3 : Int32) (l4 : Int32) (l5 : Int32) (σ : St) {z : (Int32 × Int32) ⊕ Int32} (hz : fX11_looksBy_j103 l1 l2 l3 l4 l5 σ = some z) {Q : Option Value → St → Prop} (K : ((Int32 × Int32) ⊕ Int32) → Prop) (hback : ∀ a : Int32 × Int32, K (.inl a) → AX G mX11_looksBy 1 22 16 [(0, .ref (G.2.2.1 44)), (1, .int l1), (2, .int l2), (3, .int l3), (4, .int a.1), (5, .int a.2)] [] σ Q) (hk : K z) : AX G mX11_looksBy 1 22 103 [(0, .ref (G.2.2.1 44)), (1, .int l1), (2, .int l2), (3, .int l3), (4, .int l4), (5, .int l5)] [] σ Q := by
  unfold fX11_looksBy_j103 at hz
  refine AX.iload dX11_looksBy_103 4 rfl ?_
  exact AX.sub (ls' := [(0, .ref (G.2.2.1 44)), (1, .int l1), (2, .int l2), (3, .int l3), (5, .int l5)]) [0, 1, 2, 3, 5] rfl (wfX11_looksBy_j105 l1 l2 l3 l5 l4 σ hz K hback hk)
noncomputable def fX11_looksBy_j98 (l1 : Int32) (l2 : Int32) (l3 : Int32) (l5 : Int32) (σ : St) : Option ((Int32 × Int32) ⊕ Int32) :=
  fX11_looksBy_j105 l1 l2 l3 l5 l5 σ
theorem wfX11_looksBy_j98 {G : ag_G} (l1 : Int32) (l2 : Int32) (l3 : Int32) (l5 : Int32) (σ : St) {z : (Int32 × Int32) ⊕ Int32} (hz : fX11_looksBy_j98 l1 l2 l3 l5 σ = some z) {Q : Option Value → St → Prop} (K : ((Int32 × Int32) ⊕ Int32) → Prop) (hback : ∀ a : Int32 × Int32, K (.inl a) → AX G mX11_looksBy 1 22 16 [(0, .ref (G.2.2.1 44)), (1, .int l1), (2, .int l2), (3, .int l3), (4, .int a.1), (5, .int a.2)] [] σ Q) (hk : K z) : AX G mX11_looksBy 1 22 98 [(0, .ref (G.2.2.1 44)), (1, .int l1), (2, .int l2), (3, .int l3), (5, .int l5)] [] σ Q := by
  unfold fX11_looksBy_j98 at hz
  refine AX.iload dX11_looksBy_98 4 rfl ?_
  refine AX.goto (tgt := 105) dX11_looksBy_100 rfl ?_
  exact AX.sub (ls' := [(0, .ref (G.2.2.1 44)), (1, .int l1), (2, .int l2), (3, .int l3), (5, .int l5)]) [0, 1, 2, 3, 4] rfl (wfX11_looksBy_j105 l1 l2 l3 l5 l5 σ hz K hback hk)
noncomputable def fX11_looksBy_j68 (l1 : Int32) (l2 : Int32) (l3 : Int32) (l4 : Int32) (l5 : Int32) (t0 : Int32) (σ : St) : Option ((Int32 × Int32) ⊕ Int32) :=
  if t0 = (0 : Int32) then fX11_looksBy_j103 l1 l2 l3 l4 l5 σ else if l4 = (-1 : Int32) then fX11_looksBy_j98 l1 l2 l3 l5 σ else if inb l5 8 = true then if inb l4 8 = true then if (σ.1 62 l4.toNatClampNeg) ≤ (σ.1 62 l5.toNatClampNeg) then fX11_looksBy_j103 l1 l2 l3 l4 l5 σ else fX11_looksBy_j98 l1 l2 l3 l5 σ else none else none
theorem wfX11_looksBy_j68 {G : ag_G} (l1 : Int32) (l2 : Int32) (l3 : Int32) (l4 : Int32) (l5 : Int32) (t0 : Int32) (σ : St) {z : (Int32 × Int32) ⊕ Int32} (hz : fX11_looksBy_j68 l1 l2 l3 l4 l5 t0 σ = some z) {Q : Option Value → St → Prop} (K : ((Int32 × Int32) ⊕ Int32) → Prop) (hback : ∀ a : Int32 × Int32, K (.inl a) → AX G mX11_looksBy 1 22 16 [(0, .ref (G.2.2.1 44)), (1, .int l1), (2, .int l2), (3, .int l3), (4, .int a.1), (5, .int a.2)] [] σ Q) (hk : K z) : AX G mX11_looksBy 1 22 68 [(0, .ref (G.2.2.1 44)), (1, .int l1), (2, .int l2), (3, .int l3), (4, .int l4), (5, .int l5)] [.int t0] σ Q := by
  unfold fX11_looksBy_j68 at hz
  refine AX.istore (ls' := [(0, .ref (G.2.2.1 44)), (1, .int l1), (2, .int l2), (3, .int l3), (4, .int l4), (5, .int l5), (6, .int t0)]) dX11_looksBy_68 (Nat.le_of_ble_eq_true rfl) rfl ?_
  refine AX.iload dX11_looksBy_70 6 rfl ?_
  refine AX.if_eq (tgt := 103) dX11_looksBy_72 rfl (fun c1 => ?_) (fun c1 => ?_)
  · replace hz := (if_pos c1).symm.trans hz
    exact AX.sub (ls' := [(0, .ref (G.2.2.1 44)), (1, .int l1), (2, .int l2), (3, .int l3), (4, .int l4), (5, .int l5)]) [0, 1, 2, 3, 4, 5] rfl (wfX11_looksBy_j103 l1 l2 l3 l4 l5 σ hz K hback hk)
  · replace hz := (if_neg c1).symm.trans hz
    refine AX.iload dX11_looksBy_75 4 rfl ?_
    refine AX.iconst dX11_looksBy_77 ic_m1 ?_
    refine AX.icmp_eq (tgt := 98) dX11_looksBy_78 rfl (fun c2 => ?_) (fun c2 => ?_)
    · replace hz := (if_pos c2).symm.trans hz
      exact AX.sub (ls' := [(0, .ref (G.2.2.1 44)), (1, .int l1), (2, .int l2), (3, .int l3), (5, .int l5)]) [0, 1, 2, 3, 5] rfl (wfX11_looksBy_j98 l1 l2 l3 l5 σ hz K hback hk)
    · replace hz := (if_neg c2).symm.trans hz
      refine AX.aload_n dX11_looksBy_81 0 rfl rfl ?_
      refine AX.getR dX11_looksBy_82 flRX11_62 rfl rfl ?_
      refine AX.iload dX11_looksBy_85 5 rfl ?_
      obtain ⟨b3, hz⟩ := ite_n hz
      refine AX.ialdE (v := σ.1 62 l5.toNatClampNeg) dX11_looksBy_87 rfl b3 rfl ?_
      refine AX.aload_n dX11_looksBy_88 0 rfl rfl ?_
      refine AX.getR dX11_looksBy_89 flRX11_62 rfl rfl ?_
      refine AX.iload dX11_looksBy_92 4 rfl ?_
      obtain ⟨b4, hz⟩ := ite_n hz
      refine AX.ialdE (v := σ.1 62 l4.toNatClampNeg) dX11_looksBy_94 rfl b4 rfl ?_
      refine AX.icmp_ge (tgt := 103) dX11_looksBy_95 rfl (fun c5 => ?_) (fun c5 => ?_)
      · replace hz := (if_pos c5).symm.trans hz
        exact AX.sub (ls' := [(0, .ref (G.2.2.1 44)), (1, .int l1), (2, .int l2), (3, .int l3), (4, .int l4), (5, .int l5)]) [0, 1, 2, 3, 4, 5] rfl (wfX11_looksBy_j103 l1 l2 l3 l4 l5 σ hz K hback hk)
      · replace hz := (if_neg c5).symm.trans hz
        exact AX.sub (ls' := [(0, .ref (G.2.2.1 44)), (1, .int l1), (2, .int l2), (3, .int l3), (5, .int l5)]) [0, 1, 2, 3, 5] rfl (wfX11_looksBy_j98 l1 l2 l3 l5 σ hz K hback hk)
noncomputable def fX11_looksBy_j67 (l1 : Int32) (l2 : Int32) (l3 : Int32) (l4 : Int32) (l5 : Int32) (σ : St) : Option ((Int32 × Int32) ⊕ Int32) :=
  fX11_looksBy_j68 l1 l2 l3 l4 l5 0 σ
theorem wfX11_looksBy_j67 {G : ag_G} (l1 : Int32) (l2 : Int32) (l3 : Int32) (l4 : Int32) (l5 : Int32) (σ : St) {z : (Int32 × Int32) ⊕ Int32} (hz : fX11_looksBy_j67 l1 l2 l3 l4 l5 σ = some z) {Q : Option Value → St → Prop} (K : ((Int32 × Int32) ⊕ Int32) → Prop) (hback : ∀ a : Int32 × Int32, K (.inl a) → AX G mX11_looksBy 1 22 16 [(0, .ref (G.2.2.1 44)), (1, .int l1), (2, .int l2), (3, .int l3), (4, .int a.1), (5, .int a.2)] [] σ Q) (hk : K z) : AX G mX11_looksBy 1 22 67 [(0, .ref (G.2.2.1 44)), (1, .int l1), (2, .int l2), (3, .int l3), (4, .int l4), (5, .int l5)] [] σ Q := by
  unfold fX11_looksBy_j67 at hz
  refine AX.iconst dX11_looksBy_67 ic_0 ?_
  exact AX.sub (ls' := [(0, .ref (G.2.2.1 44)), (1, .int l1), (2, .int l2), (3, .int l3), (4, .int l4), (5, .int l5)]) [0, 1, 2, 3, 4, 5] rfl (wfX11_looksBy_j68 l1 l2 l3 l4 l5 0 σ hz K hback hk)
noncomputable def fX11_looksBy_b16 (l1 : Int32) (l2 : Int32) (l3 : Int32) (l4 : Int32) (l5 : Int32) (σ : St) : Option ((Int32 × Int32) ⊕ Int32) :=
  if (σ.1 44 26) ≤ l5 then some (.inr l4) else (fX11_isIn (l1 &&& (l2 ^^^ (-1 : Int32))) l5).bind fun q2 => if q2 = (0 : Int32) then fX11_looksBy_j67 l1 l2 l3 l4 l5 σ else if inb l5 8 = true then (fX11_in l3 ((σ.1 62 l5.toNatClampNeg) - (3 : Int32)) ((σ.1 62 l5.toNatClampNeg) - (1 : Int32))).bind fun q5 => if q5 = (0 : Int32) then fX11_looksBy_j67 l1 l2 l3 l4 l5 σ else fX11_looksBy_j68 l1 l2 l3 l4 l5 1 σ else none
theorem wfX11_looksBy_b16 {G : ag_G} (l1 : Int32) (l2 : Int32) (l3 : Int32) (l4 : Int32) (l5 : Int32) (σ : St) {z : (Int32 × Int32) ⊕ Int32} (hz : fX11_looksBy_b16 l1 l2 l3 l4 l5 σ = some z) {Q : Option Value → St → Prop} (K : ((Int32 × Int32) ⊕ Int32) → Prop) (hback : ∀ a : Int32 × Int32, K (.inl a) → AX G mX11_looksBy 1 22 16 [(0, .ref (G.2.2.1 44)), (1, .int l1), (2, .int l2), (3, .int l3), (4, .int a.1), (5, .int a.2)] [] σ Q) (hexit0 : ∀ a : Int32, K (.inr a) → AX G mX11_looksBy 1 22 113 [(0, .ref (G.2.2.1 44)), (1, .int l1), (2, .int l2), (3, .int l3), (4, .int a)] [] σ Q) (hk : K z) : AX G mX11_looksBy 1 22 16 [(0, .ref (G.2.2.1 44)), (1, .int l1), (2, .int l2), (3, .int l3), (4, .int l4), (5, .int l5)] [] σ Q := by
  unfold fX11_looksBy_b16 at hz
  refine AX.iload dX11_looksBy_16 5 rfl ?_
  refine AX.aload_n dX11_looksBy_18 0 rfl rfl ?_
  refine AX.getIE (v := σ.1 44 26) dX11_looksBy_19 flRX11_248 rfl rfl rfl ?_
  refine AX.icmp_ge (tgt := 113) dX11_looksBy_22 rfl (fun c1 => ?_) (fun c1 => ?_)
  · replace hz := (if_pos c1).symm.trans hz
    exact AX.sub (ls' := [(0, .ref (G.2.2.1 44)), (1, .int l1), (2, .int l2), (3, .int l3), (4, .int l4)]) [0, 1, 2, 3, 4] rfl (hexit0 l4 (kz (P := K) hz hk))
  · replace hz := (if_neg c1).symm.trans hz
    refine AX.iload_n dX11_looksBy_25 1 rfl rfl ?_
    refine AX.iload_n dX11_looksBy_26 2 rfl rfl ?_
    refine AX.iconst dX11_looksBy_27 ic_m1 ?_
    refine AX.ixor dX11_looksBy_28 ?_
    refine AX.iand dX11_looksBy_29 ?_
    refine AX.iload dX11_looksBy_30 5 rfl ?_
    obtain ⟨q2, hq2, hz⟩ := obind hz
    refine AX.callSw (As := [.int (l1 &&& (l2 ^^^ (-1 : Int32))), .int l5]) (rest := []) (w := some (.int q2)) (st' := [.int q2]) dX11_looksBy_32 mlRX11_199 ylX11_isIn ysX11_isIn rfl rfl (Nat.le_of_ble_eq_true rfl) ⟨Nat.le_of_ble_eq_true rfl, Nat.le_of_ble_eq_true rfl⟩ (xX11_isIn (l1 &&& (l2 ^^^ (-1 : Int32))) l5 σ hq2) rfl ?_
    refine AX.if_eq (tgt := 67) dX11_looksBy_35 rfl (fun c3 => ?_) (fun c3 => ?_)
    · replace hz := (if_pos c3).symm.trans hz
      exact AX.sub (ls' := [(0, .ref (G.2.2.1 44)), (1, .int l1), (2, .int l2), (3, .int l3), (4, .int l4), (5, .int l5)]) [0, 1, 2, 3, 4, 5] rfl (wfX11_looksBy_j67 l1 l2 l3 l4 l5 σ hz K hback hk)
    · replace hz := (if_neg c3).symm.trans hz
      refine AX.iload_n dX11_looksBy_38 3 rfl rfl ?_
      refine AX.aload_n dX11_looksBy_39 0 rfl rfl ?_
      refine AX.getR dX11_looksBy_40 flRX11_62 rfl rfl ?_
      refine AX.iload dX11_looksBy_43 5 rfl ?_
      obtain ⟨b4, hz⟩ := ite_n hz
      refine AX.ialdE (v := σ.1 62 l5.toNatClampNeg) dX11_looksBy_45 rfl b4 rfl ?_
      refine AX.iconst dX11_looksBy_46 ic_3 ?_
      refine AX.isub dX11_looksBy_47 ?_
      refine AX.aload_n dX11_looksBy_48 0 rfl rfl ?_
      refine AX.getR dX11_looksBy_49 flRX11_62 rfl rfl ?_
      refine AX.iload dX11_looksBy_52 5 rfl ?_
      refine AX.ialdE (v := σ.1 62 l5.toNatClampNeg) dX11_looksBy_54 rfl b4 rfl ?_
      refine AX.iconst dX11_looksBy_55 ic_1 ?_
      refine AX.isub dX11_looksBy_56 ?_
      obtain ⟨q5, hq5, hz⟩ := obind hz
      refine AX.callSw (As := [.int l3, .int ((σ.1 62 l5.toNatClampNeg) - (3 : Int32)), .int ((σ.1 62 l5.toNatClampNeg) - (1 : Int32))]) (rest := []) (w := some (.int q5)) (st' := [.int q5]) dX11_looksBy_57 mlRX11_89 ylX11_in ysX11_in rfl rfl (Nat.le_of_ble_eq_true rfl) ⟨Nat.le_of_ble_eq_true rfl, Nat.le_of_ble_eq_true rfl⟩ (xX11_in l3 ((σ.1 62 l5.toNatClampNeg) - (3 : Int32)) ((σ.1 62 l5.toNatClampNeg) - (1 : Int32)) σ hq5) rfl ?_
      refine AX.if_eq (tgt := 67) dX11_looksBy_60 rfl (fun c6 => ?_) (fun c6 => ?_)
      · replace hz := (if_pos c6).symm.trans hz
        exact AX.sub (ls' := [(0, .ref (G.2.2.1 44)), (1, .int l1), (2, .int l2), (3, .int l3), (4, .int l4), (5, .int l5)]) [0, 1, 2, 3, 4, 5] rfl (wfX11_looksBy_j67 l1 l2 l3 l4 l5 σ hz K hback hk)
      · replace hz := (if_neg c6).symm.trans hz
        refine AX.iconst dX11_looksBy_63 ic_1 ?_
        refine AX.goto (tgt := 68) dX11_looksBy_64 rfl ?_
        exact AX.sub (ls' := [(0, .ref (G.2.2.1 44)), (1, .int l1), (2, .int l2), (3, .int l3), (4, .int l4), (5, .int l5)]) [0, 1, 2, 3, 4, 5] rfl (wfX11_looksBy_j68 l1 l2 l3 l4 l5 1 σ hz K hback hk)
noncomputable def fX11_looksBy_j136 (l1 : Int32) (l3 : Int32) (t0 : Int32) (t1 : Int32) (σ : St) : Option ((Int32 × Int32 × St) ⊕ (Int32 × St)) :=
  ltb (t0 ||| t1) fun x1 => some (.inl (x1, l3 + 1, σ))
theorem wfX11_looksBy_j136 {G : ag_G} (l1 : Int32) (l3 : Int32) (t0 : Int32) (t1 : Int32) (σ : St) {z : (Int32 × Int32 × St) ⊕ (Int32 × St)} (hz : fX11_looksBy_j136 l1 l3 t0 t1 σ = some z) {Q : Option Value → St → Prop} (K : ((Int32 × Int32 × St) ⊕ (Int32 × St)) → Prop) (hback : ∀ a : Int32 × Int32 × St, K (.inl a) → AX G mX11_looksBy 1 22 4 [(0, .ref (G.2.2.1 44)), (1, .int l1), (2, .int a.1), (3, .int a.2.1)] [] a.2.2 Q) (hk : K z) : AX G mX11_looksBy 1 22 136 [(0, .ref (G.2.2.1 44)), (1, .int l1), (3, .int l3)] [.int t1, .int t0] σ Q := by
  unfold fX11_looksBy_j136 at hz
  refine AX.ior dX11_looksBy_136 ?_
  obtain ⟨x1, hx1, hz⟩ := ltb_e hz
  refine AX.topI hx1 ?_
  refine AX.istore_n (ls' := [(0, .ref (G.2.2.1 44)), (1, .int l1), (2, .int x1), (3, .int l3)]) dX11_looksBy_137 rfl (Nat.le_of_ble_eq_true rfl) rfl ?_
  refine AX.iinc (v := l3 + 1) (ls' := [(0, .ref (G.2.2.1 44)), (1, .int l1), (2, .int x1), (3, .int (l3 + 1))]) 3 dX11_looksBy_138 rfl (Nat.le_of_ble_eq_true rfl) (congrArg (l3 + ·) ic_1) rfl ?_
  refine AX.goto (tgt := 4) dX11_looksBy_141 rfl ?_
  exact AX.sub (ls' := [(0, .ref (G.2.2.1 44)), (1, .int l1), (2, .int x1), (3, .int (l3 + 1))]) [0, 1, 2, 3] rfl (hback (x1, l3 + 1, σ) (kz (P := K) hz hk))
noncomputable def fX11_looksBy_b4 (l1 : Int32) (l2 : Int32) (l3 : Int32) (σ : St) : Option ((Int32 × Int32 × St) ⊕ (Int32 × St)) :=
  if (99 : Int32) ≤ l3 then some (.inr (l2, σ)) else (lpc (fun s => fX11_looksBy_b16 l1 l2 l3 s.1 s.2 σ) (-1, 0)).bind fun r2 => if inb l3 99 = true then if r2 = (-1 : Int32) then fX11_looksBy_j136 l1 l3 l2 0 (sI σ 64 l3.toNatClampNeg r2) else fX11_looksBy_j136 l1 l3 l2 ((1 : Int32) <<< (r2 &&& 31)) (sI σ 64 l3.toNatClampNeg r2) else none
theorem wfX11_looksBy_b4 {G : ag_G} (l1 : Int32) (l2 : Int32) (l3 : Int32) (σ : St) {z : (Int32 × Int32 × St) ⊕ (Int32 × St)} (hz : fX11_looksBy_b4 l1 l2 l3 σ = some z) {Q : Option Value → St → Prop} (K : ((Int32 × Int32 × St) ⊕ (Int32 × St)) → Prop) (hback : ∀ a : Int32 × Int32 × St, K (.inl a) → AX G mX11_looksBy 1 22 4 [(0, .ref (G.2.2.1 44)), (1, .int l1), (2, .int a.1), (3, .int a.2.1)] [] a.2.2 Q) (hexit0 : ∀ a : Int32 × St, K (.inr a) → AX G mX11_looksBy 1 22 144 [(2, .int a.1)] [] a.2 Q) (hk : K z) : AX G mX11_looksBy 1 22 4 [(0, .ref (G.2.2.1 44)), (1, .int l1), (2, .int l2), (3, .int l3)] [] σ Q := by
  unfold fX11_looksBy_b4 at hz
  refine AX.iload_n dX11_looksBy_4 3 rfl rfl ?_
  refine AX.bipush dX11_looksBy_5 bp_99 ?_
  refine AX.icmp_ge (tgt := 144) dX11_looksBy_7 rfl (fun c1 => ?_) (fun c1 => ?_)
  · replace hz := (if_pos c1).symm.trans hz
    exact AX.sub (ls' := [(2, .int l2)]) [2] rfl (hexit0 (l2, σ) (kz (P := K) hz hk))
  · replace hz := (if_neg c1).symm.trans hz
    refine AX.iconst dX11_looksBy_10 ic_m1 ?_
    refine AX.istore (ls' := [(0, .ref (G.2.2.1 44)), (1, .int l1), (2, .int l2), (3, .int l3), (4, .int (-1))]) dX11_looksBy_11 (Nat.le_of_ble_eq_true rfl) rfl ?_
    refine AX.iconst dX11_looksBy_13 ic_0 ?_
    refine AX.istore (ls' := [(0, .ref (G.2.2.1 44)), (1, .int l1), (2, .int l2), (3, .int l3), (4, .int (-1)), (5, .int 0)]) dX11_looksBy_14 (Nat.le_of_ble_eq_true rfl) rfl ?_
    obtain ⟨r2, hr2, hz⟩ := obind hz
    refine AX.sub (ls' := [(0, .ref (G.2.2.1 44)), (1, .int l1), (2, .int l2), (3, .int l3), (4, .int (-1)), (5, .int 0)]) [0, 1, 2, 3, 4, 5] rfl ?_
    refine lpc_ind (s := (-1, 0)) (r := r2) (fun s => AX G mX11_looksBy 1 22 16 [(0, .ref (G.2.2.1 44)), (1, .int l1), (2, .int l2), (3, .int l3), (4, .int s.1), (5, .int s.2)] [] σ Q) (fun a : Int32 => AX G mX11_looksBy 1 22 113 [(0, .ref (G.2.2.1 44)), (1, .int l1), (2, .int l2), (3, .int l3), (4, .int a)] [] σ Q) hr2 (fun s z hb hK => wfX11_looksBy_b16 l1 l2 l3 s.1 s.2 σ hb (Sum.elim (fun s => AX G mX11_looksBy 1 22 16 [(0, .ref (G.2.2.1 44)), (1, .int l1), (2, .int l2), (3, .int l3), (4, .int s.1), (5, .int s.2)] [] σ Q) (fun a : Int32 => AX G mX11_looksBy 1 22 113 [(0, .ref (G.2.2.1 44)), (1, .int l1), (2, .int l2), (3, .int l3), (4, .int a)] [] σ Q)) (fun _ h9 => h9) (fun _ h9 => h9) hK) ?_
    refine AX.aload_n dX11_looksBy_113 0 rfl rfl ?_
    refine AX.getR dX11_looksBy_114 flRX11_68 rfl rfl ?_
    refine AX.iload_n dX11_looksBy_117 3 rfl rfl ?_
    refine AX.iload dX11_looksBy_118 4 rfl ?_
    obtain ⟨b3, hz⟩ := ite_n hz
    refine AX.iast dX11_looksBy_120 rfl b3 ?_
    refine AX.iload_n dX11_looksBy_121 2 rfl rfl ?_
    refine AX.iload dX11_looksBy_122 4 rfl ?_
    refine AX.iconst dX11_looksBy_124 ic_m1 ?_
    refine AX.icmp_ne (tgt := 132) dX11_looksBy_125 rfl (fun c4 => ?_) (fun c4 => ?_)
    · replace hz := (if_neg c4).symm.trans hz
      refine AX.iconst dX11_looksBy_132 ic_1 ?_
      refine AX.iload dX11_looksBy_133 4 rfl ?_
      refine AX.ishl dX11_looksBy_135 ?_
      exact AX.sub (ls' := [(0, .ref (G.2.2.1 44)), (1, .int l1), (3, .int l3)]) [0, 1, 3] rfl (wfX11_looksBy_j136 l1 l3 l2 ((1 : Int32) <<< (r2 &&& 31)) (sI σ 64 l3.toNatClampNeg r2) hz K hback hk)
    · replace hz := (if_pos c4).symm.trans hz
      refine AX.iconst dX11_looksBy_128 ic_0 ?_
      refine AX.goto (tgt := 136) dX11_looksBy_129 rfl ?_
      exact AX.sub (ls' := [(0, .ref (G.2.2.1 44)), (1, .int l1), (3, .int l3)]) [0, 1, 3] rfl (wfX11_looksBy_j136 l1 l3 l2 0 (sI σ 64 l3.toNatClampNeg r2) hz K hback hk)
noncomputable def fX11_looksBy (p0 : Int32) (σ : St) : Option (Int32 × St) :=
  (lpc (fun s => fX11_looksBy_b4 p0 s.1 s.2.1 s.2.2) (0, 0, σ)).bind fun r1 => some (r1.1, r1.2)
theorem wfX11_looksBy {G : ag_G} (p0 : Int32) (σ : St) {z : Int32 × St} (hz : fX11_looksBy p0 σ = some z) {Q : Option Value → St → Prop} (hk : Q (some (.int z.1)) z.2) : AX G mX11_looksBy 1 22 0 [(0, .ref (G.2.2.1 44)), (1, .int p0)] [] σ Q := by
  unfold fX11_looksBy at hz
  refine AX.iconst dX11_looksBy_0 ic_0 ?_
  refine AX.istore_n (ls' := [(0, .ref (G.2.2.1 44)), (1, .int p0), (2, .int 0)]) dX11_looksBy_1 rfl (Nat.le_of_ble_eq_true rfl) rfl ?_
  refine AX.iconst dX11_looksBy_2 ic_0 ?_
  refine AX.istore_n (ls' := [(0, .ref (G.2.2.1 44)), (1, .int p0), (2, .int 0), (3, .int 0)]) dX11_looksBy_3 rfl (Nat.le_of_ble_eq_true rfl) rfl ?_
  obtain ⟨r1, hr1, hz⟩ := obind hz
  refine AX.sub (ls' := [(0, .ref (G.2.2.1 44)), (1, .int p0), (2, .int 0), (3, .int 0)]) [0, 1, 2, 3] rfl ?_
  refine lpc_ind (s := (0, 0, σ)) (r := r1) (fun s => AX G mX11_looksBy 1 22 4 [(0, .ref (G.2.2.1 44)), (1, .int p0), (2, .int s.1), (3, .int s.2.1)] [] s.2.2 Q) (fun a : Int32 × St => AX G mX11_looksBy 1 22 144 [(2, .int a.1)] [] a.2 Q) hr1 (fun s z hb hK => wfX11_looksBy_b4 p0 s.1 s.2.1 s.2.2 hb (Sum.elim (fun s => AX G mX11_looksBy 1 22 4 [(0, .ref (G.2.2.1 44)), (1, .int p0), (2, .int s.1), (3, .int s.2.1)] [] s.2.2 Q) (fun a : Int32 × St => AX G mX11_looksBy 1 22 144 [(2, .int a.1)] [] a.2 Q)) (fun _ h9 => h9) (fun _ h9 => h9) hK) ?_
  refine AX.iload_n dX11_looksBy_144 0 rfl rfl ?_
  exact AX.ireturn dX11_looksBy_145 rfl (vp_nar_int _) (kz (P := fun z => Q (some (.int z.1)) z.2) hz hk)
theorem xX11_looksBy {G : ag_G} (p0 : Int32) (σ : St) {z : Int32 × St} (hz : fX11_looksBy p0 σ = some z) : AC G yX11_looksBy mX11_looksBy 1 22 [.ref (G.2.2.1 44), .int p0] σ (fun v σ1 => v = some (.int z.1) ∧ σ1 = z.2) := AC.of (plainFor_of_name (by decide)) rfl (Nat.le_of_ble_eq_true rfl) (wfX11_looksBy p0 σ hz ⟨rfl, rfl⟩)
noncomputable def fX11_worthOf_j56 (l1 : Int32) (l2 : Int32) (l3 : Int32) (l4 : Int32) (l6 : Int32) (t0 : Int32) (t1 : Int32) (σ : St) : Option ((Int32 × Int32) ⊕ Int32) :=
  ltb (t0 + t1) fun x1 => some (.inl (x1, l6 + 1))
theorem wfX11_worthOf_j56 {G : ag_G} (l1 : Int32) (l2 : Int32) (l3 : Int32) (l4 : Int32) (l6 : Int32) (t0 : Int32) (t1 : Int32) (σ : St) {z : (Int32 × Int32) ⊕ Int32} (hz : fX11_worthOf_j56 l1 l2 l3 l4 l6 t0 t1 σ = some z) {Q : Option Value → St → Prop} (K : ((Int32 × Int32) ⊕ Int32) → Prop) (hback : ∀ a : Int32 × Int32, K (.inl a) → AX G mX11_worthOf 2 48 24 [(0, .ref (G.2.2.1 44)), (1, .int l1), (2, .int l2), (3, .int l3), (4, .int l4), (5, .int a.1), (6, .int a.2)] [] σ Q) (hk : K z) : AX G mX11_worthOf 2 48 56 [(0, .ref (G.2.2.1 44)), (1, .int l1), (2, .int l2), (3, .int l3), (4, .int l4), (6, .int l6)] [.int t1, .int t0] σ Q := by
  unfold fX11_worthOf_j56 at hz
  refine AX.iadd dX11_worthOf_56 ?_
  obtain ⟨x1, hx1, hz⟩ := ltb_e hz
  refine AX.topI hx1 ?_
  refine AX.istore (ls' := [(0, .ref (G.2.2.1 44)), (1, .int l1), (2, .int l2), (3, .int l3), (4, .int l4), (5, .int x1), (6, .int l6)]) dX11_worthOf_57 (Nat.le_of_ble_eq_true rfl) rfl ?_
  refine AX.iinc (v := l6 + 1) (ls' := [(0, .ref (G.2.2.1 44)), (1, .int l1), (2, .int l2), (3, .int l3), (4, .int l4), (5, .int x1), (6, .int (l6 + 1))]) 6 dX11_worthOf_59 rfl (Nat.le_of_ble_eq_true rfl) (congrArg (l6 + ·) ic_1) rfl ?_
  refine AX.goto (tgt := 24) dX11_worthOf_62 rfl ?_
  exact AX.sub (ls' := [(0, .ref (G.2.2.1 44)), (1, .int l1), (2, .int l2), (3, .int l3), (4, .int l4), (5, .int x1), (6, .int (l6 + 1))]) [0, 1, 2, 3, 4, 5, 6] rfl (hback (x1, l6 + 1) (kz (P := K) hz hk))
noncomputable def fX11_worthOf_b24 (l1 : Int32) (l2 : Int32) (l3 : Int32) (l4 : Int32) (l5 : Int32) (l6 : Int32) (σ : St) : Option ((Int32 × Int32) ⊕ Int32) :=
  if (σ.1 44 26) ≤ l6 then some (.inr l5) else (fX11_isIn l4 l6).bind fun q2 => if q2 = (0 : Int32) then fX11_worthOf_j56 l1 l2 l3 l4 l6 l5 0 σ else if inb l6 8 = true then fX11_worthOf_j56 l1 l2 l3 l4 l6 l5 (σ.1 63 l6.toNatClampNeg) σ else none
theorem wfX11_worthOf_b24 {G : ag_G} (l1 : Int32) (l2 : Int32) (l3 : Int32) (l4 : Int32) (l5 : Int32) (l6 : Int32) (σ : St) {z : (Int32 × Int32) ⊕ Int32} (hz : fX11_worthOf_b24 l1 l2 l3 l4 l5 l6 σ = some z) {Q : Option Value → St → Prop} (K : ((Int32 × Int32) ⊕ Int32) → Prop) (hback : ∀ a : Int32 × Int32, K (.inl a) → AX G mX11_worthOf 2 48 24 [(0, .ref (G.2.2.1 44)), (1, .int l1), (2, .int l2), (3, .int l3), (4, .int l4), (5, .int a.1), (6, .int a.2)] [] σ Q) (hexit0 : ∀ a : Int32, K (.inr a) → AX G mX11_worthOf 2 48 65 [(0, .ref (G.2.2.1 44)), (1, .int l1), (2, .int l2), (3, .int l3), (4, .int l4), (5, .int a)] [] σ Q) (hk : K z) : AX G mX11_worthOf 2 48 24 [(0, .ref (G.2.2.1 44)), (1, .int l1), (2, .int l2), (3, .int l3), (4, .int l4), (5, .int l5), (6, .int l6)] [] σ Q := by
  unfold fX11_worthOf_b24 at hz
  refine AX.iload dX11_worthOf_24 6 rfl ?_
  refine AX.aload_n dX11_worthOf_26 0 rfl rfl ?_
  refine AX.getIE (v := σ.1 44 26) dX11_worthOf_27 flRX11_248 rfl rfl rfl ?_
  refine AX.icmp_ge (tgt := 65) dX11_worthOf_30 rfl (fun c1 => ?_) (fun c1 => ?_)
  · replace hz := (if_pos c1).symm.trans hz
    exact AX.sub (ls' := [(0, .ref (G.2.2.1 44)), (1, .int l1), (2, .int l2), (3, .int l3), (4, .int l4), (5, .int l5)]) [0, 1, 2, 3, 4, 5] rfl (hexit0 l5 (kz (P := K) hz hk))
  · replace hz := (if_neg c1).symm.trans hz
    refine AX.iload dX11_worthOf_33 5 rfl ?_
    refine AX.iload dX11_worthOf_35 4 rfl ?_
    refine AX.iload dX11_worthOf_37 6 rfl ?_
    obtain ⟨q2, hq2, hz⟩ := obind hz
    refine AX.callSw (As := [.int l4, .int l6]) (rest := [.int l5]) (w := some (.int q2)) (st' := [.int q2, .int l5]) dX11_worthOf_39 mlRX11_199 ylX11_isIn ysX11_isIn rfl rfl (Nat.le_of_ble_eq_true rfl) ⟨Nat.le_of_ble_eq_true rfl, Nat.le_of_ble_eq_true rfl⟩ (xX11_isIn l4 l6 σ hq2) rfl ?_
    refine AX.if_eq (tgt := 55) dX11_worthOf_42 rfl (fun c3 => ?_) (fun c3 => ?_)
    · replace hz := (if_pos c3).symm.trans hz
      refine AX.iconst dX11_worthOf_55 ic_0 ?_
      exact AX.sub (ls' := [(0, .ref (G.2.2.1 44)), (1, .int l1), (2, .int l2), (3, .int l3), (4, .int l4), (6, .int l6)]) [0, 1, 2, 3, 4, 6] rfl (wfX11_worthOf_j56 l1 l2 l3 l4 l6 l5 0 σ hz K hback hk)
    · replace hz := (if_neg c3).symm.trans hz
      refine AX.aload_n dX11_worthOf_45 0 rfl rfl ?_
      refine AX.getR dX11_worthOf_46 flRX11_65 rfl rfl ?_
      refine AX.iload dX11_worthOf_49 6 rfl ?_
      obtain ⟨b4, hz⟩ := ite_n hz
      refine AX.ialdE (v := σ.1 63 l6.toNatClampNeg) dX11_worthOf_51 rfl b4 rfl ?_
      refine AX.goto (tgt := 56) dX11_worthOf_52 rfl ?_
      exact AX.sub (ls' := [(0, .ref (G.2.2.1 44)), (1, .int l1), (2, .int l2), (3, .int l3), (4, .int l4), (6, .int l6)]) [0, 1, 2, 3, 4, 6] rfl (wfX11_worthOf_j56 l1 l2 l3 l4 l6 l5 (σ.1 63 l6.toNatClampNeg) σ hz K hback hk)
noncomputable def fX11_worthOf_j88 (l1 : Int32) (l2 : Int32) (l3 : Int32) (l4 : Int32) (σ : St) : Option ((Int32 × Int32 × Int32 × St) ⊕ (Int32 × Int32 × St)) :=
  some (.inl (l2, l3, l4 + 1, σ))
theorem wfX11_worthOf_j88 {G : ag_G} (l1 : Int32) (l2 : Int32) (l3 : Int32) (l4 : Int32) (σ : St) {z : (Int32 × Int32 × Int32 × St) ⊕ (Int32 × Int32 × St)} (hz : fX11_worthOf_j88 l1 l2 l3 l4 σ = some z) {Q : Option Value → St → Prop} (K : ((Int32 × Int32 × Int32 × St) ⊕ (Int32 × Int32 × St)) → Prop) (hback : ∀ a : Int32 × Int32 × Int32 × St, K (.inl a) → AX G mX11_worthOf 2 48 7 [(0, .ref (G.2.2.1 44)), (1, .int l1), (2, .int a.1), (3, .int a.2.1), (4, .int a.2.2.1)] [] a.2.2.2 Q) (hk : K z) : AX G mX11_worthOf 2 48 88 [(0, .ref (G.2.2.1 44)), (1, .int l1), (2, .int l2), (3, .int l3), (4, .int l4)] [] σ Q := by
  unfold fX11_worthOf_j88 at hz
  refine AX.iinc (v := l4 + 1) (ls' := [(0, .ref (G.2.2.1 44)), (1, .int l1), (2, .int l2), (3, .int l3), (4, .int (l4 + 1))]) 4 dX11_worthOf_88 rfl (Nat.le_of_ble_eq_true rfl) (congrArg (l4 + ·) ic_1) rfl ?_
  refine AX.goto (tgt := 7) dX11_worthOf_91 rfl ?_
  exact AX.sub (ls' := [(0, .ref (G.2.2.1 44)), (1, .int l1), (2, .int l2), (3, .int l3), (4, .int (l4 + 1))]) [0, 1, 2, 3, 4] rfl (hback (l2, l3, l4 + 1, σ) (kz (P := K) hz hk))
noncomputable def fX11_worthOf_b7 (l1 : Int32) (l2 : Int32) (l3 : Int32) (l4 : Int32) (σ : St) : Option ((Int32 × Int32 × Int32 × St) ⊕ (Int32 × Int32 × St)) :=
  if ((1 : Int32) <<< ((σ.1 44 26) &&& 31)) ≤ l4 then some (.inr (l2, l3, σ)) else (lpc (fun s => fX11_worthOf_b24 l1 l2 l3 l4 s.1 s.2 σ) (0, 0)).bind fun r2 => if r2 ≤ l3 then fX11_worthOf_j88 l1 l2 l3 l4 σ else (fX11_looksBy l4 σ).bind fun q4 => if q4.1 = l4 then fX11_worthOf_j88 l1 l4 r2 l4 q4.2 else fX11_worthOf_j88 l1 l2 l3 l4 q4.2
theorem wfX11_worthOf_b7 {G : ag_G} (l1 : Int32) (l2 : Int32) (l3 : Int32) (l4 : Int32) (σ : St) {z : (Int32 × Int32 × Int32 × St) ⊕ (Int32 × Int32 × St)} (hz : fX11_worthOf_b7 l1 l2 l3 l4 σ = some z) {Q : Option Value → St → Prop} (K : ((Int32 × Int32 × Int32 × St) ⊕ (Int32 × Int32 × St)) → Prop) (hback : ∀ a : Int32 × Int32 × Int32 × St, K (.inl a) → AX G mX11_worthOf 2 48 7 [(0, .ref (G.2.2.1 44)), (1, .int l1), (2, .int a.1), (3, .int a.2.1), (4, .int a.2.2.1)] [] a.2.2.2 Q) (hexit0 : ∀ a : Int32 × Int32 × St, K (.inr a) → AX G mX11_worthOf 2 48 94 [(1, .int l1), (2, .int a.1), (3, .int a.2.1)] [] a.2.2 Q) (hk : K z) : AX G mX11_worthOf 2 48 7 [(0, .ref (G.2.2.1 44)), (1, .int l1), (2, .int l2), (3, .int l3), (4, .int l4)] [] σ Q := by
  unfold fX11_worthOf_b7 at hz
  refine AX.iload dX11_worthOf_7 4 rfl ?_
  refine AX.iconst dX11_worthOf_9 ic_1 ?_
  refine AX.aload_n dX11_worthOf_10 0 rfl rfl ?_
  refine AX.getIE (v := σ.1 44 26) dX11_worthOf_11 flRX11_248 rfl rfl rfl ?_
  refine AX.ishl dX11_worthOf_14 ?_
  refine AX.icmp_ge (tgt := 94) dX11_worthOf_15 rfl (fun c1 => ?_) (fun c1 => ?_)
  · replace hz := (if_pos c1).symm.trans hz
    exact AX.sub (ls' := [(1, .int l1), (2, .int l2), (3, .int l3)]) [1, 2, 3] rfl (hexit0 (l2, l3, σ) (kz (P := K) hz hk))
  · replace hz := (if_neg c1).symm.trans hz
    refine AX.iconst dX11_worthOf_18 ic_0 ?_
    refine AX.istore (ls' := [(0, .ref (G.2.2.1 44)), (1, .int l1), (2, .int l2), (3, .int l3), (4, .int l4), (5, .int 0)]) dX11_worthOf_19 (Nat.le_of_ble_eq_true rfl) rfl ?_
    refine AX.iconst dX11_worthOf_21 ic_0 ?_
    refine AX.istore (ls' := [(0, .ref (G.2.2.1 44)), (1, .int l1), (2, .int l2), (3, .int l3), (4, .int l4), (5, .int 0), (6, .int 0)]) dX11_worthOf_22 (Nat.le_of_ble_eq_true rfl) rfl ?_
    obtain ⟨r2, hr2, hz⟩ := obind hz
    refine AX.sub (ls' := [(0, .ref (G.2.2.1 44)), (1, .int l1), (2, .int l2), (3, .int l3), (4, .int l4), (5, .int 0), (6, .int 0)]) [0, 1, 2, 3, 4, 5, 6] rfl ?_
    refine lpc_ind (s := (0, 0)) (r := r2) (fun s => AX G mX11_worthOf 2 48 24 [(0, .ref (G.2.2.1 44)), (1, .int l1), (2, .int l2), (3, .int l3), (4, .int l4), (5, .int s.1), (6, .int s.2)] [] σ Q) (fun a : Int32 => AX G mX11_worthOf 2 48 65 [(0, .ref (G.2.2.1 44)), (1, .int l1), (2, .int l2), (3, .int l3), (4, .int l4), (5, .int a)] [] σ Q) hr2 (fun s z hb hK => wfX11_worthOf_b24 l1 l2 l3 l4 s.1 s.2 σ hb (Sum.elim (fun s => AX G mX11_worthOf 2 48 24 [(0, .ref (G.2.2.1 44)), (1, .int l1), (2, .int l2), (3, .int l3), (4, .int l4), (5, .int s.1), (6, .int s.2)] [] σ Q) (fun a : Int32 => AX G mX11_worthOf 2 48 65 [(0, .ref (G.2.2.1 44)), (1, .int l1), (2, .int l2), (3, .int l3), (4, .int l4), (5, .int a)] [] σ Q)) (fun _ h9 => h9) (fun _ h9 => h9) hK) ?_
    refine AX.iload dX11_worthOf_65 5 rfl ?_
    refine AX.iload_n dX11_worthOf_67 3 rfl rfl ?_
    refine AX.icmp_le (tgt := 88) dX11_worthOf_68 rfl (fun c3 => ?_) (fun c3 => ?_)
    · replace hz := (if_pos c3).symm.trans hz
      exact AX.sub (ls' := [(0, .ref (G.2.2.1 44)), (1, .int l1), (2, .int l2), (3, .int l3), (4, .int l4)]) [0, 1, 2, 3, 4] rfl (wfX11_worthOf_j88 l1 l2 l3 l4 σ hz K hback hk)
    · replace hz := (if_neg c3).symm.trans hz
      refine AX.aload_n dX11_worthOf_71 0 rfl rfl ?_
      refine AX.iload dX11_worthOf_72 4 rfl ?_
      obtain ⟨q4, hq4, hz⟩ := obind hz
      refine AX.callVw (r := 44) (As := [.int l4]) (rest := []) (w := some (.int q4.1)) (st' := [.int q4.1]) dX11_worthOf_74 mlRX11_251 ylX11_looksBy yvX11_looksBy rfl rfl rfl (Nat.le_of_ble_eq_true rfl) ⟨Nat.le_of_ble_eq_true rfl, Nat.le_of_ble_eq_true rfl⟩ (xX11_looksBy l4 σ hq4) rfl ?_
      refine AX.iload dX11_worthOf_77 4 rfl ?_
      refine AX.icmp_ne (tgt := 88) dX11_worthOf_79 rfl (fun c5 => ?_) (fun c5 => ?_)
      · replace hz := (if_neg c5).symm.trans hz
        exact AX.sub (ls' := [(0, .ref (G.2.2.1 44)), (1, .int l1), (2, .int l2), (3, .int l3), (4, .int l4)]) [0, 1, 2, 3, 4] rfl (wfX11_worthOf_j88 l1 l2 l3 l4 q4.2 hz K hback hk)
      · replace hz := (if_pos c5).symm.trans hz
        refine AX.iload dX11_worthOf_82 4 rfl ?_
        refine AX.istore_n (ls' := [(0, .ref (G.2.2.1 44)), (1, .int l1), (2, .int l4), (3, .int l3), (4, .int l4), (5, .int r2)]) dX11_worthOf_84 rfl (Nat.le_of_ble_eq_true rfl) rfl ?_
        refine AX.iload dX11_worthOf_85 5 rfl ?_
        refine AX.istore_n (ls' := [(0, .ref (G.2.2.1 44)), (1, .int l1), (2, .int l4), (3, .int r2), (4, .int l4), (5, .int r2)]) dX11_worthOf_87 rfl (Nat.le_of_ble_eq_true rfl) rfl ?_
        exact AX.sub (ls' := [(0, .ref (G.2.2.1 44)), (1, .int l1), (2, .int l4), (3, .int r2), (4, .int l4)]) [0, 1, 2, 3, 4] rfl (wfX11_worthOf_j88 l1 l4 r2 l4 q4.2 hz K hback hk)
noncomputable def fX11_worthOf (p0 : Int32) (σ : St) : Option (Int32 × St) :=
  (lpc (fun s => fX11_worthOf_b7 p0 s.1 s.2.1 s.2.2.1 s.2.2.2) (0, 0, 1, σ)).bind fun r1 => if p0 = (0 : Int32) then some (r1.2.1, r1.2.2) else some (r1.1, r1.2.2)
theorem wfX11_worthOf {G : ag_G} (p0 : Int32) (σ : St) {z : Int32 × St} (hz : fX11_worthOf p0 σ = some z) {Q : Option Value → St → Prop} (hk : Q (some (.int z.1)) z.2) : AX G mX11_worthOf 2 48 0 [(0, .ref (G.2.2.1 44)), (1, .int p0)] [] σ Q := by
  unfold fX11_worthOf at hz
  refine AX.iconst dX11_worthOf_0 ic_0 ?_
  refine AX.istore_n (ls' := [(0, .ref (G.2.2.1 44)), (1, .int p0), (2, .int 0)]) dX11_worthOf_1 rfl (Nat.le_of_ble_eq_true rfl) rfl ?_
  refine AX.iconst dX11_worthOf_2 ic_0 ?_
  refine AX.istore_n (ls' := [(0, .ref (G.2.2.1 44)), (1, .int p0), (2, .int 0), (3, .int 0)]) dX11_worthOf_3 rfl (Nat.le_of_ble_eq_true rfl) rfl ?_
  refine AX.iconst dX11_worthOf_4 ic_1 ?_
  refine AX.istore (ls' := [(0, .ref (G.2.2.1 44)), (1, .int p0), (2, .int 0), (3, .int 0), (4, .int 1)]) dX11_worthOf_5 (Nat.le_of_ble_eq_true rfl) rfl ?_
  obtain ⟨r1, hr1, hz⟩ := obind hz
  refine AX.sub (ls' := [(0, .ref (G.2.2.1 44)), (1, .int p0), (2, .int 0), (3, .int 0), (4, .int 1)]) [0, 1, 2, 3, 4] rfl ?_
  refine lpc_ind (s := (0, 0, 1, σ)) (r := r1) (fun s => AX G mX11_worthOf 2 48 7 [(0, .ref (G.2.2.1 44)), (1, .int p0), (2, .int s.1), (3, .int s.2.1), (4, .int s.2.2.1)] [] s.2.2.2 Q) (fun a : Int32 × Int32 × St => AX G mX11_worthOf 2 48 94 [(1, .int p0), (2, .int a.1), (3, .int a.2.1)] [] a.2.2 Q) hr1 (fun s z hb hK => wfX11_worthOf_b7 p0 s.1 s.2.1 s.2.2.1 s.2.2.2 hb (Sum.elim (fun s => AX G mX11_worthOf 2 48 7 [(0, .ref (G.2.2.1 44)), (1, .int p0), (2, .int s.1), (3, .int s.2.1), (4, .int s.2.2.1)] [] s.2.2.2 Q) (fun a : Int32 × Int32 × St => AX G mX11_worthOf 2 48 94 [(1, .int p0), (2, .int a.1), (3, .int a.2.1)] [] a.2.2 Q)) (fun _ h9 => h9) (fun _ h9 => h9) hK) ?_
  refine AX.iload_n dX11_worthOf_94 0 rfl rfl ?_
  refine AX.if_ne (tgt := 102) dX11_worthOf_95 rfl (fun c2 => ?_) (fun c2 => ?_)
  · replace hz := (if_neg c2).symm.trans hz
    refine AX.iload_n dX11_worthOf_102 1 rfl rfl ?_
    exact AX.ireturn dX11_worthOf_103 rfl (vp_nar_int _) (kz (P := fun z => Q (some (.int z.1)) z.2) hz hk)
  · replace hz := (if_pos c2).symm.trans hz
    refine AX.iload_n dX11_worthOf_98 2 rfl rfl ?_
    refine AX.goto (tgt := 103) dX11_worthOf_99 rfl ?_
    exact AX.ireturn dX11_worthOf_103 rfl (vp_nar_int _) (kz (P := fun z => Q (some (.int z.1)) z.2) hz hk)
theorem xX11_worthOf {G : ag_G} (p0 : Int32) (σ : St) {z : Int32 × St} (hz : fX11_worthOf p0 σ = some z) : AC G yX11_worthOf mX11_worthOf 2 48 [.ref (G.2.2.1 44), .int p0] σ (fun v σ1 => v = some (.int z.1) ∧ σ1 = z.2) := AC.of (plainFor_of_name (by decide)) rfl (Nat.le_of_ble_eq_true rfl) (wfX11_worthOf p0 σ hz ⟨rfl, rfl⟩)
noncomputable def fX11_worth (p0 : Int32) (σ : St) : Option (Int32 × St) :=
  (fX11_in p0 (0 : Int32) (1 : Int32)).bind fun q1 => if q1 = (0 : Int32) then some ((-2 : Int32), σ) else (fX11_worthOf p0 σ).bind fun q3 => some (q3.1, q3.2)
theorem wfX11_worth {G : ag_G} (p0 : Int32) (σ : St) {z : Int32 × St} (hz : fX11_worth p0 σ = some z) {Q : Option Value → St → Prop} (hk : Q (some (.int z.1)) z.2) : AX G mX11_worth 3 74 0 [(0, .ref (G.2.2.1 44)), (1, .int p0)] [] σ Q := by
  unfold fX11_worth at hz
  refine AX.iload_n dX11_worth_0 1 rfl rfl ?_
  refine AX.iconst dX11_worth_1 ic_0 ?_
  refine AX.iconst dX11_worth_2 ic_1 ?_
  obtain ⟨q1, hq1, hz⟩ := obind hz
  refine AX.callSw (As := [.int p0, .int 0, .int 1]) (rest := []) (w := some (.int q1)) (st' := [.int q1]) dX11_worth_3 mlRX11_89 ylX11_in ysX11_in rfl rfl (Nat.le_of_ble_eq_true rfl) ⟨Nat.le_of_ble_eq_true rfl, Nat.le_of_ble_eq_true rfl⟩ (xX11_in p0 (0 : Int32) (1 : Int32) σ hq1) rfl ?_
  refine AX.if_eq (tgt := 17) dX11_worth_6 rfl (fun c2 => ?_) (fun c2 => ?_)
  · replace hz := (if_pos c2).symm.trans hz
    refine AX.bipush dX11_worth_17 bp_m2 ?_
    exact AX.ireturn dX11_worth_19 rfl (vp_nar_int _) (kz (P := fun z => Q (some (.int z.1)) z.2) hz hk)
  · replace hz := (if_neg c2).symm.trans hz
    refine AX.aload_n dX11_worth_9 0 rfl rfl ?_
    refine AX.iload_n dX11_worth_10 1 rfl rfl ?_
    obtain ⟨q3, hq3, hz⟩ := obind hz
    refine AX.callVw (r := 44) (As := [.int p0]) (rest := []) (w := some (.int q3.1)) (st' := [.int q3.1]) dX11_worth_11 mlRX11_254 ylX11_worthOf yvX11_worthOf rfl rfl rfl (Nat.le_of_ble_eq_true rfl) ⟨Nat.le_of_ble_eq_true rfl, Nat.le_of_ble_eq_true rfl⟩ (xX11_worthOf p0 σ hq3) rfl ?_
    refine AX.goto (tgt := 19) dX11_worth_14 rfl ?_
    exact AX.ireturn dX11_worth_19 rfl (vp_nar_int _) (kz (P := fun z => Q (some (.int z.1)) z.2) hz hk)
theorem xX11_worth {G : ag_G} (p0 : Int32) (σ : St) {z : Int32 × St} (hz : fX11_worth p0 σ = some z) : AC G yX11_worth mX11_worth 3 74 [.ref (G.2.2.1 44), .int p0] σ (fun v σ1 => v = some (.int z.1) ∧ σ1 = z.2) := AC.of (plainFor_of_name (by decide)) rfl (Nat.le_of_ble_eq_true rfl) (wfX11_worth p0 σ hz ⟨rfl, rfl⟩)
noncomputable def fX11_lookOf (p0 : Int32) (σ : St) : Option (Int32 × St) :=
  (fX11_worthOf (1 : Int32) σ).bind fun q1 => (fX11_looksBy q1.1 q1.2).bind fun q2 => if inb p0 99 = true then some ((q2.2.1 64 p0.toNatClampNeg), q2.2) else none
theorem wfX11_lookOf {G : ag_G} (p0 : Int32) (σ : St) {z : Int32 × St} (hz : fX11_lookOf p0 σ = some z) {Q : Option Value → St → Prop} (hk : Q (some (.int z.1)) z.2) : AX G mX11_lookOf 3 74 0 [(0, .ref (G.2.2.1 44)), (1, .int p0)] [] σ Q := by
  unfold fX11_lookOf at hz
  refine AX.aload_n dX11_lookOf_0 0 rfl rfl ?_
  refine AX.aload_n dX11_lookOf_1 0 rfl rfl ?_
  refine AX.iconst dX11_lookOf_2 ic_1 ?_
  obtain ⟨q1, hq1, hz⟩ := obind hz
  refine AX.callVw (r := 44) (As := [.int 1]) (rest := [.ref (G.2.2.1 44)]) (w := some (.int q1.1)) (st' := [.int q1.1, .ref (G.2.2.1 44)]) dX11_lookOf_3 mlRX11_254 ylX11_worthOf yvX11_worthOf rfl rfl rfl (Nat.le_of_ble_eq_true rfl) ⟨Nat.le_of_ble_eq_true rfl, Nat.le_of_ble_eq_true rfl⟩ (xX11_worthOf (1 : Int32) σ hq1) rfl ?_
  obtain ⟨q2, hq2, hz⟩ := obind hz
  refine AX.callVw (r := 44) (As := [.int q1.1]) (rest := []) (w := some (.int q2.1)) (st' := [.int q2.1]) dX11_lookOf_6 mlRX11_251 ylX11_looksBy yvX11_looksBy rfl rfl rfl (Nat.le_of_ble_eq_true rfl) ⟨Nat.le_of_ble_eq_true rfl, Nat.le_of_ble_eq_true rfl⟩ (xX11_looksBy q1.1 q1.2 hq2) rfl ?_
  refine AX.istore_n (ls' := [(0, .ref (G.2.2.1 44)), (1, .int p0), (2, .int q2.1)]) dX11_lookOf_9 rfl (Nat.le_of_ble_eq_true rfl) rfl ?_
  refine AX.aload_n dX11_lookOf_10 0 rfl rfl ?_
  refine AX.getR dX11_lookOf_11 flRX11_68 rfl rfl ?_
  refine AX.iload_n dX11_lookOf_14 1 rfl rfl ?_
  obtain ⟨b3, hz⟩ := ite_n hz
  refine AX.ialdE (v := q2.2.1 64 p0.toNatClampNeg) dX11_lookOf_15 rfl b3 rfl ?_
  exact AX.ireturn dX11_lookOf_16 rfl (vp_nar_int _) (kz (P := fun z => Q (some (.int z.1)) z.2) hz hk)
theorem xX11_lookOf {G : ag_G} (p0 : Int32) (σ : St) {z : Int32 × St} (hz : fX11_lookOf p0 σ = some z) : AC G yX11_lookOf mX11_lookOf 3 74 [.ref (G.2.2.1 44), .int p0] σ (fun v σ1 => v = some (.int z.1) ∧ σ1 = z.2) := AC.of (plainFor_of_name (by decide)) rfl (Nat.le_of_ble_eq_true rfl) (wfX11_lookOf p0 σ hz ⟨rfl, rfl⟩)
noncomputable def fX11_look (p0 : Int32) (σ : St) : Option (Int32 × St) :=
  (fX11_in p0 (0 : Int32) (98 : Int32)).bind fun q1 => if q1 = (0 : Int32) then some ((-2 : Int32), σ) else (fX11_lookOf p0 σ).bind fun q3 => some (q3.1, q3.2)
theorem wfX11_look {G : ag_G} (p0 : Int32) (σ : St) {z : Int32 × St} (hz : fX11_look p0 σ = some z) {Q : Option Value → St → Prop} (hk : Q (some (.int z.1)) z.2) : AX G mX11_look 4 96 0 [(0, .ref (G.2.2.1 44)), (1, .int p0)] [] σ Q := by
  unfold fX11_look at hz
  refine AX.iload_n dX11_look_0 1 rfl rfl ?_
  refine AX.iconst dX11_look_1 ic_0 ?_
  refine AX.bipush dX11_look_2 bp_98 ?_
  obtain ⟨q1, hq1, hz⟩ := obind hz
  refine AX.callSw (As := [.int p0, .int 0, .int 98]) (rest := []) (w := some (.int q1)) (st' := [.int q1]) dX11_look_4 mlRX11_89 ylX11_in ysX11_in rfl rfl (Nat.le_of_ble_eq_true rfl) ⟨Nat.le_of_ble_eq_true rfl, Nat.le_of_ble_eq_true rfl⟩ (xX11_in p0 (0 : Int32) (98 : Int32) σ hq1) rfl ?_
  refine AX.if_eq (tgt := 18) dX11_look_7 rfl (fun c2 => ?_) (fun c2 => ?_)
  · replace hz := (if_pos c2).symm.trans hz
    refine AX.bipush dX11_look_18 bp_m2 ?_
    exact AX.ireturn dX11_look_20 rfl (vp_nar_int _) (kz (P := fun z => Q (some (.int z.1)) z.2) hz hk)
  · replace hz := (if_neg c2).symm.trans hz
    refine AX.aload_n dX11_look_10 0 rfl rfl ?_
    refine AX.iload_n dX11_look_11 1 rfl rfl ?_
    obtain ⟨q3, hq3, hz⟩ := obind hz
    refine AX.callVw (r := 44) (As := [.int p0]) (rest := []) (w := some (.int q3.1)) (st' := [.int q3.1]) dX11_look_12 mlRX11_257 ylX11_lookOf yvX11_lookOf rfl rfl rfl (Nat.le_of_ble_eq_true rfl) ⟨Nat.le_of_ble_eq_true rfl, Nat.le_of_ble_eq_true rfl⟩ (xX11_lookOf p0 σ hq3) rfl ?_
    refine AX.goto (tgt := 20) dX11_look_15 rfl ?_
    exact AX.ireturn dX11_look_20 rfl (vp_nar_int _) (kz (P := fun z => Q (some (.int z.1)) z.2) hz hk)
theorem xX11_look {G : ag_G} (p0 : Int32) (σ : St) {z : Int32 × St} (hz : fX11_look p0 σ = some z) : AC G yX11_look mX11_look 4 96 [.ref (G.2.2.1 44), .int p0] σ (fun v σ1 => v = some (.int z.1) ∧ σ1 = z.2) := AC.of (plainFor_of_name (by decide)) rfl (Nat.le_of_ble_eq_true rfl) (wfX11_look p0 σ hz ⟨rfl, rfl⟩)
noncomputable def fX11_from (p0 : Int32) (σ : St) : Option (Int32 × St) :=
  (fX11_in p0 (0 : Int32) (98 : Int32)).bind fun q1 => if q1 = (0 : Int32) then some ((-2 : Int32), σ) else ltb (σ.1 44 14) fun x3 => some (x3, (sI σ 44 14 p0))
theorem wfX11_from {G : ag_G} (p0 : Int32) (σ : St) {z : Int32 × St} (hz : fX11_from p0 σ = some z) {Q : Option Value → St → Prop} (hk : Q (some (.int z.1)) z.2) : AX G mX11_from 1 22 0 [(0, .ref (G.2.2.1 44)), (1, .int p0)] [] σ Q := by
  unfold fX11_from at hz
  refine AX.iload_n dX11_from_0 1 rfl rfl ?_
  refine AX.iconst dX11_from_1 ic_0 ?_
  refine AX.bipush dX11_from_2 bp_98 ?_
  obtain ⟨q1, hq1, hz⟩ := obind hz
  refine AX.callSw (As := [.int p0, .int 0, .int 98]) (rest := []) (w := some (.int q1)) (st' := [.int q1]) dX11_from_4 mlRX11_89 ylX11_in ysX11_in rfl rfl (Nat.le_of_ble_eq_true rfl) ⟨Nat.le_of_ble_eq_true rfl, Nat.le_of_ble_eq_true rfl⟩ (xX11_in p0 (0 : Int32) (98 : Int32) σ hq1) rfl ?_
  refine AX.if_ne (tgt := 13) dX11_from_7 rfl (fun c2 => ?_) (fun c2 => ?_)
  · replace hz := (if_neg c2).symm.trans hz
    refine AX.aload_n dX11_from_13 0 rfl rfl ?_
    refine AX.getIE (v := σ.1 44 14) dX11_from_14 flRX11_260 rfl rfl rfl ?_
    obtain ⟨x3, hx3, hz⟩ := ltb_e hz
    refine AX.topI hx3 ?_
    refine AX.istore_n (ls' := [(0, .ref (G.2.2.1 44)), (1, .int p0), (2, .int x3)]) dX11_from_17 rfl (Nat.le_of_ble_eq_true rfl) rfl ?_
    refine AX.aload_n dX11_from_18 0 rfl rfl ?_
    refine AX.iload_n dX11_from_19 1 rfl rfl ?_
    refine AX.putI dX11_from_20 fpRX11_260 rfl rfl (vp_nar_int _) rfl ?_
    refine AX.iload_n dX11_from_23 2 rfl rfl ?_
    exact AX.ireturn dX11_from_24 rfl (vp_nar_int _) (kz (P := fun z => Q (some (.int z.1)) z.2) hz hk)
  · replace hz := (if_pos c2).symm.trans hz
    refine AX.bipush dX11_from_10 bp_m2 ?_
    exact AX.ireturn dX11_from_12 rfl (vp_nar_int _) (kz (P := fun z => Q (some (.int z.1)) z.2) hz hk)
theorem xX11_from {G : ag_G} (p0 : Int32) (σ : St) {z : Int32 × St} (hz : fX11_from p0 σ = some z) : AC G yX11_from mX11_from 1 22 [.ref (G.2.2.1 44), .int p0] σ (fun v σ1 => v = some (.int z.1) ∧ σ1 = z.2) := AC.of (plainFor_of_name (by decide)) rfl (Nat.le_of_ble_eq_true rfl) (wfX11_from p0 σ hz ⟨rfl, rfl⟩)
noncomputable def fX11_said (p0 : Int32) (σ : St) : Option (Int32 × St) :=
  (fX11_isNumber p0).bind fun q1 => if q1 = (0 : Int32) then some ((-2 : Int32), σ) else if (σ.1 44 12) = (20 : Int32) then some ((-4 : Int32), σ) else if inb (σ.1 44 12) 20 = true then some (((σ.1 44 12) + (1 : Int32)), (sI (sI σ 53 ((σ.1 44 12).toNatClampNeg) p0) 44 12 ((σ.1 44 12) + (1 : Int32)))) else none
theorem wfX11_said {G : ag_G} (p0 : Int32) (σ : St) {z : Int32 × St} (hz : fX11_said p0 σ = some z) {Q : Option Value → St → Prop} (hk : Q (some (.int z.1)) z.2) : AX G mX11_said 2 42 0 [(0, .ref (G.2.2.1 44)), (1, .int p0)] [] σ Q := by
  unfold fX11_said at hz
  refine AX.iload_n dX11_said_0 1 rfl rfl ?_
  obtain ⟨q1, hq1, hz⟩ := obind hz
  refine AX.callSw (As := [.int p0]) (rest := []) (w := some (.int q1)) (st' := [.int q1]) dX11_said_1 mlRX11_138 ylX11_isNumber ysX11_isNumber rfl rfl (Nat.le_of_ble_eq_true rfl) ⟨Nat.le_of_ble_eq_true rfl, Nat.le_of_ble_eq_true rfl⟩ (xX11_isNumber p0 σ hq1) rfl ?_
  refine AX.if_ne (tgt := 10) dX11_said_4 rfl (fun c2 => ?_) (fun c2 => ?_)
  · replace hz := (if_neg c2).symm.trans hz
    refine AX.aload_n dX11_said_10 0 rfl rfl ?_
    refine AX.getIE (v := σ.1 44 12) dX11_said_11 flRX11_141 rfl rfl rfl ?_
    refine AX.bipush dX11_said_14 bp_20 ?_
    refine AX.icmp_ne (tgt := 22) dX11_said_16 rfl (fun c3 => ?_) (fun c3 => ?_)
    · replace hz := (if_neg c3).symm.trans hz
      refine AX.aload_n dX11_said_22 0 rfl rfl ?_
      refine AX.getR dX11_said_23 flRX11_34 rfl rfl ?_
      refine AX.aload_n dX11_said_26 0 rfl rfl ?_
      refine AX.getIE (v := σ.1 44 12) dX11_said_27 flRX11_141 rfl rfl rfl ?_
      refine AX.iload_n dX11_said_30 1 rfl rfl ?_
      obtain ⟨b4, hz⟩ := ite_n hz
      refine AX.iast dX11_said_31 rfl b4 ?_
      refine AX.aload_n dX11_said_32 0 rfl rfl ?_
      refine AX.dup dX11_said_33 rfl ?_
      refine AX.getIE (v := σ.1 44 12) dX11_said_34 flRX11_141 rfl rfl rfl ?_
      refine AX.iconst dX11_said_37 ic_1 ?_
      refine AX.iadd dX11_said_38 ?_
      refine AX.putI dX11_said_39 fpRX11_141 rfl rfl (vp_nar_int _) rfl ?_
      refine AX.aload_n dX11_said_42 0 rfl rfl ?_
      refine AX.getIE (v := (σ.1 44 12) + (1 : Int32)) dX11_said_43 flRX11_141 rfl rfl rfl ?_
      exact AX.ireturn dX11_said_46 rfl (vp_nar_int _) (kz (P := fun z => Q (some (.int z.1)) z.2) hz hk)
    · replace hz := (if_pos c3).symm.trans hz
      refine AX.bipush dX11_said_19 bp_m4 ?_
      exact AX.ireturn dX11_said_21 rfl (vp_nar_int _) (kz (P := fun z => Q (some (.int z.1)) z.2) hz hk)
  · replace hz := (if_pos c2).symm.trans hz
    refine AX.bipush dX11_said_7 bp_m2 ?_
    exact AX.ireturn dX11_said_9 rfl (vp_nar_int _) (kz (P := fun z => Q (some (.int z.1)) z.2) hz hk)
theorem xX11_said {G : ag_G} (p0 : Int32) (σ : St) {z : Int32 × St} (hz : fX11_said p0 σ = some z) : AC G yX11_said mX11_said 2 42 [.ref (G.2.2.1 44), .int p0] σ (fun v σ1 => v = some (.int z.1) ∧ σ1 = z.2) := AC.of (plainFor_of_name (by decide)) rfl (Nat.le_of_ble_eq_true rfl) (wfX11_said p0 σ hz ⟨rfl, rfl⟩)
noncomputable def fX11_wrongOf_j84 (l1 : Int32) (l2 : Int32) (l4 : Int32) (t0 : Int32) (t1 : Int32) (σ : St) : Option ((Int32 × Int32 × Int32) ⊕ (Int32 × Int32)) :=
  ltb (t0 + t1) fun x1 => some (.inl (l2, x1, l4 + 1))
theorem wfX11_wrongOf_j84 {G : ag_G} (l1 : Int32) (l2 : Int32) (l4 : Int32) (t0 : Int32) (t1 : Int32) (σ : St) {z : (Int32 × Int32 × Int32) ⊕ (Int32 × Int32)} (hz : fX11_wrongOf_j84 l1 l2 l4 t0 t1 σ = some z) {Q : Option Value → St → Prop} (K : ((Int32 × Int32 × Int32) ⊕ (Int32 × Int32)) → Prop) (hback : ∀ a : Int32 × Int32 × Int32, K (.inl a) → AX G mX11_wrongOf 0 0 7 [(0, .ref (G.2.2.1 44)), (1, .int l1), (2, .int a.1), (3, .int a.2.1), (4, .int a.2.2)] [] σ Q) (hk : K z) : AX G mX11_wrongOf 0 0 84 [(0, .ref (G.2.2.1 44)), (1, .int l1), (2, .int l2), (4, .int l4)] [.int t1, .int t0] σ Q := by
  unfold fX11_wrongOf_j84 at hz
  refine AX.iadd dX11_wrongOf_84 ?_
  obtain ⟨x1, hx1, hz⟩ := ltb_e hz
  refine AX.topI hx1 ?_
  refine AX.istore_n (ls' := [(0, .ref (G.2.2.1 44)), (1, .int l1), (2, .int l2), (3, .int x1), (4, .int l4)]) dX11_wrongOf_85 rfl (Nat.le_of_ble_eq_true rfl) rfl ?_
  refine AX.iinc (v := l4 + 1) (ls' := [(0, .ref (G.2.2.1 44)), (1, .int l1), (2, .int l2), (3, .int x1), (4, .int (l4 + 1))]) 4 dX11_wrongOf_86 rfl (Nat.le_of_ble_eq_true rfl) (congrArg (l4 + ·) ic_1) rfl ?_
  refine AX.goto (tgt := 7) dX11_wrongOf_89 rfl ?_
  exact AX.sub (ls' := [(0, .ref (G.2.2.1 44)), (1, .int l1), (2, .int l2), (3, .int x1), (4, .int (l4 + 1))]) [0, 1, 2, 3, 4] rfl (hback (l2, x1, l4 + 1) (kz (P := K) hz hk))
noncomputable def fX11_wrongOf_j72 (l1 : Int32) (l3 : Int32) (l4 : Int32) (l5 : Int32) (t0 : Int32) (σ : St) : Option ((Int32 × Int32 × Int32) ⊕ (Int32 × Int32)) :=
  if l5 = (0 : Int32) then fX11_wrongOf_j84 l1 t0 l4 l3 0 σ else fX11_wrongOf_j84 l1 t0 l4 l3 1 σ
theorem wfX11_wrongOf_j72 {G : ag_G} (l1 : Int32) (l3 : Int32) (l4 : Int32) (l5 : Int32) (t0 : Int32) (σ : St) {z : (Int32 × Int32 × Int32) ⊕ (Int32 × Int32)} (hz : fX11_wrongOf_j72 l1 l3 l4 l5 t0 σ = some z) {Q : Option Value → St → Prop} (K : ((Int32 × Int32 × Int32) ⊕ (Int32 × Int32)) → Prop) (hback : ∀ a : Int32 × Int32 × Int32, K (.inl a) → AX G mX11_wrongOf 0 0 7 [(0, .ref (G.2.2.1 44)), (1, .int l1), (2, .int a.1), (3, .int a.2.1), (4, .int a.2.2)] [] σ Q) (hk : K z) : AX G mX11_wrongOf 0 0 72 [(0, .ref (G.2.2.1 44)), (1, .int l1), (3, .int l3), (4, .int l4), (5, .int l5)] [.int t0] σ Q := by
  unfold fX11_wrongOf_j72 at hz
  refine AX.istore_n (ls' := [(0, .ref (G.2.2.1 44)), (1, .int l1), (2, .int t0), (3, .int l3), (4, .int l4), (5, .int l5)]) dX11_wrongOf_72 rfl (Nat.le_of_ble_eq_true rfl) rfl ?_
  refine AX.iload_n dX11_wrongOf_73 3 rfl rfl ?_
  refine AX.iload dX11_wrongOf_74 5 rfl ?_
  refine AX.if_eq (tgt := 83) dX11_wrongOf_76 rfl (fun c1 => ?_) (fun c1 => ?_)
  · replace hz := (if_pos c1).symm.trans hz
    refine AX.iconst dX11_wrongOf_83 ic_0 ?_
    exact AX.sub (ls' := [(0, .ref (G.2.2.1 44)), (1, .int l1), (2, .int t0), (4, .int l4)]) [0, 1, 2, 4] rfl (wfX11_wrongOf_j84 l1 t0 l4 l3 0 σ hz K hback hk)
  · replace hz := (if_neg c1).symm.trans hz
    refine AX.iconst dX11_wrongOf_79 ic_1 ?_
    refine AX.goto (tgt := 84) dX11_wrongOf_80 rfl ?_
    exact AX.sub (ls' := [(0, .ref (G.2.2.1 44)), (1, .int l1), (2, .int t0), (4, .int l4)]) [0, 1, 2, 4] rfl (wfX11_wrongOf_j84 l1 t0 l4 l3 1 σ hz K hback hk)
noncomputable def fX11_wrongOf_j71 (l1 : Int32) (l2 : Int32) (l3 : Int32) (l4 : Int32) (l5 : Int32) (σ : St) : Option ((Int32 × Int32 × Int32) ⊕ (Int32 × Int32)) :=
  fX11_wrongOf_j72 l1 l3 l4 l5 l2 σ
theorem wfX11_wrongOf_j71 {G : ag_G} (l1 : Int32) (l2 : Int32) (l3 : Int32) (l4 : Int32) (l5 : Int32) (σ : St) {z : (Int32 × Int32 × Int32) ⊕ (Int32 × Int32)} (hz : fX11_wrongOf_j71 l1 l2 l3 l4 l5 σ = some z) {Q : Option Value → St → Prop} (K : ((Int32 × Int32 × Int32) ⊕ (Int32 × Int32)) → Prop) (hback : ∀ a : Int32 × Int32 × Int32, K (.inl a) → AX G mX11_wrongOf 0 0 7 [(0, .ref (G.2.2.1 44)), (1, .int l1), (2, .int a.1), (3, .int a.2.1), (4, .int a.2.2)] [] σ Q) (hk : K z) : AX G mX11_wrongOf 0 0 71 [(0, .ref (G.2.2.1 44)), (1, .int l1), (2, .int l2), (3, .int l3), (4, .int l4), (5, .int l5)] [] σ Q := by
  unfold fX11_wrongOf_j71 at hz
  refine AX.iload_n dX11_wrongOf_71 2 rfl rfl ?_
  exact AX.sub (ls' := [(0, .ref (G.2.2.1 44)), (1, .int l1), (3, .int l3), (4, .int l4), (5, .int l5)]) [0, 1, 3, 4, 5] rfl (wfX11_wrongOf_j72 l1 l3 l4 l5 l2 σ hz K hback hk)
noncomputable def fX11_wrongOf_j54 (l1 : Int32) (l2 : Int32) (l3 : Int32) (l4 : Int32) (t0 : Int32) (σ : St) : Option ((Int32 × Int32 × Int32) ⊕ (Int32 × Int32)) :=
  if t0 = (0 : Int32) then fX11_wrongOf_j71 l1 l2 l3 l4 t0 σ else if l2 = (-1 : Int32) then fX11_wrongOf_j72 l1 l3 l4 t0 l4 σ else fX11_wrongOf_j71 l1 l2 l3 l4 t0 σ
theorem wfX11_wrongOf_j54 {G : ag_G} (l1 : Int32) (l2 : Int32) (l3 : Int32) (l4 : Int32) (t0 : Int32) (σ : St) {z : (Int32 × Int32 × Int32) ⊕ (Int32 × Int32)} (hz : fX11_wrongOf_j54 l1 l2 l3 l4 t0 σ = some z) {Q : Option Value → St → Prop} (K : ((Int32 × Int32 × Int32) ⊕ (Int32 × Int32)) → Prop) (hback : ∀ a : Int32 × Int32 × Int32, K (.inl a) → AX G mX11_wrongOf 0 0 7 [(0, .ref (G.2.2.1 44)), (1, .int l1), (2, .int a.1), (3, .int a.2.1), (4, .int a.2.2)] [] σ Q) (hk : K z) : AX G mX11_wrongOf 0 0 54 [(0, .ref (G.2.2.1 44)), (1, .int l1), (2, .int l2), (3, .int l3), (4, .int l4)] [.int t0] σ Q := by
  unfold fX11_wrongOf_j54 at hz
  refine AX.istore (ls' := [(0, .ref (G.2.2.1 44)), (1, .int l1), (2, .int l2), (3, .int l3), (4, .int l4), (5, .int t0)]) dX11_wrongOf_54 (Nat.le_of_ble_eq_true rfl) rfl ?_
  refine AX.iload dX11_wrongOf_56 5 rfl ?_
  refine AX.if_eq (tgt := 71) dX11_wrongOf_58 rfl (fun c1 => ?_) (fun c1 => ?_)
  · replace hz := (if_pos c1).symm.trans hz
    exact AX.sub (ls' := [(0, .ref (G.2.2.1 44)), (1, .int l1), (2, .int l2), (3, .int l3), (4, .int l4), (5, .int t0)]) [0, 1, 2, 3, 4, 5] rfl (wfX11_wrongOf_j71 l1 l2 l3 l4 t0 σ hz K hback hk)
  · replace hz := (if_neg c1).symm.trans hz
    refine AX.iload_n dX11_wrongOf_61 2 rfl rfl ?_
    refine AX.iconst dX11_wrongOf_62 ic_m1 ?_
    refine AX.icmp_ne (tgt := 71) dX11_wrongOf_63 rfl (fun c2 => ?_) (fun c2 => ?_)
    · replace hz := (if_neg c2).symm.trans hz
      exact AX.sub (ls' := [(0, .ref (G.2.2.1 44)), (1, .int l1), (2, .int l2), (3, .int l3), (4, .int l4), (5, .int t0)]) [0, 1, 2, 3, 4, 5] rfl (wfX11_wrongOf_j71 l1 l2 l3 l4 t0 σ hz K hback hk)
    · replace hz := (if_pos c2).symm.trans hz
      refine AX.iload dX11_wrongOf_66 4 rfl ?_
      refine AX.goto (tgt := 72) dX11_wrongOf_68 rfl ?_
      exact AX.sub (ls' := [(0, .ref (G.2.2.1 44)), (1, .int l1), (3, .int l3), (4, .int l4), (5, .int t0)]) [0, 1, 3, 4, 5] rfl (wfX11_wrongOf_j72 l1 l3 l4 t0 l4 σ hz K hback hk)
noncomputable def fX11_wrongOf_j44 (l1 : Int32) (l2 : Int32) (l3 : Int32) (l4 : Int32) (t0 : Int32) (t1 : Int32) (σ : St) : Option ((Int32 × Int32 × Int32) ⊕ (Int32 × Int32)) :=
  if t0 = (t1 + (1 : Int32)) then fX11_wrongOf_j54 l1 l2 l3 l4 0 σ else fX11_wrongOf_j54 l1 l2 l3 l4 1 σ
theorem wfX11_wrongOf_j44 {G : ag_G} (l1 : Int32) (l2 : Int32) (l3 : Int32) (l4 : Int32) (t0 : Int32) (t1 : Int32) (σ : St) {z : (Int32 × Int32 × Int32) ⊕ (Int32 × Int32)} (hz : fX11_wrongOf_j44 l1 l2 l3 l4 t0 t1 σ = some z) {Q : Option Value → St → Prop} (K : ((Int32 × Int32 × Int32) ⊕ (Int32 × Int32)) → Prop) (hback : ∀ a : Int32 × Int32 × Int32, K (.inl a) → AX G mX11_wrongOf 0 0 7 [(0, .ref (G.2.2.1 44)), (1, .int l1), (2, .int a.1), (3, .int a.2.1), (4, .int a.2.2)] [] σ Q) (hk : K z) : AX G mX11_wrongOf 0 0 44 [(0, .ref (G.2.2.1 44)), (1, .int l1), (2, .int l2), (3, .int l3), (4, .int l4)] [.int t1, .int t0] σ Q := by
  unfold fX11_wrongOf_j44 at hz
  refine AX.iconst dX11_wrongOf_44 ic_1 ?_
  refine AX.iadd dX11_wrongOf_45 ?_
  refine AX.icmp_eq (tgt := 53) dX11_wrongOf_46 rfl (fun c1 => ?_) (fun c1 => ?_)
  · replace hz := (if_pos c1).symm.trans hz
    refine AX.iconst dX11_wrongOf_53 ic_0 ?_
    exact AX.sub (ls' := [(0, .ref (G.2.2.1 44)), (1, .int l1), (2, .int l2), (3, .int l3), (4, .int l4)]) [0, 1, 2, 3, 4] rfl (wfX11_wrongOf_j54 l1 l2 l3 l4 0 σ hz K hback hk)
  · replace hz := (if_neg c1).symm.trans hz
    refine AX.iconst dX11_wrongOf_49 ic_1 ?_
    refine AX.goto (tgt := 54) dX11_wrongOf_50 rfl ?_
    exact AX.sub (ls' := [(0, .ref (G.2.2.1 44)), (1, .int l1), (2, .int l2), (3, .int l3), (4, .int l4)]) [0, 1, 2, 3, 4] rfl (wfX11_wrongOf_j54 l1 l2 l3 l4 1 σ hz K hback hk)
noncomputable def fX11_wrongOf_b7 (l1 : Int32) (l2 : Int32) (l3 : Int32) (l4 : Int32) (σ : St) : Option ((Int32 × Int32 × Int32) ⊕ (Int32 × Int32)) :=
  if (σ.1 44 12) ≤ l4 then some (.inr (l2, l3)) else if inb l4 20 = true then if l4 = (0 : Int32) then fX11_wrongOf_j44 l1 l2 l3 l4 (σ.1 53 l4.toNatClampNeg) (σ.1 44 14) σ else if inb (l4 - (1 : Int32)) 20 = true then fX11_wrongOf_j44 l1 l2 l3 l4 (σ.1 53 l4.toNatClampNeg) (σ.1 53 ((l4 - (1 : Int32)).toNatClampNeg)) σ else none else none
theorem wfX11_wrongOf_b7 {G : ag_G} (l1 : Int32) (l2 : Int32) (l3 : Int32) (l4 : Int32) (σ : St) {z : (Int32 × Int32 × Int32) ⊕ (Int32 × Int32)} (hz : fX11_wrongOf_b7 l1 l2 l3 l4 σ = some z) {Q : Option Value → St → Prop} (K : ((Int32 × Int32 × Int32) ⊕ (Int32 × Int32)) → Prop) (hback : ∀ a : Int32 × Int32 × Int32, K (.inl a) → AX G mX11_wrongOf 0 0 7 [(0, .ref (G.2.2.1 44)), (1, .int l1), (2, .int a.1), (3, .int a.2.1), (4, .int a.2.2)] [] σ Q) (hexit0 : ∀ a : Int32 × Int32, K (.inr a) → AX G mX11_wrongOf 0 0 92 [(1, .int l1), (2, .int a.1), (3, .int a.2)] [] σ Q) (hk : K z) : AX G mX11_wrongOf 0 0 7 [(0, .ref (G.2.2.1 44)), (1, .int l1), (2, .int l2), (3, .int l3), (4, .int l4)] [] σ Q := by
  unfold fX11_wrongOf_b7 at hz
  refine AX.iload dX11_wrongOf_7 4 rfl ?_
  refine AX.aload_n dX11_wrongOf_9 0 rfl rfl ?_
  refine AX.getIE (v := σ.1 44 12) dX11_wrongOf_10 flRX11_141 rfl rfl rfl ?_
  refine AX.icmp_ge (tgt := 92) dX11_wrongOf_13 rfl (fun c1 => ?_) (fun c1 => ?_)
  · replace hz := (if_pos c1).symm.trans hz
    exact AX.sub (ls' := [(1, .int l1), (2, .int l2), (3, .int l3)]) [1, 2, 3] rfl (hexit0 (l2, l3) (kz (P := K) hz hk))
  · replace hz := (if_neg c1).symm.trans hz
    refine AX.aload_n dX11_wrongOf_16 0 rfl rfl ?_
    refine AX.getR dX11_wrongOf_17 flRX11_34 rfl rfl ?_
    refine AX.iload dX11_wrongOf_20 4 rfl ?_
    obtain ⟨b2, hz⟩ := ite_n hz
    refine AX.ialdE (v := σ.1 53 l4.toNatClampNeg) dX11_wrongOf_22 rfl b2 rfl ?_
    refine AX.iload dX11_wrongOf_23 4 rfl ?_
    refine AX.if_ne (tgt := 35) dX11_wrongOf_25 rfl (fun c3 => ?_) (fun c3 => ?_)
    · replace hz := (if_neg c3).symm.trans hz
      refine AX.aload_n dX11_wrongOf_35 0 rfl rfl ?_
      refine AX.getR dX11_wrongOf_36 flRX11_34 rfl rfl ?_
      refine AX.iload dX11_wrongOf_39 4 rfl ?_
      refine AX.iconst dX11_wrongOf_41 ic_1 ?_
      refine AX.isub dX11_wrongOf_42 ?_
      obtain ⟨b4, hz⟩ := ite_n hz
      refine AX.ialdE (v := σ.1 53 ((l4 - (1 : Int32)).toNatClampNeg)) dX11_wrongOf_43 rfl b4 rfl ?_
      exact AX.sub (ls' := [(0, .ref (G.2.2.1 44)), (1, .int l1), (2, .int l2), (3, .int l3), (4, .int l4)]) [0, 1, 2, 3, 4] rfl (wfX11_wrongOf_j44 l1 l2 l3 l4 (σ.1 53 l4.toNatClampNeg) (σ.1 53 ((l4 - (1 : Int32)).toNatClampNeg)) σ hz K hback hk)
    · replace hz := (if_pos c3).symm.trans hz
      refine AX.aload_n dX11_wrongOf_28 0 rfl rfl ?_
      refine AX.getIE (v := σ.1 44 14) dX11_wrongOf_29 flRX11_260 rfl rfl rfl ?_
      refine AX.goto (tgt := 44) dX11_wrongOf_32 rfl ?_
      exact AX.sub (ls' := [(0, .ref (G.2.2.1 44)), (1, .int l1), (2, .int l2), (3, .int l3), (4, .int l4)]) [0, 1, 2, 3, 4] rfl (wfX11_wrongOf_j44 l1 l2 l3 l4 (σ.1 53 l4.toNatClampNeg) (σ.1 44 14) σ hz K hback hk)
noncomputable def fX11_wrongOf (p0 : Int32) (σ : St) : Option (Int32) :=
  (lpc (fun s => fX11_wrongOf_b7 p0 s.1 s.2.1 s.2.2 σ) (-1, 0, 0)).bind fun r1 => if p0 = (0 : Int32) then some r1.1 else some r1.2
theorem wfX11_wrongOf {G : ag_G} (p0 : Int32) (σ : St) {z : Int32} (hz : fX11_wrongOf p0 σ = some z) {Q : Option Value → St → Prop} (hk : Q (some (.int z)) σ) : AX G mX11_wrongOf 0 0 0 [(0, .ref (G.2.2.1 44)), (1, .int p0)] [] σ Q := by
  unfold fX11_wrongOf at hz
  refine AX.iconst dX11_wrongOf_0 ic_m1 ?_
  refine AX.istore_n (ls' := [(0, .ref (G.2.2.1 44)), (1, .int p0), (2, .int (-1))]) dX11_wrongOf_1 rfl (Nat.le_of_ble_eq_true rfl) rfl ?_
  refine AX.iconst dX11_wrongOf_2 ic_0 ?_
  refine AX.istore_n (ls' := [(0, .ref (G.2.2.1 44)), (1, .int p0), (2, .int (-1)), (3, .int 0)]) dX11_wrongOf_3 rfl (Nat.le_of_ble_eq_true rfl) rfl ?_
  refine AX.iconst dX11_wrongOf_4 ic_0 ?_
  refine AX.istore (ls' := [(0, .ref (G.2.2.1 44)), (1, .int p0), (2, .int (-1)), (3, .int 0), (4, .int 0)]) dX11_wrongOf_5 (Nat.le_of_ble_eq_true rfl) rfl ?_
  obtain ⟨r1, hr1, hz⟩ := obind hz
  refine AX.sub (ls' := [(0, .ref (G.2.2.1 44)), (1, .int p0), (2, .int (-1)), (3, .int 0), (4, .int 0)]) [0, 1, 2, 3, 4] rfl ?_
  refine lpc_ind (s := (-1, 0, 0)) (r := r1) (fun s => AX G mX11_wrongOf 0 0 7 [(0, .ref (G.2.2.1 44)), (1, .int p0), (2, .int s.1), (3, .int s.2.1), (4, .int s.2.2)] [] σ Q) (fun a : Int32 × Int32 => AX G mX11_wrongOf 0 0 92 [(1, .int p0), (2, .int a.1), (3, .int a.2)] [] σ Q) hr1 (fun s z hb hK => wfX11_wrongOf_b7 p0 s.1 s.2.1 s.2.2 σ hb (Sum.elim (fun s => AX G mX11_wrongOf 0 0 7 [(0, .ref (G.2.2.1 44)), (1, .int p0), (2, .int s.1), (3, .int s.2.1), (4, .int s.2.2)] [] σ Q) (fun a : Int32 × Int32 => AX G mX11_wrongOf 0 0 92 [(1, .int p0), (2, .int a.1), (3, .int a.2)] [] σ Q)) (fun _ h9 => h9) (fun _ h9 => h9) hK) ?_
  refine AX.iload_n dX11_wrongOf_92 0 rfl rfl ?_
  refine AX.if_ne (tgt := 100) dX11_wrongOf_93 rfl (fun c2 => ?_) (fun c2 => ?_)
  · replace hz := (if_neg c2).symm.trans hz
    refine AX.iload_n dX11_wrongOf_100 2 rfl rfl ?_
    exact AX.ireturn dX11_wrongOf_101 rfl (vp_nar_int _) (kz (P := fun z => Q (some (.int z)) σ) hz hk)
  · replace hz := (if_pos c2).symm.trans hz
    refine AX.iload_n dX11_wrongOf_96 1 rfl rfl ?_
    refine AX.goto (tgt := 101) dX11_wrongOf_97 rfl ?_
    exact AX.ireturn dX11_wrongOf_101 rfl (vp_nar_int _) (kz (P := fun z => Q (some (.int z)) σ) hz hk)
theorem xX11_wrongOf {G : ag_G} (p0 : Int32) (σ : St) {z : Int32} (hz : fX11_wrongOf p0 σ = some z) : AC G yX11_wrongOf mX11_wrongOf 0 0 [.ref (G.2.2.1 44), .int p0] σ (fun v σ1 => v = some (.int z) ∧ σ1 = σ) := AC.of (plainFor_of_name (by decide)) rfl (Nat.le_of_ble_eq_true rfl) (wfX11_wrongOf p0 σ hz ⟨rfl, rfl⟩)
noncomputable def fX11_wrong (p0 : Int32) (σ : St) : Option (Int32) :=
  (fX11_in p0 (0 : Int32) (1 : Int32)).bind fun q1 => if q1 = (0 : Int32) then some (-2 : Int32) else (fX11_wrongOf p0 σ).bind fun q3 => some q3
theorem wfX11_wrong {G : ag_G} (p0 : Int32) (σ : St) {z : Int32} (hz : fX11_wrong p0 σ = some z) {Q : Option Value → St → Prop} (hk : Q (some (.int z)) σ) : AX G mX11_wrong 1 25 0 [(0, .ref (G.2.2.1 44)), (1, .int p0)] [] σ Q := by
  unfold fX11_wrong at hz
  refine AX.iload_n dX11_wrong_0 1 rfl rfl ?_
  refine AX.iconst dX11_wrong_1 ic_0 ?_
  refine AX.iconst dX11_wrong_2 ic_1 ?_
  obtain ⟨q1, hq1, hz⟩ := obind hz
  refine AX.callSw (As := [.int p0, .int 0, .int 1]) (rest := []) (w := some (.int q1)) (st' := [.int q1]) dX11_wrong_3 mlRX11_89 ylX11_in ysX11_in rfl rfl (Nat.le_of_ble_eq_true rfl) ⟨Nat.le_of_ble_eq_true rfl, Nat.le_of_ble_eq_true rfl⟩ (xX11_in p0 (0 : Int32) (1 : Int32) σ hq1) rfl ?_
  refine AX.if_eq (tgt := 17) dX11_wrong_6 rfl (fun c2 => ?_) (fun c2 => ?_)
  · replace hz := (if_pos c2).symm.trans hz
    refine AX.bipush dX11_wrong_17 bp_m2 ?_
    exact AX.ireturn dX11_wrong_19 rfl (vp_nar_int _) (kz (P := fun z => Q (some (.int z)) σ) hz hk)
  · replace hz := (if_neg c2).symm.trans hz
    refine AX.aload_n dX11_wrong_9 0 rfl rfl ?_
    refine AX.iload_n dX11_wrong_10 1 rfl rfl ?_
    obtain ⟨q3, hq3, hz⟩ := obind hz
    refine AX.callVw (r := 44) (As := [.int p0]) (rest := []) (w := some (.int q3)) (st' := [.int q3]) dX11_wrong_11 mlRX11_263 ylX11_wrongOf yvX11_wrongOf rfl rfl rfl (Nat.le_of_ble_eq_true rfl) ⟨Nat.le_of_ble_eq_true rfl, Nat.le_of_ble_eq_true rfl⟩ (xX11_wrongOf p0 σ hq3) rfl ?_
    refine AX.goto (tgt := 19) dX11_wrong_14 rfl ?_
    exact AX.ireturn dX11_wrong_19 rfl (vp_nar_int _) (kz (P := fun z => Q (some (.int z)) σ) hz hk)
theorem xX11_wrong {G : ag_G} (p0 : Int32) (σ : St) {z : Int32} (hz : fX11_wrong p0 σ = some z) : AC G yX11_wrong mX11_wrong 1 25 [.ref (G.2.2.1 44), .int p0] σ (fun v σ1 => v = some (.int z) ∧ σ1 = σ) := AC.of (plainFor_of_name (by decide)) rfl (Nat.le_of_ble_eq_true rfl) (wfX11_wrong p0 σ hz ⟨rfl, rfl⟩)
noncomputable def fX11_blameNow  (σ : St) : Option (Int32 × St) :=
  (fX11_wrongOf (0 : Int32) σ).bind fun q1 => ltb (((σ.1 44 14) + q1) - (1 : Int32)) fun x2 => if q1 = (-1 : Int32) then some ((-1 : Int32), σ) else (fX11_isBar x2 σ).bind fun q4 => if q4.1 = (0 : Int32) then some ((-1 : Int32), q4.2) else if inb x2 100 = true then if (3 : Int32) ≤ (q4.2.1 46 x2.toNatClampNeg) then some ((-1 : Int32), q4.2) else some ((q4.2.1 46 x2.toNatClampNeg), q4.2) else none
theorem wfX11_blameNow {G : ag_G}  (σ : St) {z : Int32 × St} (hz : fX11_blameNow  σ = some z) {Q : Option Value → St → Prop} (hk : Q (some (.int z.1)) z.2) : AX G mX11_blameNow 6 135 0 [(0, .ref (G.2.2.1 44))] [] σ Q := by
  unfold fX11_blameNow at hz
  refine AX.aload_n dX11_blameNow_0 0 rfl rfl ?_
  refine AX.iconst dX11_blameNow_1 ic_0 ?_
  obtain ⟨q1, hq1, hz⟩ := obind hz
  refine AX.callVw (r := 44) (As := [.int 0]) (rest := []) (w := some (.int q1)) (st' := [.int q1]) dX11_blameNow_2 mlRX11_263 ylX11_wrongOf yvX11_wrongOf rfl rfl rfl (Nat.le_of_ble_eq_true rfl) ⟨Nat.le_of_ble_eq_true rfl, Nat.le_of_ble_eq_true rfl⟩ (xX11_wrongOf (0 : Int32) σ hq1) rfl ?_
  refine AX.istore_n (ls' := [(0, .ref (G.2.2.1 44)), (1, .int q1)]) dX11_blameNow_5 rfl (Nat.le_of_ble_eq_true rfl) rfl ?_
  refine AX.aload_n dX11_blameNow_6 0 rfl rfl ?_
  refine AX.getIE (v := σ.1 44 14) dX11_blameNow_7 flRX11_260 rfl rfl rfl ?_
  refine AX.iload_n dX11_blameNow_10 1 rfl rfl ?_
  refine AX.iadd dX11_blameNow_11 ?_
  refine AX.iconst dX11_blameNow_12 ic_1 ?_
  refine AX.isub dX11_blameNow_13 ?_
  obtain ⟨x2, hx2, hz⟩ := ltb_e hz
  refine AX.topI hx2 ?_
  refine AX.istore_n (ls' := [(0, .ref (G.2.2.1 44)), (1, .int q1), (2, .int x2)]) dX11_blameNow_14 rfl (Nat.le_of_ble_eq_true rfl) rfl ?_
  refine AX.iload_n dX11_blameNow_15 1 rfl rfl ?_
  refine AX.iconst dX11_blameNow_16 ic_m1 ?_
  refine AX.icmp_eq (tgt := 47) dX11_blameNow_17 rfl (fun c3 => ?_) (fun c3 => ?_)
  · replace hz := (if_pos c3).symm.trans hz
    refine AX.iconst dX11_blameNow_47 ic_m1 ?_
    exact AX.ireturn dX11_blameNow_48 rfl (vp_nar_int _) (kz (P := fun z => Q (some (.int z.1)) z.2) hz hk)
  · replace hz := (if_neg c3).symm.trans hz
    refine AX.aload_n dX11_blameNow_20 0 rfl rfl ?_
    refine AX.iload_n dX11_blameNow_21 2 rfl rfl ?_
    obtain ⟨q4, hq4, hz⟩ := obind hz
    refine AX.callVw (r := 44) (As := [.int x2]) (rest := []) (w := some (.int q4.1)) (st' := [.int q4.1]) dX11_blameNow_22 mlRX11_124 ylX11_isBar yvX11_isBar rfl rfl rfl (Nat.le_of_ble_eq_true rfl) ⟨Nat.le_of_ble_eq_true rfl, Nat.le_of_ble_eq_true rfl⟩ (xX11_isBar x2 σ hq4) rfl ?_
    refine AX.if_eq (tgt := 47) dX11_blameNow_25 rfl (fun c5 => ?_) (fun c5 => ?_)
    · replace hz := (if_pos c5).symm.trans hz
      refine AX.iconst dX11_blameNow_47 ic_m1 ?_
      exact AX.ireturn dX11_blameNow_48 rfl (vp_nar_int _) (kz (P := fun z => Q (some (.int z.1)) z.2) hz hk)
    · replace hz := (if_neg c5).symm.trans hz
      refine AX.aload_n dX11_blameNow_28 0 rfl rfl ?_
      refine AX.getR dX11_blameNow_29 flRX11_13 rfl rfl ?_
      refine AX.iload_n dX11_blameNow_32 2 rfl rfl ?_
      obtain ⟨b6, hz⟩ := ite_n hz
      refine AX.ialdE (v := q4.2.1 46 x2.toNatClampNeg) dX11_blameNow_33 rfl b6 rfl ?_
      refine AX.iconst dX11_blameNow_34 ic_3 ?_
      refine AX.icmp_ge (tgt := 47) dX11_blameNow_35 rfl (fun c7 => ?_) (fun c7 => ?_)
      · replace hz := (if_pos c7).symm.trans hz
        refine AX.iconst dX11_blameNow_47 ic_m1 ?_
        exact AX.ireturn dX11_blameNow_48 rfl (vp_nar_int _) (kz (P := fun z => Q (some (.int z.1)) z.2) hz hk)
      · replace hz := (if_neg c7).symm.trans hz
        refine AX.aload_n dX11_blameNow_38 0 rfl rfl ?_
        refine AX.getR dX11_blameNow_39 flRX11_13 rfl rfl ?_
        refine AX.iload_n dX11_blameNow_42 2 rfl rfl ?_
        refine AX.ialdE (v := q4.2.1 46 x2.toNatClampNeg) dX11_blameNow_43 rfl b6 rfl ?_
        refine AX.goto (tgt := 48) dX11_blameNow_44 rfl ?_
        exact AX.ireturn dX11_blameNow_48 rfl (vp_nar_int _) (kz (P := fun z => Q (some (.int z.1)) z.2) hz hk)
theorem xX11_blameNow {G : ag_G}  (σ : St) {z : Int32 × St} (hz : fX11_blameNow  σ = some z) : AC G yX11_blameNow mX11_blameNow 6 135 [.ref (G.2.2.1 44)] σ (fun v σ1 => v = some (.int z.1) ∧ σ1 = z.2) := AC.of (plainFor_of_name (by decide)) rfl (Nat.le_of_ble_eq_true rfl) (wfX11_blameNow  σ hz ⟨rfl, rfl⟩)
noncomputable def fX11_blame  (σ : St) : Option (Int32 × St) :=
  (fX11_blameNow  σ).bind fun q1 => some (q1.1, q1.2)
theorem wfX11_blame {G : ag_G}  (σ : St) {z : Int32 × St} (hz : fX11_blame  σ = some z) {Q : Option Value → St → Prop} (hk : Q (some (.int z.1)) z.2) : AX G mX11_blame 7 157 0 [(0, .ref (G.2.2.1 44))] [] σ Q := by
  unfold fX11_blame at hz
  refine AX.aload_n dX11_blame_0 0 rfl rfl ?_
  obtain ⟨q1, hq1, hz⟩ := obind hz
  refine AX.callVw (r := 44) (As := []) (rest := []) (w := some (.int q1.1)) (st' := [.int q1.1]) dX11_blame_1 mlRX11_266 ylX11_blameNow yvX11_blameNow rfl rfl rfl (Nat.le_of_ble_eq_true rfl) ⟨Nat.le_of_ble_eq_true rfl, Nat.le_of_ble_eq_true rfl⟩ (xX11_blameNow  σ hq1) rfl ?_
  exact AX.ireturn dX11_blame_4 rfl (vp_nar_int _) (kz (P := fun z => Q (some (.int z.1)) z.2) hz hk)
theorem xX11_blame {G : ag_G}  (σ : St) {z : Int32 × St} (hz : fX11_blame  σ = some z) : AC G yX11_blame mX11_blame 7 157 [.ref (G.2.2.1 44)] σ (fun v σ1 => v = some (.int z.1) ∧ σ1 = z.2) := AC.of (plainFor_of_name (by decide)) rfl (Nat.le_of_ble_eq_true rfl) (wfX11_blame  σ hz ⟨rfl, rfl⟩)
noncomputable def fX11_nightOf_j129 (l2 : Int32) (l3 : Int32) (l4 : Int32) (l5 : Int32) (l6 : Int32) (l7 : Int32) (σ : St) : Option ((Int32 × Int32 × Int32) ⊕ (Int32 × Int32)) :=
  some (.inl (l3, l5, l7 + 1))
theorem wfX11_nightOf_j129 {G : ag_G} (l2 : Int32) (l3 : Int32) (l4 : Int32) (l5 : Int32) (l6 : Int32) (l7 : Int32) (σ : St) {z : (Int32 × Int32 × Int32) ⊕ (Int32 × Int32)} (hz : fX11_nightOf_j129 l2 l3 l4 l5 l6 l7 σ = some z) {Q : Option Value → St → Prop} (K : ((Int32 × Int32 × Int32) ⊕ (Int32 × Int32)) → Prop) (hback : ∀ a : Int32 × Int32 × Int32, K (.inl a) → AX G mX11_nightOf 5 114 35 [(0, .ref (G.2.2.1 44)), (2, .int l2), (3, .int a.1), (4, .int l4), (5, .int a.2.1), (6, .int l6), (7, .int a.2.2)] [] σ Q) (hk : K z) : AX G mX11_nightOf 5 114 129 [(0, .ref (G.2.2.1 44)), (2, .int l2), (3, .int l3), (4, .int l4), (5, .int l5), (6, .int l6), (7, .int l7)] [] σ Q := by
  unfold fX11_nightOf_j129 at hz
  refine AX.iinc (v := l7 + 1) (ls' := [(0, .ref (G.2.2.1 44)), (2, .int l2), (3, .int l3), (4, .int l4), (5, .int l5), (6, .int l6), (7, .int (l7 + 1))]) 6 dX11_nightOf_129 rfl (Nat.le_of_ble_eq_true rfl) (congrArg (l7 + ·) ic_1) rfl ?_
  refine AX.goto (tgt := 35) dX11_nightOf_132 rfl ?_
  exact AX.sub (ls' := [(0, .ref (G.2.2.1 44)), (2, .int l2), (3, .int l3), (4, .int l4), (5, .int l5), (6, .int l6), (7, .int (l7 + 1))]) [0, 1, 2, 3, 4, 5, 6] rfl (hback (l3, l5, l7 + 1) (kz (P := K) hz hk))
noncomputable def fX11_nightOf_j126 (l2 : Int32) (l3 : Int32) (l4 : Int32) (l6 : Int32) (l7 : Int32) (t0 : Int32) (t1 : Int32) (σ : St) : Option ((Int32 × Int32 × Int32) ⊕ (Int32 × Int32)) :=
  ltb (t0 + t1) fun x1 => fX11_nightOf_j129 l2 l3 l4 x1 l6 l7 σ
theorem wfX11_nightOf_j126 {G : ag_G} (l2 : Int32) (l3 : Int32) (l4 : Int32) (l6 : Int32) (l7 : Int32) (t0 : Int32) (t1 : Int32) (σ : St) {z : (Int32 × Int32 × Int32) ⊕ (Int32 × Int32)} (hz : fX11_nightOf_j126 l2 l3 l4 l6 l7 t0 t1 σ = some z) {Q : Option Value → St → Prop} (K : ((Int32 × Int32 × Int32) ⊕ (Int32 × Int32)) → Prop) (hback : ∀ a : Int32 × Int32 × Int32, K (.inl a) → AX G mX11_nightOf 5 114 35 [(0, .ref (G.2.2.1 44)), (2, .int l2), (3, .int a.1), (4, .int l4), (5, .int a.2.1), (6, .int l6), (7, .int a.2.2)] [] σ Q) (hk : K z) : AX G mX11_nightOf 5 114 126 [(0, .ref (G.2.2.1 44)), (2, .int l2), (3, .int l3), (4, .int l4), (6, .int l6), (7, .int l7)] [.int t1, .int t0] σ Q := by
  unfold fX11_nightOf_j126 at hz
  refine AX.iadd dX11_nightOf_126 ?_
  obtain ⟨x1, hx1, hz⟩ := ltb_e hz
  refine AX.topI hx1 ?_
  refine AX.istore (ls' := [(0, .ref (G.2.2.1 44)), (2, .int l2), (3, .int l3), (4, .int l4), (5, .int x1), (6, .int l6), (7, .int l7)]) dX11_nightOf_127 (Nat.le_of_ble_eq_true rfl) rfl ?_
  exact AX.sub (ls' := [(0, .ref (G.2.2.1 44)), (2, .int l2), (3, .int l3), (4, .int l4), (5, .int x1), (6, .int l6), (7, .int l7)]) [0, 1, 2, 3, 4, 5, 6] rfl (wfX11_nightOf_j129 l2 l3 l4 x1 l6 l7 σ hz K hback hk)
noncomputable def fX11_nightOf_b35 (l2 : Int32) (l4 : Int32) (l6 : Int32) (l3 : Int32) (l5 : Int32) (l7 : Int32) (σ : St) : Option ((Int32 × Int32 × Int32) ⊕ (Int32 × Int32)) :=
  if (σ.1 44 2) ≤ l7 then some (.inr (l3, l5)) else if inb l7 100 = true then if (3 : Int32) ≤ (σ.1 46 l7.toNatClampNeg) then fX11_nightOf_j129 l2 l3 l4 l5 l6 l7 σ else ltb (((1103515245 : Int32) * l3) + (12345 : Int32)) fun x4 => ltb (((x4.toUInt32 >>> ((16 : Int32).toUInt32 &&& Int32.toUInt32 31)).toInt32) - ((x4.toUInt32 >>> ((16 : Int32).toUInt32 &&& Int32.toUInt32 31)).toInt32) / (16 : Int32) * (16 : Int32)) fun x5 => ltb (σ.1 46 l7.toNatClampNeg) fun x6 => if inb x6 3 = true then if (σ.1 50 x6.toNatClampNeg) ≤ x5 then if ((σ.1 50 x6.toNatClampNeg) + (σ.1 51 x6.toNatClampNeg)) ≤ x5 then fX11_nightOf_j126 l2 x4 l4 l6 l7 l5 0 σ else fX11_nightOf_j126 l2 x4 l4 l6 l7 l5 1 σ else fX11_nightOf_j126 l2 x4 l4 l6 l7 l5 (-1) σ else none else none
theorem wfX11_nightOf_b35 {G : ag_G} (l2 : Int32) (l4 : Int32) (l6 : Int32) (l3 : Int32) (l5 : Int32) (l7 : Int32) (σ : St) {z : (Int32 × Int32 × Int32) ⊕ (Int32 × Int32)} (hz : fX11_nightOf_b35 l2 l4 l6 l3 l5 l7 σ = some z) {Q : Option Value → St → Prop} (K : ((Int32 × Int32 × Int32) ⊕ (Int32 × Int32)) → Prop) (hback : ∀ a : Int32 × Int32 × Int32, K (.inl a) → AX G mX11_nightOf 5 114 35 [(0, .ref (G.2.2.1 44)), (2, .int l2), (3, .int a.1), (4, .int l4), (5, .int a.2.1), (6, .int l6), (7, .int a.2.2)] [] σ Q) (hexit0 : ∀ a : Int32 × Int32, K (.inr a) → AX G mX11_nightOf 5 114 135 [(0, .ref (G.2.2.1 44)), (2, .int l2), (3, .int a.1), (4, .int l4), (5, .int a.2), (6, .int l6)] [] σ Q) (hk : K z) : AX G mX11_nightOf 5 114 35 [(0, .ref (G.2.2.1 44)), (2, .int l2), (3, .int l3), (4, .int l4), (5, .int l5), (6, .int l6), (7, .int l7)] [] σ Q := by
  unfold fX11_nightOf_b35 at hz
  refine AX.iload dX11_nightOf_35 6 rfl ?_
  refine AX.aload_n dX11_nightOf_37 0 rfl rfl ?_
  refine AX.getIE (v := σ.1 44 2) dX11_nightOf_38 flRX11_97 rfl rfl rfl ?_
  refine AX.icmp_ge (tgt := 135) dX11_nightOf_41 rfl (fun c1 => ?_) (fun c1 => ?_)
  · replace hz := (if_pos c1).symm.trans hz
    exact AX.sub (ls' := [(0, .ref (G.2.2.1 44)), (2, .int l2), (3, .int l3), (4, .int l4), (5, .int l5), (6, .int l6)]) [0, 1, 2, 3, 4, 5] rfl (hexit0 (l3, l5) (kz (P := K) hz hk))
  · replace hz := (if_neg c1).symm.trans hz
    refine AX.aload_n dX11_nightOf_44 0 rfl rfl ?_
    refine AX.getR dX11_nightOf_45 flRX11_13 rfl rfl ?_
    refine AX.iload dX11_nightOf_48 6 rfl ?_
    obtain ⟨b2, hz⟩ := ite_n hz
    refine AX.ialdE (v := σ.1 46 l7.toNatClampNeg) dX11_nightOf_50 rfl b2 rfl ?_
    refine AX.iconst dX11_nightOf_51 ic_3 ?_
    refine AX.icmp_ge (tgt := 129) dX11_nightOf_52 rfl (fun c3 => ?_) (fun c3 => ?_)
    · replace hz := (if_pos c3).symm.trans hz
      exact AX.sub (ls' := [(0, .ref (G.2.2.1 44)), (2, .int l2), (3, .int l3), (4, .int l4), (5, .int l5), (6, .int l6), (7, .int l7)]) [0, 1, 2, 3, 4, 5, 6] rfl (wfX11_nightOf_j129 l2 l3 l4 l5 l6 l7 σ hz K hback hk)
    · replace hz := (if_neg c3).symm.trans hz
      refine AX.ldcw dX11_nightOf_55 kcRX11_269 ?_
      refine AX.iload_n dX11_nightOf_58 2 rfl rfl ?_
      refine AX.imul dX11_nightOf_59 ?_
      refine AX.sipush dX11_nightOf_60 sp_12345 ?_
      refine AX.iadd dX11_nightOf_63 ?_
      obtain ⟨x4, hx4, hz⟩ := ltb_e hz
      refine AX.topI hx4 ?_
      refine AX.istore_n (ls' := [(0, .ref (G.2.2.1 44)), (2, .int l2), (3, .int x4), (4, .int l4), (5, .int l5), (6, .int l6), (7, .int l7)]) dX11_nightOf_64 rfl (Nat.le_of_ble_eq_true rfl) rfl ?_
      refine AX.iload_n dX11_nightOf_65 2 rfl rfl ?_
      refine AX.bipush dX11_nightOf_66 bp_16 ?_
      refine AX.iushr dX11_nightOf_68 ?_
      refine AX.bipush dX11_nightOf_69 bp_16 ?_
      refine AX.irem dX11_nightOf_71 (by decide) ?_
      obtain ⟨x5, hx5, hz⟩ := ltb_e hz
      refine AX.topI hx5 ?_
      refine AX.istore (ls' := [(0, .ref (G.2.2.1 44)), (2, .int l2), (3, .int x4), (4, .int l4), (5, .int l5), (6, .int l6), (7, .int l7), (8, .int x5)]) dX11_nightOf_72 (Nat.le_of_ble_eq_true rfl) rfl ?_
      refine AX.aload_n dX11_nightOf_74 0 rfl rfl ?_
      refine AX.getR dX11_nightOf_75 flRX11_13 rfl rfl ?_
      refine AX.iload dX11_nightOf_78 6 rfl ?_
      refine AX.ialdE (v := σ.1 46 l7.toNatClampNeg) dX11_nightOf_80 rfl b2 rfl ?_
      obtain ⟨x6, hx6, hz⟩ := ltb_e hz
      refine AX.topI hx6 ?_
      refine AX.istore (ls' := [(0, .ref (G.2.2.1 44)), (2, .int l2), (3, .int x4), (4, .int l4), (5, .int l5), (6, .int l6), (7, .int l7), (8, .int x5), (9, .int x6)]) dX11_nightOf_81 (Nat.le_of_ble_eq_true rfl) rfl ?_
      refine AX.iload dX11_nightOf_83 4 rfl ?_
      refine AX.iload dX11_nightOf_85 7 rfl ?_
      refine AX.aload_n dX11_nightOf_87 0 rfl rfl ?_
      refine AX.getR dX11_nightOf_88 flRX11_25 rfl rfl ?_
      refine AX.iload dX11_nightOf_91 8 rfl ?_
      obtain ⟨b7, hz⟩ := ite_n hz
      refine AX.ialdE (v := σ.1 50 x6.toNatClampNeg) dX11_nightOf_93 rfl b7 rfl ?_
      refine AX.icmp_ge (tgt := 101) dX11_nightOf_94 rfl (fun c8 => ?_) (fun c8 => ?_)
      · replace hz := (if_pos c8).symm.trans hz
        refine AX.iload dX11_nightOf_101 7 rfl ?_
        refine AX.aload_n dX11_nightOf_103 0 rfl rfl ?_
        refine AX.getR dX11_nightOf_104 flRX11_25 rfl rfl ?_
        refine AX.iload dX11_nightOf_107 8 rfl ?_
        refine AX.ialdE (v := σ.1 50 x6.toNatClampNeg) dX11_nightOf_109 rfl b7 rfl ?_
        refine AX.aload_n dX11_nightOf_110 0 rfl rfl ?_
        refine AX.getR dX11_nightOf_111 flRX11_28 rfl rfl ?_
        refine AX.iload dX11_nightOf_114 8 rfl ?_
        refine AX.ialdE (v := σ.1 51 x6.toNatClampNeg) dX11_nightOf_116 rfl b7 rfl ?_
        refine AX.iadd dX11_nightOf_117 ?_
        refine AX.icmp_ge (tgt := 125) dX11_nightOf_118 rfl (fun c9 => ?_) (fun c9 => ?_)
        · replace hz := (if_pos c9).symm.trans hz
          refine AX.iconst dX11_nightOf_125 ic_0 ?_
          exact AX.sub (ls' := [(0, .ref (G.2.2.1 44)), (2, .int l2), (3, .int x4), (4, .int l4), (6, .int l6), (7, .int l7)]) [0, 1, 2, 3, 5, 6] rfl (wfX11_nightOf_j126 l2 x4 l4 l6 l7 l5 0 σ hz K hback hk)
        · replace hz := (if_neg c9).symm.trans hz
          refine AX.iconst dX11_nightOf_121 ic_1 ?_
          refine AX.goto (tgt := 126) dX11_nightOf_122 rfl ?_
          exact AX.sub (ls' := [(0, .ref (G.2.2.1 44)), (2, .int l2), (3, .int x4), (4, .int l4), (6, .int l6), (7, .int l7)]) [0, 1, 2, 3, 5, 6] rfl (wfX11_nightOf_j126 l2 x4 l4 l6 l7 l5 1 σ hz K hback hk)
      · replace hz := (if_neg c8).symm.trans hz
        refine AX.iconst dX11_nightOf_97 ic_m1 ?_
        refine AX.goto (tgt := 126) dX11_nightOf_98 rfl ?_
        exact AX.sub (ls' := [(0, .ref (G.2.2.1 44)), (2, .int l2), (3, .int x4), (4, .int l4), (6, .int l6), (7, .int l7)]) [0, 1, 2, 3, 5, 6] rfl (wfX11_nightOf_j126 l2 x4 l4 l6 l7 l5 (-1) σ hz K hback hk)
noncomputable def fX11_nightOf_j147 (l2 : Int32) (l3 : Int32) (l5 : Int32) (l6 : Int32) (t0 : Int32) (t1 : Int32) (σ : St) : Option ((Int32 × Int32 × Int32 × Int32) ⊕ (Int32 × Int32)) :=
  ltb (t0 + t1) fun x1 => some (.inl (l3, x1, l5, l6 + 1))
theorem wfX11_nightOf_j147 {G : ag_G} (l2 : Int32) (l3 : Int32) (l5 : Int32) (l6 : Int32) (t0 : Int32) (t1 : Int32) (σ : St) {z : (Int32 × Int32 × Int32 × Int32) ⊕ (Int32 × Int32)} (hz : fX11_nightOf_j147 l2 l3 l5 l6 t0 t1 σ = some z) {Q : Option Value → St → Prop} (K : ((Int32 × Int32 × Int32 × Int32) ⊕ (Int32 × Int32)) → Prop) (hback : ∀ a : Int32 × Int32 × Int32 × Int32, K (.inl a) → AX G mX11_nightOf 5 114 15 [(0, .ref (G.2.2.1 44)), (2, .int l2), (3, .int a.1), (4, .int a.2.1), (5, .int a.2.2.1), (6, .int a.2.2.2)] [] σ Q) (hk : K z) : AX G mX11_nightOf 5 114 147 [(0, .ref (G.2.2.1 44)), (2, .int l2), (3, .int l3), (5, .int l5), (6, .int l6)] [.int t1, .int t0] σ Q := by
  unfold fX11_nightOf_j147 at hz
  refine AX.iadd dX11_nightOf_147 ?_
  obtain ⟨x1, hx1, hz⟩ := ltb_e hz
  refine AX.topI hx1 ?_
  refine AX.istore (ls' := [(0, .ref (G.2.2.1 44)), (2, .int l2), (3, .int l3), (4, .int x1), (5, .int l5), (6, .int l6)]) dX11_nightOf_148 (Nat.le_of_ble_eq_true rfl) rfl ?_
  refine AX.iinc (v := l6 + 1) (ls' := [(0, .ref (G.2.2.1 44)), (2, .int l2), (3, .int l3), (4, .int x1), (5, .int l5), (6, .int (l6 + 1))]) 5 dX11_nightOf_150 rfl (Nat.le_of_ble_eq_true rfl) (congrArg (l6 + ·) ic_1) rfl ?_
  refine AX.goto (tgt := 15) dX11_nightOf_153 rfl ?_
  exact AX.sub (ls' := [(0, .ref (G.2.2.1 44)), (2, .int l2), (3, .int l3), (4, .int x1), (5, .int l5), (6, .int (l6 + 1))]) [0, 1, 2, 3, 4, 5] rfl (hback (l3, x1, l5, l6 + 1) (kz (P := K) hz hk))
noncomputable def fX11_nightOf_j26 (l2 : Int32) (l3 : Int32) (l4 : Int32) (l5 : Int32) (l6 : Int32) (t0 : Int32) (t1 : Int32) (σ : St) : Option ((Int32 × Int32 × Int32 × Int32) ⊕ (Int32 × Int32)) :=
  if t1 ≤ t0 then some (.inr (l4, l5)) else (lpc (fun s => fX11_nightOf_b35 l2 l4 l6 s.1 s.2.1 s.2.2 σ) (l3, 0, 0)).bind fun r2 => if r2.2 = (0 : Int32) then fX11_nightOf_j147 l2 r2.1 r2.2 l6 l4 1 σ else fX11_nightOf_j147 l2 r2.1 r2.2 l6 l4 0 σ
theorem wfX11_nightOf_j26 {G : ag_G} (l2 : Int32) (l3 : Int32) (l4 : Int32) (l5 : Int32) (l6 : Int32) (t0 : Int32) (t1 : Int32) (σ : St) {z : (Int32 × Int32 × Int32 × Int32) ⊕ (Int32 × Int32)} (hz : fX11_nightOf_j26 l2 l3 l4 l5 l6 t0 t1 σ = some z) {Q : Option Value → St → Prop} (K : ((Int32 × Int32 × Int32 × Int32) ⊕ (Int32 × Int32)) → Prop) (hback : ∀ a : Int32 × Int32 × Int32 × Int32, K (.inl a) → AX G mX11_nightOf 5 114 15 [(0, .ref (G.2.2.1 44)), (2, .int l2), (3, .int a.1), (4, .int a.2.1), (5, .int a.2.2.1), (6, .int a.2.2.2)] [] σ Q) (hexit0 : ∀ a : Int32 × Int32, K (.inr a) → AX G mX11_nightOf 5 114 156 [(2, .int l2), (4, .int a.1), (5, .int a.2)] [] σ Q) (hk : K z) : AX G mX11_nightOf 5 114 26 [(0, .ref (G.2.2.1 44)), (2, .int l2), (3, .int l3), (4, .int l4), (5, .int l5), (6, .int l6)] [.int t1, .int t0] σ Q := by
  unfold fX11_nightOf_j26 at hz
  refine AX.icmp_ge (tgt := 156) dX11_nightOf_26 rfl (fun c1 => ?_) (fun c1 => ?_)
  · replace hz := (if_pos c1).symm.trans hz
    exact AX.sub (ls' := [(2, .int l2), (4, .int l4), (5, .int l5)]) [1, 3, 4] rfl (hexit0 (l4, l5) (kz (P := K) hz hk))
  · replace hz := (if_neg c1).symm.trans hz
    refine AX.iconst dX11_nightOf_29 ic_0 ?_
    refine AX.istore (ls' := [(0, .ref (G.2.2.1 44)), (2, .int l2), (3, .int l3), (4, .int l4), (5, .int 0), (6, .int l6)]) dX11_nightOf_30 (Nat.le_of_ble_eq_true rfl) rfl ?_
    refine AX.iconst dX11_nightOf_32 ic_0 ?_
    refine AX.istore (ls' := [(0, .ref (G.2.2.1 44)), (2, .int l2), (3, .int l3), (4, .int l4), (5, .int 0), (6, .int l6), (7, .int 0)]) dX11_nightOf_33 (Nat.le_of_ble_eq_true rfl) rfl ?_
    obtain ⟨r2, hr2, hz⟩ := obind hz
    refine AX.sub (ls' := [(0, .ref (G.2.2.1 44)), (2, .int l2), (3, .int l3), (4, .int l4), (5, .int 0), (6, .int l6), (7, .int 0)]) [0, 1, 2, 3, 4, 5, 6] rfl ?_
    refine lpc_ind (s := (l3, 0, 0)) (r := r2) (fun s => AX G mX11_nightOf 5 114 35 [(0, .ref (G.2.2.1 44)), (2, .int l2), (3, .int s.1), (4, .int l4), (5, .int s.2.1), (6, .int l6), (7, .int s.2.2)] [] σ Q) (fun a : Int32 × Int32 => AX G mX11_nightOf 5 114 135 [(0, .ref (G.2.2.1 44)), (2, .int l2), (3, .int a.1), (4, .int l4), (5, .int a.2), (6, .int l6)] [] σ Q) hr2 (fun s z hb hK => wfX11_nightOf_b35 l2 l4 l6 s.1 s.2.1 s.2.2 σ hb (Sum.elim (fun s => AX G mX11_nightOf 5 114 35 [(0, .ref (G.2.2.1 44)), (2, .int l2), (3, .int s.1), (4, .int l4), (5, .int s.2.1), (6, .int l6), (7, .int s.2.2)] [] σ Q) (fun a : Int32 × Int32 => AX G mX11_nightOf 5 114 135 [(0, .ref (G.2.2.1 44)), (2, .int l2), (3, .int a.1), (4, .int l4), (5, .int a.2), (6, .int l6)] [] σ Q)) (fun _ h9 => h9) (fun _ h9 => h9) hK) ?_
    refine AX.iload dX11_nightOf_135 3 rfl ?_
    refine AX.iload dX11_nightOf_137 4 rfl ?_
    refine AX.if_ne (tgt := 146) dX11_nightOf_139 rfl (fun c3 => ?_) (fun c3 => ?_)
    · replace hz := (if_neg c3).symm.trans hz
      refine AX.iconst dX11_nightOf_146 ic_0 ?_
      exact AX.sub (ls' := [(0, .ref (G.2.2.1 44)), (2, .int l2), (3, .int r2.1), (5, .int r2.2), (6, .int l6)]) [0, 1, 2, 4, 5] rfl (wfX11_nightOf_j147 l2 r2.1 r2.2 l6 l4 0 σ hz K hback hk)
    · replace hz := (if_pos c3).symm.trans hz
      refine AX.iconst dX11_nightOf_142 ic_1 ?_
      refine AX.goto (tgt := 147) dX11_nightOf_143 rfl ?_
      exact AX.sub (ls' := [(0, .ref (G.2.2.1 44)), (2, .int l2), (3, .int r2.1), (5, .int r2.2), (6, .int l6)]) [0, 1, 2, 4, 5] rfl (wfX11_nightOf_j147 l2 r2.1 r2.2 l6 l4 1 σ hz K hback hk)
noncomputable def fX11_nightOf_b15 (l2 : Int32) (l3 : Int32) (l4 : Int32) (l5 : Int32) (l6 : Int32) (σ : St) : Option ((Int32 × Int32 × Int32 × Int32) ⊕ (Int32 × Int32)) :=
  if l2 = (0 : Int32) then fX11_nightOf_j26 l2 l3 l4 l5 l6 l6 1 σ else fX11_nightOf_j26 l2 l3 l4 l5 l6 l6 l2 σ
theorem wfX11_nightOf_b15 {G : ag_G} (l2 : Int32) (l3 : Int32) (l4 : Int32) (l5 : Int32) (l6 : Int32) (σ : St) {z : (Int32 × Int32 × Int32 × Int32) ⊕ (Int32 × Int32)} (hz : fX11_nightOf_b15 l2 l3 l4 l5 l6 σ = some z) {Q : Option Value → St → Prop} (K : ((Int32 × Int32 × Int32 × Int32) ⊕ (Int32 × Int32)) → Prop) (hback : ∀ a : Int32 × Int32 × Int32 × Int32, K (.inl a) → AX G mX11_nightOf 5 114 15 [(0, .ref (G.2.2.1 44)), (2, .int l2), (3, .int a.1), (4, .int a.2.1), (5, .int a.2.2.1), (6, .int a.2.2.2)] [] σ Q) (hexit0 : ∀ a : Int32 × Int32, K (.inr a) → AX G mX11_nightOf 5 114 156 [(2, .int l2), (4, .int a.1), (5, .int a.2)] [] σ Q) (hk : K z) : AX G mX11_nightOf 5 114 15 [(0, .ref (G.2.2.1 44)), (2, .int l2), (3, .int l3), (4, .int l4), (5, .int l5), (6, .int l6)] [] σ Q := by
  unfold fX11_nightOf_b15 at hz
  refine AX.iload dX11_nightOf_15 5 rfl ?_
  refine AX.iload_n dX11_nightOf_17 1 rfl rfl ?_
  refine AX.if_ne (tgt := 25) dX11_nightOf_18 rfl (fun c1 => ?_) (fun c1 => ?_)
  · replace hz := (if_neg c1).symm.trans hz
    refine AX.iload_n dX11_nightOf_25 1 rfl rfl ?_
    exact AX.sub (ls' := [(0, .ref (G.2.2.1 44)), (2, .int l2), (3, .int l3), (4, .int l4), (5, .int l5), (6, .int l6)]) [0, 1, 2, 3, 4, 5] rfl (wfX11_nightOf_j26 l2 l3 l4 l5 l6 l6 l2 σ hz K hback hexit0 hk)
  · replace hz := (if_pos c1).symm.trans hz
    refine AX.iconst dX11_nightOf_21 ic_1 ?_
    refine AX.goto (tgt := 26) dX11_nightOf_22 rfl ?_
    exact AX.sub (ls' := [(0, .ref (G.2.2.1 44)), (2, .int l2), (3, .int l3), (4, .int l4), (5, .int l5), (6, .int l6)]) [0, 1, 2, 3, 4, 5] rfl (wfX11_nightOf_j26 l2 l3 l4 l5 l6 l6 1 σ hz K hback hexit0 hk)
noncomputable def fX11_nightOf (p0 : Int32) (p1 : Int32) (σ : St) : Option (Int32 × St) :=
  (fX11_reads  σ).bind fun q1 => (lpc (fun s => fX11_nightOf_b15 p1 s.1 s.2.1 s.2.2.1 s.2.2.2 q1) (p0, 0, 0, 0)).bind fun r2 => if p1 = (0 : Int32) then some (r2.2, q1) else some (r2.1, q1)
theorem wfX11_nightOf {G : ag_G} (p0 : Int32) (p1 : Int32) (σ : St) {z : Int32 × St} (hz : fX11_nightOf p0 p1 σ = some z) {Q : Option Value → St → Prop} (hk : Q (some (.int z.1)) z.2) : AX G mX11_nightOf 5 114 0 [(0, .ref (G.2.2.1 44)), (1, .int p0), (2, .int p1)] [] σ Q := by
  unfold fX11_nightOf at hz
  refine AX.aload_n dX11_nightOf_0 0 rfl rfl ?_
  obtain ⟨q1, hq1, hz⟩ := obind hz
  refine AX.callVw (r := 44) (As := []) (rest := []) (w := none) (st' := []) dX11_nightOf_1 mlRX11_121 ylX11_reads yvX11_reads rfl rfl rfl (Nat.le_of_ble_eq_true rfl) ⟨Nat.le_of_ble_eq_true rfl, Nat.le_of_ble_eq_true rfl⟩ (xX11_reads  σ hq1) rfl ?_
  refine AX.iload_n dX11_nightOf_4 1 rfl rfl ?_
  refine AX.istore_n (ls' := [(0, .ref (G.2.2.1 44)), (1, .int p0), (2, .int p1), (3, .int p0)]) dX11_nightOf_5 rfl (Nat.le_of_ble_eq_true rfl) rfl ?_
  refine AX.iconst dX11_nightOf_6 ic_0 ?_
  refine AX.istore (ls' := [(0, .ref (G.2.2.1 44)), (1, .int p0), (2, .int p1), (3, .int p0), (4, .int 0)]) dX11_nightOf_7 (Nat.le_of_ble_eq_true rfl) rfl ?_
  refine AX.iconst dX11_nightOf_9 ic_0 ?_
  refine AX.istore (ls' := [(0, .ref (G.2.2.1 44)), (1, .int p0), (2, .int p1), (3, .int p0), (4, .int 0), (5, .int 0)]) dX11_nightOf_10 (Nat.le_of_ble_eq_true rfl) rfl ?_
  refine AX.iconst dX11_nightOf_12 ic_0 ?_
  refine AX.istore (ls' := [(0, .ref (G.2.2.1 44)), (1, .int p0), (2, .int p1), (3, .int p0), (4, .int 0), (5, .int 0), (6, .int 0)]) dX11_nightOf_13 (Nat.le_of_ble_eq_true rfl) rfl ?_
  obtain ⟨r2, hr2, hz⟩ := obind hz
  refine AX.sub (ls' := [(0, .ref (G.2.2.1 44)), (2, .int p1), (3, .int p0), (4, .int 0), (5, .int 0), (6, .int 0)]) [0, 2, 3, 4, 5, 6] rfl ?_
  refine lpc_ind (s := (p0, 0, 0, 0)) (r := r2) (fun s => AX G mX11_nightOf 5 114 15 [(0, .ref (G.2.2.1 44)), (2, .int p1), (3, .int s.1), (4, .int s.2.1), (5, .int s.2.2.1), (6, .int s.2.2.2)] [] q1 Q) (fun a : Int32 × Int32 => AX G mX11_nightOf 5 114 156 [(2, .int p1), (4, .int a.1), (5, .int a.2)] [] q1 Q) hr2 (fun s z hb hK => wfX11_nightOf_b15 p1 s.1 s.2.1 s.2.2.1 s.2.2.2 q1 hb (Sum.elim (fun s => AX G mX11_nightOf 5 114 15 [(0, .ref (G.2.2.1 44)), (2, .int p1), (3, .int s.1), (4, .int s.2.1), (5, .int s.2.2.1), (6, .int s.2.2.2)] [] q1 Q) (fun a : Int32 × Int32 => AX G mX11_nightOf 5 114 156 [(2, .int p1), (4, .int a.1), (5, .int a.2)] [] q1 Q)) (fun _ h9 => h9) (fun _ h9 => h9) hK) ?_
  refine AX.iload_n dX11_nightOf_156 0 rfl rfl ?_
  refine AX.if_ne (tgt := 165) dX11_nightOf_157 rfl (fun c3 => ?_) (fun c3 => ?_)
  · replace hz := (if_neg c3).symm.trans hz
    refine AX.iload dX11_nightOf_165 1 rfl ?_
    exact AX.ireturn dX11_nightOf_167 rfl (vp_nar_int _) (kz (P := fun z => Q (some (.int z.1)) z.2) hz hk)
  · replace hz := (if_pos c3).symm.trans hz
    refine AX.iload dX11_nightOf_160 2 rfl ?_
    refine AX.goto (tgt := 167) dX11_nightOf_162 rfl ?_
    exact AX.ireturn dX11_nightOf_167 rfl (vp_nar_int _) (kz (P := fun z => Q (some (.int z.1)) z.2) hz hk)
theorem xX11_nightOf {G : ag_G} (p0 : Int32) (p1 : Int32) (σ : St) {z : Int32 × St} (hz : fX11_nightOf p0 p1 σ = some z) : AC G yX11_nightOf mX11_nightOf 5 114 [.ref (G.2.2.1 44), .int p0, .int p1] σ (fun v σ1 => v = some (.int z.1) ∧ σ1 = z.2) := AC.of (plainFor_of_name (by decide)) rfl (Nat.le_of_ble_eq_true rfl) (wfX11_nightOf p0 p1 σ hz ⟨rfl, rfl⟩)
noncomputable def fX11_night (p0 : Int32) (p1 : Int32) (σ : St) : Option (Int32 × St) :=
  (fX11_in p1 (0 : Int32) (99 : Int32)).bind fun q1 => if q1 = (0 : Int32) then some ((-102 : Int32), σ) else (fX11_nightOf p0 p1 σ).bind fun q3 => some (q3.1, q3.2)
theorem wfX11_night {G : ag_G} (p0 : Int32) (p1 : Int32) (σ : St) {z : Int32 × St} (hz : fX11_night p0 p1 σ = some z) {Q : Option Value → St → Prop} (hk : Q (some (.int z.1)) z.2) : AX G mX11_night 6 143 0 [(0, .ref (G.2.2.1 44)), (1, .int p0), (2, .int p1)] [] σ Q := by
  unfold fX11_night at hz
  refine AX.iload_n dX11_night_0 2 rfl rfl ?_
  refine AX.iconst dX11_night_1 ic_0 ?_
  refine AX.bipush dX11_night_2 bp_99 ?_
  obtain ⟨q1, hq1, hz⟩ := obind hz
  refine AX.callSw (As := [.int p1, .int 0, .int 99]) (rest := []) (w := some (.int q1)) (st' := [.int q1]) dX11_night_4 mlRX11_89 ylX11_in ysX11_in rfl rfl (Nat.le_of_ble_eq_true rfl) ⟨Nat.le_of_ble_eq_true rfl, Nat.le_of_ble_eq_true rfl⟩ (xX11_in p1 (0 : Int32) (99 : Int32) σ hq1) rfl ?_
  refine AX.if_eq (tgt := 19) dX11_night_7 rfl (fun c2 => ?_) (fun c2 => ?_)
  · replace hz := (if_pos c2).symm.trans hz
    refine AX.bipush dX11_night_19 bp_m102 ?_
    exact AX.ireturn dX11_night_21 rfl (vp_nar_int _) (kz (P := fun z => Q (some (.int z.1)) z.2) hz hk)
  · replace hz := (if_neg c2).symm.trans hz
    refine AX.aload_n dX11_night_10 0 rfl rfl ?_
    refine AX.iload_n dX11_night_11 1 rfl rfl ?_
    refine AX.iload_n dX11_night_12 2 rfl rfl ?_
    obtain ⟨q3, hq3, hz⟩ := obind hz
    refine AX.callVw (r := 44) (As := [.int p0, .int p1]) (rest := []) (w := some (.int q3.1)) (st' := [.int q3.1]) dX11_night_13 mlRX11_270 ylX11_nightOf yvX11_nightOf rfl rfl rfl (Nat.le_of_ble_eq_true rfl) ⟨Nat.le_of_ble_eq_true rfl, Nat.le_of_ble_eq_true rfl⟩ (xX11_nightOf p0 p1 σ hq3) rfl ?_
    refine AX.goto (tgt := 21) dX11_night_16 rfl ?_
    exact AX.ireturn dX11_night_21 rfl (vp_nar_int _) (kz (P := fun z => Q (some (.int z.1)) z.2) hz hk)
theorem xX11_night {G : ag_G} (p0 : Int32) (p1 : Int32) (σ : St) {z : Int32 × St} (hz : fX11_night p0 p1 σ = some z) : AC G yX11_night mX11_night 6 143 [.ref (G.2.2.1 44), .int p0, .int p1] σ (fun v σ1 => v = some (.int z.1) ∧ σ1 = z.2) := AC.of (plainFor_of_name (by decide)) rfl (Nat.le_of_ble_eq_true rfl) (wfX11_night p0 p1 σ hz ⟨rfl, rfl⟩)
noncomputable def fX11_sheet_j22  (σ : St) : Option (Int32 × St) :=
  some ((-2 : Int32), σ)
theorem wfX11_sheet_j22 {G : ag_G}  (σ : St) {z : Int32 × St} (hz : fX11_sheet_j22  σ = some z) {Q : Option Value → St → Prop} (hk : Q (some (.int z.1)) z.2) : AX G mX11_sheet 2 42 22 [] [] σ Q := by
  unfold fX11_sheet_j22 at hz
  refine AX.bipush dX11_sheet_22 bp_m2 ?_
  exact AX.ireturn dX11_sheet_24 rfl (vp_nar_int _) (kz (P := fun z => Q (some (.int z.1)) z.2) hz hk)
noncomputable def fX11_sheet_b59 (l1 : Int32) (l3 : Int32) (l4 : Int32) (σ : St) : Option ((Int32 × St) ⊕ St) :=
  if (48 : Int32) ≤ l4 then some (.inr σ) else if inb (((48 : Int32) * l1) + l4) 192 = true then some (.inl (l4 + 1, (sI σ 68 ((((48 : Int32) * l1) + l4).toNatClampNeg) 0))) else none
theorem wfX11_sheet_b59 {G : ag_G} (l1 : Int32) (l3 : Int32) (l4 : Int32) (σ : St) {z : (Int32 × St) ⊕ St} (hz : fX11_sheet_b59 l1 l3 l4 σ = some z) {Q : Option Value → St → Prop} (K : ((Int32 × St) ⊕ St) → Prop) (hback : ∀ a : Int32 × St, K (.inl a) → AX G mX11_sheet 2 42 59 [(0, .ref (G.2.2.1 44)), (1, .int l1), (3, .int l3), (4, .int a.1)] [] a.2 Q) (hexit0 : ∀ a : St, K (.inr a) → AX G mX11_sheet 2 42 85 [(3, .int l3)] [] a Q) (hk : K z) : AX G mX11_sheet 2 42 59 [(0, .ref (G.2.2.1 44)), (1, .int l1), (3, .int l3), (4, .int l4)] [] σ Q := by
  unfold fX11_sheet_b59 at hz
  refine AX.iload dX11_sheet_59 3 rfl ?_
  refine AX.bipush dX11_sheet_61 bp_48 ?_
  refine AX.icmp_ge (tgt := 85) dX11_sheet_63 rfl (fun c1 => ?_) (fun c1 => ?_)
  · replace hz := (if_pos c1).symm.trans hz
    exact AX.sub (ls' := [(3, .int l3)]) [2] rfl (hexit0 σ (kz (P := K) hz hk))
  · replace hz := (if_neg c1).symm.trans hz
    refine AX.aload_n dX11_sheet_66 0 rfl rfl ?_
    refine AX.getR dX11_sheet_67 flRX11_81 rfl rfl ?_
    refine AX.bipush dX11_sheet_70 bp_48 ?_
    refine AX.iload_n dX11_sheet_72 1 rfl rfl ?_
    refine AX.imul dX11_sheet_73 ?_
    refine AX.iload dX11_sheet_74 3 rfl ?_
    refine AX.iadd dX11_sheet_76 ?_
    refine AX.iconst dX11_sheet_77 ic_0 ?_
    obtain ⟨b2, hz⟩ := ite_n hz
    refine AX.iast dX11_sheet_78 rfl b2 ?_
    refine AX.iinc (v := l4 + 1) (ls' := [(0, .ref (G.2.2.1 44)), (1, .int l1), (3, .int l3), (4, .int (l4 + 1))]) 3 dX11_sheet_79 rfl (Nat.le_of_ble_eq_true rfl) (congrArg (l4 + ·) ic_1) rfl ?_
    refine AX.goto (tgt := 59) dX11_sheet_82 rfl ?_
    exact AX.sub (ls' := [(0, .ref (G.2.2.1 44)), (1, .int l1), (3, .int l3), (4, .int (l4 + 1))]) [0, 1, 2, 3] rfl (hback (l4 + 1, (sI σ 68 ((((48 : Int32) * l1) + l4).toNatClampNeg) 0)) (kz (P := K) hz hk))
noncomputable def fX11_sheet (p0 : Int32) (p1 : Int32) (p2 : Int32) (σ : St) : Option (Int32 × St) :=
  (fX11_isSheet p0).bind fun q1 => if q1 = (0 : Int32) then fX11_sheet_j22  σ else (fX11_in p1 (0 : Int32) (2 : Int32)).bind fun q3 => if q3 = (0 : Int32) then fX11_sheet_j22  σ else if p2 ≤ (48 : Int32) then if (0 : Int32) ≤ p2 then if inb p0 4 = true then (lpc (fun s => fX11_sheet_b59 p0 p2 s.1 s.2) (0, (sI (sI (sI σ 65 p0.toNatClampNeg 1) 66 p0.toNatClampNeg p1) 67 p0.toNatClampNeg p2))).bind fun r8 => some (p2, r8) else none else (fX11_meets (5 : Int32) σ).bind fun q9 => some (q9.1, q9.2) else fX11_sheet_j22  σ
theorem wfX11_sheet {G : ag_G} (p0 : Int32) (p1 : Int32) (p2 : Int32) (σ : St) {z : Int32 × St} (hz : fX11_sheet p0 p1 p2 σ = some z) {Q : Option Value → St → Prop} (hk : Q (some (.int z.1)) z.2) : AX G mX11_sheet 2 42 0 [(0, .ref (G.2.2.1 44)), (1, .int p0), (2, .int p1), (3, .int p2)] [] σ Q := by
  unfold fX11_sheet at hz
  refine AX.iload_n dX11_sheet_0 1 rfl rfl ?_
  obtain ⟨q1, hq1, hz⟩ := obind hz
  refine AX.callSw (As := [.int p0]) (rest := []) (w := some (.int q1)) (st' := [.int q1]) dX11_sheet_1 mlRX11_132 ylX11_isSheet ysX11_isSheet rfl rfl (Nat.le_of_ble_eq_true rfl) ⟨Nat.le_of_ble_eq_true rfl, Nat.le_of_ble_eq_true rfl⟩ (xX11_isSheet p0 σ hq1) rfl ?_
  refine AX.if_eq (tgt := 22) dX11_sheet_4 rfl (fun c2 => ?_) (fun c2 => ?_)
  · replace hz := (if_pos c2).symm.trans hz
    exact AX.sub (ls' := []) [] rfl (wfX11_sheet_j22  σ hz hk)
  · replace hz := (if_neg c2).symm.trans hz
    refine AX.iload_n dX11_sheet_7 2 rfl rfl ?_
    refine AX.iconst dX11_sheet_8 ic_0 ?_
    refine AX.iconst dX11_sheet_9 ic_2 ?_
    obtain ⟨q3, hq3, hz⟩ := obind hz
    refine AX.callSw (As := [.int p1, .int 0, .int 2]) (rest := []) (w := some (.int q3)) (st' := [.int q3]) dX11_sheet_10 mlRX11_89 ylX11_in ysX11_in rfl rfl (Nat.le_of_ble_eq_true rfl) ⟨Nat.le_of_ble_eq_true rfl, Nat.le_of_ble_eq_true rfl⟩ (xX11_in p1 (0 : Int32) (2 : Int32) σ hq3) rfl ?_
    refine AX.if_eq (tgt := 22) dX11_sheet_13 rfl (fun c4 => ?_) (fun c4 => ?_)
    · replace hz := (if_pos c4).symm.trans hz
      exact AX.sub (ls' := []) [] rfl (wfX11_sheet_j22  σ hz hk)
    · replace hz := (if_neg c4).symm.trans hz
      refine AX.iload_n dX11_sheet_16 3 rfl rfl ?_
      refine AX.bipush dX11_sheet_17 bp_48 ?_
      refine AX.icmp_le (tgt := 25) dX11_sheet_19 rfl (fun c5 => ?_) (fun c5 => ?_)
      · replace hz := (if_pos c5).symm.trans hz
        refine AX.iload_n dX11_sheet_25 3 rfl rfl ?_
        refine AX.if_ge (tgt := 35) dX11_sheet_26 rfl (fun c6 => ?_) (fun c6 => ?_)
        · replace hz := (if_pos c6).symm.trans hz
          refine AX.aload_n dX11_sheet_35 0 rfl rfl ?_
          refine AX.getR dX11_sheet_36 flRX11_71 rfl rfl ?_
          refine AX.iload_n dX11_sheet_39 1 rfl rfl ?_
          refine AX.iconst dX11_sheet_40 ic_1 ?_
          obtain ⟨b7, hz⟩ := ite_n hz
          refine AX.zast (n := 4) (rs := []) dX11_sheet_41 rfl b7 zb_1 ?_
          refine AX.aload_n dX11_sheet_42 0 rfl rfl ?_
          refine AX.getR dX11_sheet_43 flRX11_75 rfl rfl ?_
          refine AX.iload_n dX11_sheet_46 1 rfl rfl ?_
          refine AX.iload_n dX11_sheet_47 2 rfl rfl ?_
          refine AX.iast dX11_sheet_48 rfl b7 ?_
          refine AX.aload_n dX11_sheet_49 0 rfl rfl ?_
          refine AX.getR dX11_sheet_50 flRX11_78 rfl rfl ?_
          refine AX.iload_n dX11_sheet_53 1 rfl rfl ?_
          refine AX.iload_n dX11_sheet_54 3 rfl rfl ?_
          refine AX.iast dX11_sheet_55 rfl b7 ?_
          refine AX.iconst dX11_sheet_56 ic_0 ?_
          refine AX.istore (ls' := [(0, .ref (G.2.2.1 44)), (1, .int p0), (2, .int p1), (3, .int p2), (4, .int 0)]) dX11_sheet_57 (Nat.le_of_ble_eq_true rfl) rfl ?_
          obtain ⟨r8, hr8, hz⟩ := obind hz
          refine AX.sub (ls' := [(0, .ref (G.2.2.1 44)), (1, .int p0), (3, .int p2), (4, .int 0)]) [0, 1, 3, 4] rfl ?_
          refine lpc_ind (s := (0, (sI (sI (sI σ 65 p0.toNatClampNeg 1) 66 p0.toNatClampNeg p1) 67 p0.toNatClampNeg p2))) (r := r8) (fun s => AX G mX11_sheet 2 42 59 [(0, .ref (G.2.2.1 44)), (1, .int p0), (3, .int p2), (4, .int s.1)] [] s.2 Q) (fun a : St => AX G mX11_sheet 2 42 85 [(3, .int p2)] [] a Q) hr8 (fun s z hb hK => wfX11_sheet_b59 p0 p2 s.1 s.2 hb (Sum.elim (fun s => AX G mX11_sheet 2 42 59 [(0, .ref (G.2.2.1 44)), (1, .int p0), (3, .int p2), (4, .int s.1)] [] s.2 Q) (fun a : St => AX G mX11_sheet 2 42 85 [(3, .int p2)] [] a Q)) (fun _ h9 => h9) (fun _ h9 => h9) hK) ?_
          refine AX.iload_n dX11_sheet_85 0 rfl rfl ?_
          exact AX.ireturn dX11_sheet_86 rfl (vp_nar_int _) (kz (P := fun z => Q (some (.int z.1)) z.2) hz hk)
        · replace hz := (if_neg c6).symm.trans hz
          refine AX.aload_n dX11_sheet_29 0 rfl rfl ?_
          refine AX.iconst dX11_sheet_30 ic_5 ?_
          obtain ⟨q9, hq9, hz⟩ := obind hz
          refine AX.callVw (r := 44) (As := [.int 5]) (rest := []) (w := some (.int q9.1)) (st' := [.int q9.1]) dX11_sheet_31 mlRX11_135 ylX11_meets yvX11_meets rfl rfl rfl (Nat.le_of_ble_eq_true rfl) ⟨Nat.le_of_ble_eq_true rfl, Nat.le_of_ble_eq_true rfl⟩ (xX11_meets (5 : Int32) σ hq9) rfl ?_
          exact AX.ireturn dX11_sheet_34 rfl (vp_nar_int _) (kz (P := fun z => Q (some (.int z.1)) z.2) hz hk)
      · replace hz := (if_neg c5).symm.trans hz
        exact AX.sub (ls' := []) [] rfl (wfX11_sheet_j22  σ hz hk)
theorem xX11_sheet {G : ag_G} (p0 : Int32) (p1 : Int32) (p2 : Int32) (σ : St) {z : Int32 × St} (hz : fX11_sheet p0 p1 p2 σ = some z) : AC G yX11_sheet mX11_sheet 2 42 [.ref (G.2.2.1 44), .int p0, .int p1, .int p2] σ (fun v σ1 => v = some (.int z.1) ∧ σ1 = z.2) := AC.of (plainFor_of_name (by decide)) rfl (Nat.le_of_ble_eq_true rfl) (wfX11_sheet p0 p1 p2 σ hz ⟨rfl, rfl⟩)
noncomputable def fX11_lose (p0 : Int32) (σ : St) : Option (Int32 × St) :=
  (fX11_isSheet p0).bind fun q1 => if q1 = (0 : Int32) then some ((-2 : Int32), σ) else if inb p0 4 = true then if (σ.1 65 p0.toNatClampNeg) = (0 : Int32) then (fX11_meets (1 : Int32) σ).bind fun q5 => some (q5.1, q5.2) else some ((σ.1 67 p0.toNatClampNeg), (sI σ 65 p0.toNatClampNeg 0)) else none
theorem wfX11_lose {G : ag_G} (p0 : Int32) (σ : St) {z : Int32 × St} (hz : fX11_lose p0 σ = some z) {Q : Option Value → St → Prop} (hk : Q (some (.int z.1)) z.2) : AX G mX11_lose 2 42 0 [(0, .ref (G.2.2.1 44)), (1, .int p0)] [] σ Q := by
  unfold fX11_lose at hz
  refine AX.iload_n dX11_lose_0 1 rfl rfl ?_
  obtain ⟨q1, hq1, hz⟩ := obind hz
  refine AX.callSw (As := [.int p0]) (rest := []) (w := some (.int q1)) (st' := [.int q1]) dX11_lose_1 mlRX11_132 ylX11_isSheet ysX11_isSheet rfl rfl (Nat.le_of_ble_eq_true rfl) ⟨Nat.le_of_ble_eq_true rfl, Nat.le_of_ble_eq_true rfl⟩ (xX11_isSheet p0 σ hq1) rfl ?_
  refine AX.if_ne (tgt := 10) dX11_lose_4 rfl (fun c2 => ?_) (fun c2 => ?_)
  · replace hz := (if_neg c2).symm.trans hz
    refine AX.aload_n dX11_lose_10 0 rfl rfl ?_
    refine AX.getR dX11_lose_11 flRX11_71 rfl rfl ?_
    refine AX.iload_n dX11_lose_14 1 rfl rfl ?_
    obtain ⟨b3, hz⟩ := ite_n hz
    refine AX.zaldE (v := σ.1 65 p0.toNatClampNeg) (n := 4) (rs := []) dX11_lose_15 rfl b3 rfl ?_
    refine AX.if_ne (tgt := 25) dX11_lose_16 rfl (fun c4 => ?_) (fun c4 => ?_)
    · replace hz := (if_neg c4).symm.trans hz
      refine AX.aload_n dX11_lose_25 0 rfl rfl ?_
      refine AX.getR dX11_lose_26 flRX11_71 rfl rfl ?_
      refine AX.iload_n dX11_lose_29 1 rfl rfl ?_
      refine AX.iconst dX11_lose_30 ic_0 ?_
      refine AX.zast (n := 4) (rs := []) dX11_lose_31 rfl b3 zb_0 ?_
      refine AX.aload_n dX11_lose_32 0 rfl rfl ?_
      refine AX.getR dX11_lose_33 flRX11_78 rfl rfl ?_
      refine AX.iload_n dX11_lose_36 1 rfl rfl ?_
      refine AX.ialdE (v := σ.1 67 p0.toNatClampNeg) dX11_lose_37 rfl b3 rfl ?_
      exact AX.ireturn dX11_lose_38 rfl (vp_nar_int _) (kz (P := fun z => Q (some (.int z.1)) z.2) hz hk)
    · replace hz := (if_pos c4).symm.trans hz
      refine AX.aload_n dX11_lose_19 0 rfl rfl ?_
      refine AX.iconst dX11_lose_20 ic_1 ?_
      obtain ⟨q5, hq5, hz⟩ := obind hz
      refine AX.callVw (r := 44) (As := [.int 1]) (rest := []) (w := some (.int q5.1)) (st' := [.int q5.1]) dX11_lose_21 mlRX11_135 ylX11_meets yvX11_meets rfl rfl rfl (Nat.le_of_ble_eq_true rfl) ⟨Nat.le_of_ble_eq_true rfl, Nat.le_of_ble_eq_true rfl⟩ (xX11_meets (1 : Int32) σ hq5) rfl ?_
      exact AX.ireturn dX11_lose_24 rfl (vp_nar_int _) (kz (P := fun z => Q (some (.int z.1)) z.2) hz hk)
  · replace hz := (if_pos c2).symm.trans hz
    refine AX.bipush dX11_lose_7 bp_m2 ?_
    exact AX.ireturn dX11_lose_9 rfl (vp_nar_int _) (kz (P := fun z => Q (some (.int z.1)) z.2) hz hk)
theorem xX11_lose {G : ag_G} (p0 : Int32) (σ : St) {z : Int32 × St} (hz : fX11_lose p0 σ = some z) : AC G yX11_lose mX11_lose 2 42 [.ref (G.2.2.1 44), .int p0] σ (fun v σ1 => v = some (.int z.1) ∧ σ1 = z.2) := AC.of (plainFor_of_name (by decide)) rfl (Nat.le_of_ble_eq_true rfl) (wfX11_lose p0 σ hz ⟨rfl, rfl⟩)
noncomputable def fX11_lacks (p0 : Int32) (p1 : Int32) (p2 : Int32) (σ : St) : Option (Int32) :=
  if inb p0 4 = true then if (σ.1 65 p0.toNatClampNeg) = (0 : Int32) then some (1 : Int32) else if (σ.1 66 p0.toNatClampNeg) = p1 then (fX11_in p2 (0 : Int32) ((σ.1 67 p0.toNatClampNeg) - (1 : Int32))).bind fun q4 => if q4 = (0 : Int32) then some (2 : Int32) else some (0 : Int32) else some (3 : Int32) else none
theorem wfX11_lacks {G : ag_G} (p0 : Int32) (p1 : Int32) (p2 : Int32) (σ : St) {z : Int32} (hz : fX11_lacks p0 p1 p2 σ = some z) {Q : Option Value → St → Prop} (hk : Q (some (.int z)) σ) : AX G mX11_lacks 1 22 0 [(0, .ref (G.2.2.1 44)), (1, .int p0), (2, .int p1), (3, .int p2)] [] σ Q := by
  unfold fX11_lacks at hz
  refine AX.aload_n dX11_lacks_0 0 rfl rfl ?_
  refine AX.getR dX11_lacks_1 flRX11_71 rfl rfl ?_
  refine AX.iload_n dX11_lacks_4 1 rfl rfl ?_
  obtain ⟨b1, hz⟩ := ite_n hz
  refine AX.zaldE (v := σ.1 65 p0.toNatClampNeg) (n := 4) (rs := []) dX11_lacks_5 rfl b1 rfl ?_
  refine AX.if_ne (tgt := 13) dX11_lacks_6 rfl (fun c2 => ?_) (fun c2 => ?_)
  · replace hz := (if_neg c2).symm.trans hz
    refine AX.aload_n dX11_lacks_13 0 rfl rfl ?_
    refine AX.getR dX11_lacks_14 flRX11_75 rfl rfl ?_
    refine AX.iload_n dX11_lacks_17 1 rfl rfl ?_
    refine AX.ialdE (v := σ.1 66 p0.toNatClampNeg) dX11_lacks_18 rfl b1 rfl ?_
    refine AX.iload_n dX11_lacks_19 2 rfl rfl ?_
    refine AX.icmp_eq (tgt := 27) dX11_lacks_20 rfl (fun c3 => ?_) (fun c3 => ?_)
    · replace hz := (if_pos c3).symm.trans hz
      refine AX.iload_n dX11_lacks_27 3 rfl rfl ?_
      refine AX.iconst dX11_lacks_28 ic_0 ?_
      refine AX.aload_n dX11_lacks_29 0 rfl rfl ?_
      refine AX.getR dX11_lacks_30 flRX11_78 rfl rfl ?_
      refine AX.iload_n dX11_lacks_33 1 rfl rfl ?_
      refine AX.ialdE (v := σ.1 67 p0.toNatClampNeg) dX11_lacks_34 rfl b1 rfl ?_
      refine AX.iconst dX11_lacks_35 ic_1 ?_
      refine AX.isub dX11_lacks_36 ?_
      obtain ⟨q4, hq4, hz⟩ := obind hz
      refine AX.callSw (As := [.int p2, .int 0, .int ((σ.1 67 p0.toNatClampNeg) - (1 : Int32))]) (rest := []) (w := some (.int q4)) (st' := [.int q4]) dX11_lacks_37 mlRX11_89 ylX11_in ysX11_in rfl rfl (Nat.le_of_ble_eq_true rfl) ⟨Nat.le_of_ble_eq_true rfl, Nat.le_of_ble_eq_true rfl⟩ (xX11_in p2 (0 : Int32) ((σ.1 67 p0.toNatClampNeg) - (1 : Int32)) σ hq4) rfl ?_
      refine AX.if_eq (tgt := 47) dX11_lacks_40 rfl (fun c5 => ?_) (fun c5 => ?_)
      · replace hz := (if_pos c5).symm.trans hz
        refine AX.iconst dX11_lacks_47 ic_2 ?_
        exact AX.ireturn dX11_lacks_48 rfl (vp_nar_int _) (kz (P := fun z => Q (some (.int z)) σ) hz hk)
      · replace hz := (if_neg c5).symm.trans hz
        refine AX.iconst dX11_lacks_43 ic_0 ?_
        refine AX.goto (tgt := 48) dX11_lacks_44 rfl ?_
        exact AX.ireturn dX11_lacks_48 rfl (vp_nar_int _) (kz (P := fun z => Q (some (.int z)) σ) hz hk)
    · replace hz := (if_neg c3).symm.trans hz
      refine AX.iconst dX11_lacks_23 ic_3 ?_
      refine AX.goto (tgt := 48) dX11_lacks_24 rfl ?_
      exact AX.ireturn dX11_lacks_48 rfl (vp_nar_int _) (kz (P := fun z => Q (some (.int z)) σ) hz hk)
  · replace hz := (if_pos c2).symm.trans hz
    refine AX.iconst dX11_lacks_9 ic_1 ?_
    refine AX.goto (tgt := 48) dX11_lacks_10 rfl ?_
    exact AX.ireturn dX11_lacks_48 rfl (vp_nar_int _) (kz (P := fun z => Q (some (.int z)) σ) hz hk)
theorem xX11_lacks {G : ag_G} (p0 : Int32) (p1 : Int32) (p2 : Int32) (σ : St) {z : Int32} (hz : fX11_lacks p0 p1 p2 σ = some z) : AC G yX11_lacks mX11_lacks 1 22 [.ref (G.2.2.1 44), .int p0, .int p1, .int p2] σ (fun v σ1 => v = some (.int z) ∧ σ1 = σ) := AC.of (plainFor_of_name (by decide)) rfl (Nat.le_of_ble_eq_true rfl) (wfX11_lacks p0 p1 p2 σ hz ⟨rfl, rfl⟩)
noncomputable def fX11_keep_j40 (t1 : Int32) (t2 : Int32) (σ : St) : Option (St) :=
  if inb t1 192 = true then some (sI σ 68 t1.toNatClampNeg t2) else none
theorem wfX11_keep_j40 {G : ag_G} (t1 : Int32) (t2 : Int32) (σ : St) {z : St} (hz : fX11_keep_j40 t1 t2 σ = some z) {Q : Option Value → St → Prop} (hk : Q (none) z) : AX G mX11_keep 0 0 40 [] [.int t2, .int t1, .ref (G.2.2.1 68)] σ Q := by
  unfold fX11_keep_j40 at hz
  obtain ⟨b1, hz⟩ := ite_n hz
  refine AX.iast dX11_keep_40 rfl b1 ?_
  exact AX.vreturn dX11_keep_41 rfl (kz (P := fun z => Q (none) z) hz hk)
noncomputable def fX11_keep (p0 : Int32) (p1 : Int32) (p2 : Int32) (σ : St) : Option (St) :=
  if inb p0 4 = true then if (σ.1 66 p0.toNatClampNeg) = (0 : Int32) then fX11_keep_j40 (((48 : Int32) * p0) + p1) p2.toInt8.toInt32 σ else if (σ.1 66 p0.toNatClampNeg) = (1 : Int32) then fX11_keep_j40 (((48 : Int32) * p0) + p1) p2.toInt16.toInt32 σ else fX11_keep_j40 (((48 : Int32) * p0) + p1) p2 σ else none
theorem wfX11_keep {G : ag_G} (p0 : Int32) (p1 : Int32) (p2 : Int32) (σ : St) {z : St} (hz : fX11_keep p0 p1 p2 σ = some z) {Q : Option Value → St → Prop} (hk : Q (none) z) : AX G mX11_keep 0 0 0 [(0, .ref (G.2.2.1 44)), (1, .int p0), (2, .int p1), (3, .int p2)] [] σ Q := by
  unfold fX11_keep at hz
  refine AX.aload_n dX11_keep_0 0 rfl rfl ?_
  refine AX.getR dX11_keep_1 flRX11_81 rfl rfl ?_
  refine AX.bipush dX11_keep_4 bp_48 ?_
  refine AX.iload_n dX11_keep_6 1 rfl rfl ?_
  refine AX.imul dX11_keep_7 ?_
  refine AX.iload_n dX11_keep_8 2 rfl rfl ?_
  refine AX.iadd dX11_keep_9 ?_
  refine AX.aload_n dX11_keep_10 0 rfl rfl ?_
  refine AX.getR dX11_keep_11 flRX11_75 rfl rfl ?_
  refine AX.iload_n dX11_keep_14 1 rfl rfl ?_
  obtain ⟨b1, hz⟩ := ite_n hz
  refine AX.ialdE (v := σ.1 66 p0.toNatClampNeg) dX11_keep_15 rfl b1 rfl ?_
  refine AX.if_ne (tgt := 24) dX11_keep_16 rfl (fun c2 => ?_) (fun c2 => ?_)
  · replace hz := (if_neg c2).symm.trans hz
    refine AX.aload_n dX11_keep_24 0 rfl rfl ?_
    refine AX.getR dX11_keep_25 flRX11_75 rfl rfl ?_
    refine AX.iload_n dX11_keep_28 1 rfl rfl ?_
    refine AX.ialdE (v := σ.1 66 p0.toNatClampNeg) dX11_keep_29 rfl b1 rfl ?_
    refine AX.iconst dX11_keep_30 ic_1 ?_
    refine AX.icmp_ne (tgt := 39) dX11_keep_31 rfl (fun c3 => ?_) (fun c3 => ?_)
    · replace hz := (if_neg c3).symm.trans hz
      refine AX.iload_n dX11_keep_39 3 rfl rfl ?_
      exact AX.sub (ls' := []) [] rfl (wfX11_keep_j40 (((48 : Int32) * p0) + p1) p2 σ hz hk)
    · replace hz := (if_pos c3).symm.trans hz
      refine AX.iload_n dX11_keep_34 3 rfl rfl ?_
      refine AX.i2s dX11_keep_35 ?_
      refine AX.goto (tgt := 40) dX11_keep_36 rfl ?_
      exact AX.sub (ls' := []) [] rfl (wfX11_keep_j40 (((48 : Int32) * p0) + p1) p2.toInt16.toInt32 σ hz hk)
  · replace hz := (if_pos c2).symm.trans hz
    refine AX.iload_n dX11_keep_19 3 rfl rfl ?_
    refine AX.i2b dX11_keep_20 ?_
    refine AX.goto (tgt := 40) dX11_keep_21 rfl ?_
    exact AX.sub (ls' := []) [] rfl (wfX11_keep_j40 (((48 : Int32) * p0) + p1) p2.toInt8.toInt32 σ hz hk)
theorem xX11_keep {G : ag_G} (p0 : Int32) (p1 : Int32) (p2 : Int32) (σ : St) {z : St} (hz : fX11_keep p0 p1 p2 σ = some z) : AC G yX11_keep mX11_keep 0 0 [.ref (G.2.2.1 44), .int p0, .int p1, .int p2] σ (fun v σ1 => v = none ∧ σ1 = z) := AC.of (plainFor_of_name (by decide)) rfl (Nat.le_of_ble_eq_true rfl) (wfX11_keep p0 p1 p2 σ hz ⟨rfl, rfl⟩)
noncomputable def fX11_put_j16  (σ : St) : Option (Int32 × St) :=
  some ((-2 : Int32), σ)
theorem wfX11_put_j16 {G : ag_G}  (σ : St) {z : Int32 × St} (hz : fX11_put_j16  σ = some z) {Q : Option Value → St → Prop} (hk : Q (some (.int z.1)) z.2) : AX G mX11_put 2 45 16 [] [] σ Q := by
  unfold fX11_put_j16 at hz
  refine AX.bipush dX11_put_16 bp_m2 ?_
  exact AX.ireturn dX11_put_18 rfl (vp_nar_int _) (kz (P := fun z => Q (some (.int z.1)) z.2) hz hk)
noncomputable def fX11_put (p0 : Int32) (p1 : Int32) (p2 : Int32) (p3 : Int32) (σ : St) : Option (Int32 × St) :=
  (fX11_isSheet p0).bind fun q1 => if q1 = (0 : Int32) then fX11_put_j16  σ else (fX11_in p1 (0 : Int32) (2 : Int32)).bind fun q3 => if q3 = (0 : Int32) then fX11_put_j16  σ else (fX11_lacks p0 p1 p2 σ).bind fun q5 => if q5 ≤ (0 : Int32) then (fX11_keep p0 p2 p3 σ).bind fun q7 => some ((1 : Int32), q7) else (fX11_meets q5 σ).bind fun q8 => some (q8.1, q8.2)
theorem wfX11_put {G : ag_G} (p0 : Int32) (p1 : Int32) (p2 : Int32) (p3 : Int32) (σ : St) {z : Int32 × St} (hz : fX11_put p0 p1 p2 p3 σ = some z) {Q : Option Value → St → Prop} (hk : Q (some (.int z.1)) z.2) : AX G mX11_put 2 45 0 [(0, .ref (G.2.2.1 44)), (1, .int p0), (2, .int p1), (3, .int p2), (4, .int p3)] [] σ Q := by
  unfold fX11_put at hz
  refine AX.iload_n dX11_put_0 1 rfl rfl ?_
  obtain ⟨q1, hq1, hz⟩ := obind hz
  refine AX.callSw (As := [.int p0]) (rest := []) (w := some (.int q1)) (st' := [.int q1]) dX11_put_1 mlRX11_132 ylX11_isSheet ysX11_isSheet rfl rfl (Nat.le_of_ble_eq_true rfl) ⟨Nat.le_of_ble_eq_true rfl, Nat.le_of_ble_eq_true rfl⟩ (xX11_isSheet p0 σ hq1) rfl ?_
  refine AX.if_eq (tgt := 16) dX11_put_4 rfl (fun c2 => ?_) (fun c2 => ?_)
  · replace hz := (if_pos c2).symm.trans hz
    exact AX.sub (ls' := []) [] rfl (wfX11_put_j16  σ hz hk)
  · replace hz := (if_neg c2).symm.trans hz
    refine AX.iload_n dX11_put_7 2 rfl rfl ?_
    refine AX.iconst dX11_put_8 ic_0 ?_
    refine AX.iconst dX11_put_9 ic_2 ?_
    obtain ⟨q3, hq3, hz⟩ := obind hz
    refine AX.callSw (As := [.int p1, .int 0, .int 2]) (rest := []) (w := some (.int q3)) (st' := [.int q3]) dX11_put_10 mlRX11_89 ylX11_in ysX11_in rfl rfl (Nat.le_of_ble_eq_true rfl) ⟨Nat.le_of_ble_eq_true rfl, Nat.le_of_ble_eq_true rfl⟩ (xX11_in p1 (0 : Int32) (2 : Int32) σ hq3) rfl ?_
    refine AX.if_ne (tgt := 19) dX11_put_13 rfl (fun c4 => ?_) (fun c4 => ?_)
    · replace hz := (if_neg c4).symm.trans hz
      refine AX.aload_n dX11_put_19 0 rfl rfl ?_
      refine AX.iload_n dX11_put_20 1 rfl rfl ?_
      refine AX.iload_n dX11_put_21 2 rfl rfl ?_
      refine AX.iload_n dX11_put_22 3 rfl rfl ?_
      obtain ⟨q5, hq5, hz⟩ := obind hz
      refine AX.callVw (r := 44) (As := [.int p0, .int p1, .int p2]) (rest := []) (w := some (.int q5)) (st' := [.int q5]) dX11_put_23 mlRX11_276 ylX11_lacks yvX11_lacks rfl rfl rfl (Nat.le_of_ble_eq_true rfl) ⟨Nat.le_of_ble_eq_true rfl, Nat.le_of_ble_eq_true rfl⟩ (xX11_lacks p0 p1 p2 σ hq5) rfl ?_
      refine AX.istore (ls' := [(0, .ref (G.2.2.1 44)), (1, .int p0), (2, .int p1), (3, .int p2), (4, .int p3), (5, .int q5)]) dX11_put_26 (Nat.le_of_ble_eq_true rfl) rfl ?_
      refine AX.iload dX11_put_28 5 rfl ?_
      refine AX.if_le (tgt := 40) dX11_put_30 rfl (fun c6 => ?_) (fun c6 => ?_)
      · replace hz := (if_pos c6).symm.trans hz
        refine AX.aload_n dX11_put_40 0 rfl rfl ?_
        refine AX.iload_n dX11_put_41 1 rfl rfl ?_
        refine AX.iload_n dX11_put_42 3 rfl rfl ?_
        refine AX.iload dX11_put_43 4 rfl ?_
        obtain ⟨q7, hq7, hz⟩ := obind hz
        refine AX.callVw (r := 44) (As := [.int p0, .int p2, .int p3]) (rest := []) (w := none) (st' := []) dX11_put_45 mlRX11_279 ylX11_keep yvX11_keep rfl rfl rfl (Nat.le_of_ble_eq_true rfl) ⟨Nat.le_of_ble_eq_true rfl, Nat.le_of_ble_eq_true rfl⟩ (xX11_keep p0 p2 p3 σ hq7) rfl ?_
        refine AX.iconst dX11_put_48 ic_1 ?_
        exact AX.ireturn dX11_put_49 rfl (vp_nar_int _) (kz (P := fun z => Q (some (.int z.1)) z.2) hz hk)
      · replace hz := (if_neg c6).symm.trans hz
        refine AX.aload_n dX11_put_33 0 rfl rfl ?_
        refine AX.iload dX11_put_34 5 rfl ?_
        obtain ⟨q8, hq8, hz⟩ := obind hz
        refine AX.callVw (r := 44) (As := [.int q5]) (rest := []) (w := some (.int q8.1)) (st' := [.int q8.1]) dX11_put_36 mlRX11_135 ylX11_meets yvX11_meets rfl rfl rfl (Nat.le_of_ble_eq_true rfl) ⟨Nat.le_of_ble_eq_true rfl, Nat.le_of_ble_eq_true rfl⟩ (xX11_meets q5 σ hq8) rfl ?_
        exact AX.ireturn dX11_put_39 rfl (vp_nar_int _) (kz (P := fun z => Q (some (.int z.1)) z.2) hz hk)
    · replace hz := (if_pos c4).symm.trans hz
      exact AX.sub (ls' := []) [] rfl (wfX11_put_j16  σ hz hk)
theorem xX11_put {G : ag_G} (p0 : Int32) (p1 : Int32) (p2 : Int32) (p3 : Int32) (σ : St) {z : Int32 × St} (hz : fX11_put p0 p1 p2 p3 σ = some z) : AC G yX11_put mX11_put 2 45 [.ref (G.2.2.1 44), .int p0, .int p1, .int p2, .int p3] σ (fun v σ1 => v = some (.int z.1) ∧ σ1 = z.2) := AC.of (plainFor_of_name (by decide)) rfl (Nat.le_of_ble_eq_true rfl) (wfX11_put p0 p1 p2 p3 σ hz ⟨rfl, rfl⟩)
noncomputable def fX11_get_j16  (σ : St) : Option (Int32 × St) :=
  some ((-2147483648 : Int32), σ)
theorem wfX11_get_j16 {G : ag_G}  (σ : St) {z : Int32 × St} (hz : fX11_get_j16  σ = some z) {Q : Option Value → St → Prop} (hk : Q (some (.int z.1)) z.2) : AX G mX11_get 2 45 16 [] [] σ Q := by
  unfold fX11_get_j16 at hz
  refine AX.ldcw dX11_get_16 kcRX11_282 ?_
  exact AX.ireturn dX11_get_19 rfl (vp_nar_int _) (kz (P := fun z => Q (some (.int z.1)) z.2) hz hk)
noncomputable def fX11_get (p0 : Int32) (p1 : Int32) (p2 : Int32) (σ : St) : Option (Int32 × St) :=
  (fX11_isSheet p0).bind fun q1 => if q1 = (0 : Int32) then fX11_get_j16  σ else (fX11_in p1 (0 : Int32) (2 : Int32)).bind fun q3 => if q3 = (0 : Int32) then fX11_get_j16  σ else (fX11_lacks p0 p1 p2 σ).bind fun q5 => if q5 ≤ (0 : Int32) then if inb (((48 : Int32) * p0) + p2) 192 = true then some ((σ.1 68 ((((48 : Int32) * p0) + p2).toNatClampNeg)), σ) else none else some ((-2147483648 : Int32), (sI σ 44 35 q5))
theorem wfX11_get {G : ag_G} (p0 : Int32) (p1 : Int32) (p2 : Int32) (σ : St) {z : Int32 × St} (hz : fX11_get p0 p1 p2 σ = some z) {Q : Option Value → St → Prop} (hk : Q (some (.int z.1)) z.2) : AX G mX11_get 2 45 0 [(0, .ref (G.2.2.1 44)), (1, .int p0), (2, .int p1), (3, .int p2)] [] σ Q := by
  unfold fX11_get at hz
  refine AX.iload_n dX11_get_0 1 rfl rfl ?_
  obtain ⟨q1, hq1, hz⟩ := obind hz
  refine AX.callSw (As := [.int p0]) (rest := []) (w := some (.int q1)) (st' := [.int q1]) dX11_get_1 mlRX11_132 ylX11_isSheet ysX11_isSheet rfl rfl (Nat.le_of_ble_eq_true rfl) ⟨Nat.le_of_ble_eq_true rfl, Nat.le_of_ble_eq_true rfl⟩ (xX11_isSheet p0 σ hq1) rfl ?_
  refine AX.if_eq (tgt := 16) dX11_get_4 rfl (fun c2 => ?_) (fun c2 => ?_)
  · replace hz := (if_pos c2).symm.trans hz
    exact AX.sub (ls' := []) [] rfl (wfX11_get_j16  σ hz hk)
  · replace hz := (if_neg c2).symm.trans hz
    refine AX.iload_n dX11_get_7 2 rfl rfl ?_
    refine AX.iconst dX11_get_8 ic_0 ?_
    refine AX.iconst dX11_get_9 ic_2 ?_
    obtain ⟨q3, hq3, hz⟩ := obind hz
    refine AX.callSw (As := [.int p1, .int 0, .int 2]) (rest := []) (w := some (.int q3)) (st' := [.int q3]) dX11_get_10 mlRX11_89 ylX11_in ysX11_in rfl rfl (Nat.le_of_ble_eq_true rfl) ⟨Nat.le_of_ble_eq_true rfl, Nat.le_of_ble_eq_true rfl⟩ (xX11_in p1 (0 : Int32) (2 : Int32) σ hq3) rfl ?_
    refine AX.if_ne (tgt := 20) dX11_get_13 rfl (fun c4 => ?_) (fun c4 => ?_)
    · replace hz := (if_neg c4).symm.trans hz
      refine AX.aload_n dX11_get_20 0 rfl rfl ?_
      refine AX.iload_n dX11_get_21 1 rfl rfl ?_
      refine AX.iload_n dX11_get_22 2 rfl rfl ?_
      refine AX.iload_n dX11_get_23 3 rfl rfl ?_
      obtain ⟨q5, hq5, hz⟩ := obind hz
      refine AX.callVw (r := 44) (As := [.int p0, .int p1, .int p2]) (rest := []) (w := some (.int q5)) (st' := [.int q5]) dX11_get_24 mlRX11_276 ylX11_lacks yvX11_lacks rfl rfl rfl (Nat.le_of_ble_eq_true rfl) ⟨Nat.le_of_ble_eq_true rfl, Nat.le_of_ble_eq_true rfl⟩ (xX11_lacks p0 p1 p2 σ hq5) rfl ?_
      refine AX.istore (ls' := [(0, .ref (G.2.2.1 44)), (1, .int p0), (2, .int p1), (3, .int p2), (4, .int q5)]) dX11_get_27 (Nat.le_of_ble_eq_true rfl) rfl ?_
      refine AX.iload dX11_get_29 4 rfl ?_
      refine AX.if_le (tgt := 44) dX11_get_31 rfl (fun c6 => ?_) (fun c6 => ?_)
      · replace hz := (if_pos c6).symm.trans hz
        refine AX.aload_n dX11_get_44 0 rfl rfl ?_
        refine AX.getR dX11_get_45 flRX11_81 rfl rfl ?_
        refine AX.bipush dX11_get_48 bp_48 ?_
        refine AX.iload_n dX11_get_50 1 rfl rfl ?_
        refine AX.imul dX11_get_51 ?_
        refine AX.iload_n dX11_get_52 3 rfl rfl ?_
        refine AX.iadd dX11_get_53 ?_
        obtain ⟨b7, hz⟩ := ite_n hz
        refine AX.ialdE (v := σ.1 68 ((((48 : Int32) * p0) + p2).toNatClampNeg)) dX11_get_54 rfl b7 rfl ?_
        exact AX.ireturn dX11_get_55 rfl (vp_nar_int _) (kz (P := fun z => Q (some (.int z.1)) z.2) hz hk)
      · replace hz := (if_neg c6).symm.trans hz
        refine AX.aload_n dX11_get_34 0 rfl rfl ?_
        refine AX.iload dX11_get_35 4 rfl ?_
        refine AX.putI dX11_get_37 fpRX11_273 rfl rfl (vp_nar_int _) rfl ?_
        refine AX.ldcw dX11_get_40 kcRX11_282 ?_
        exact AX.ireturn dX11_get_43 rfl (vp_nar_int _) (kz (P := fun z => Q (some (.int z.1)) z.2) hz hk)
    · replace hz := (if_pos c4).symm.trans hz
      exact AX.sub (ls' := []) [] rfl (wfX11_get_j16  σ hz hk)
theorem xX11_get {G : ag_G} (p0 : Int32) (p1 : Int32) (p2 : Int32) (σ : St) {z : Int32 × St} (hz : fX11_get p0 p1 p2 σ = some z) : AC G yX11_get mX11_get 2 45 [.ref (G.2.2.1 44), .int p0, .int p1, .int p2] σ (fun v σ1 => v = some (.int z.1) ∧ σ1 = z.2) := AC.of (plainFor_of_name (by decide)) rfl (Nat.le_of_ble_eq_true rfl) (wfX11_get p0 p1 p2 σ hz ⟨rfl, rfl⟩)
noncomputable def fX11_copy_j14  (σ : St) : Option (Int32 × St) :=
  some ((-2 : Int32), σ)
theorem wfX11_copy_j14 {G : ag_G}  (σ : St) {z : Int32 × St} (hz : fX11_copy_j14  σ = some z) {Q : Option Value → St → Prop} (hk : Q (some (.int z.1)) z.2) : AX G mX11_copy 2 42 14 [] [] σ Q := by
  unfold fX11_copy_j14 at hz
  refine AX.bipush dX11_copy_14 bp_m2 ?_
  exact AX.ireturn dX11_copy_16 rfl (vp_nar_int _) (kz (P := fun z => Q (some (.int z.1)) z.2) hz hk)
noncomputable def fX11_copy_j35  (σ : St) : Option (Int32 × St) :=
  (fX11_meets (1 : Int32) σ).bind fun q1 => some (q1.1, q1.2)
theorem wfX11_copy_j35 {G : ag_G}  (σ : St) {z : Int32 × St} (hz : fX11_copy_j35  σ = some z) {Q : Option Value → St → Prop} (hk : Q (some (.int z.1)) z.2) : AX G mX11_copy 2 42 35 [(0, .ref (G.2.2.1 44))] [] σ Q := by
  unfold fX11_copy_j35 at hz
  refine AX.aload_n dX11_copy_35 0 rfl rfl ?_
  refine AX.iconst dX11_copy_36 ic_1 ?_
  obtain ⟨q1, hq1, hz⟩ := obind hz
  refine AX.callVw (r := 44) (As := [.int 1]) (rest := []) (w := some (.int q1.1)) (st' := [.int q1.1]) dX11_copy_37 mlRX11_135 ylX11_meets yvX11_meets rfl rfl rfl (Nat.le_of_ble_eq_true rfl) ⟨Nat.le_of_ble_eq_true rfl, Nat.le_of_ble_eq_true rfl⟩ (xX11_meets (1 : Int32) σ hq1) rfl ?_
  exact AX.ireturn dX11_copy_40 rfl (vp_nar_int _) (kz (P := fun z => Q (some (.int z.1)) z.2) hz hk)
noncomputable def fX11_copy_j111  (σ : St) : Option (Int32 × St) :=
  (fX11_meets (2 : Int32) σ).bind fun q1 => some (q1.1, q1.2)
theorem wfX11_copy_j111 {G : ag_G}  (σ : St) {z : Int32 × St} (hz : fX11_copy_j111  σ = some z) {Q : Option Value → St → Prop} (hk : Q (some (.int z.1)) z.2) : AX G mX11_copy 2 42 111 [(0, .ref (G.2.2.1 44))] [] σ Q := by
  unfold fX11_copy_j111 at hz
  refine AX.aload_n dX11_copy_111 0 rfl rfl ?_
  refine AX.iconst dX11_copy_112 ic_2 ?_
  obtain ⟨q1, hq1, hz⟩ := obind hz
  refine AX.callVw (r := 44) (As := [.int 2]) (rest := []) (w := some (.int q1.1)) (st' := [.int q1.1]) dX11_copy_113 mlRX11_135 ylX11_meets yvX11_meets rfl rfl rfl (Nat.le_of_ble_eq_true rfl) ⟨Nat.le_of_ble_eq_true rfl, Nat.le_of_ble_eq_true rfl⟩ (xX11_meets (2 : Int32) σ hq1) rfl ?_
  exact AX.ireturn dX11_copy_116 rfl (vp_nar_int _) (kz (P := fun z => Q (some (.int z.1)) z.2) hz hk)
noncomputable def fX11_copy_b120 (l1 : Int32) (l2 : Int32) (l3 : Int32) (l4 : Int32) (l5 : Int32) (l6 : Int32) (σ : St) : Option ((Int32 × St) ⊕ St) :=
  if l5 ≤ l6 then some (.inr σ) else if inb ((((48 : Int32) * l1) + l2) + l6) 192 = true then if inb l6 48 = true then some (.inl (l6 + 1, (sI σ 69 l6.toNatClampNeg (σ.1 68 (((((48 : Int32) * l1) + l2) + l6).toNatClampNeg))))) else none else none
theorem wfX11_copy_b120 {G : ag_G} (l1 : Int32) (l2 : Int32) (l3 : Int32) (l4 : Int32) (l5 : Int32) (l6 : Int32) (σ : St) {z : (Int32 × St) ⊕ St} (hz : fX11_copy_b120 l1 l2 l3 l4 l5 l6 σ = some z) {Q : Option Value → St → Prop} (K : ((Int32 × St) ⊕ St) → Prop) (hback : ∀ a : Int32 × St, K (.inl a) → AX G mX11_copy 2 42 120 [(0, .ref (G.2.2.1 44)), (1, .int l1), (2, .int l2), (3, .int l3), (4, .int l4), (5, .int l5), (6, .int a.1)] [] a.2 Q) (hexit0 : ∀ a : St, K (.inr a) → AX G mX11_copy 2 42 154 [(0, .ref (G.2.2.1 44)), (3, .int l3), (4, .int l4), (5, .int l5)] [] a Q) (hk : K z) : AX G mX11_copy 2 42 120 [(0, .ref (G.2.2.1 44)), (1, .int l1), (2, .int l2), (3, .int l3), (4, .int l4), (5, .int l5), (6, .int l6)] [] σ Q := by
  unfold fX11_copy_b120 at hz
  refine AX.iload dX11_copy_120 6 rfl ?_
  refine AX.iload dX11_copy_122 5 rfl ?_
  refine AX.icmp_ge (tgt := 154) dX11_copy_124 rfl (fun c1 => ?_) (fun c1 => ?_)
  · replace hz := (if_pos c1).symm.trans hz
    exact AX.sub (ls' := [(0, .ref (G.2.2.1 44)), (3, .int l3), (4, .int l4), (5, .int l5)]) [0, 3, 4, 5] rfl (hexit0 σ (kz (P := K) hz hk))
  · replace hz := (if_neg c1).symm.trans hz
    refine AX.aload_n dX11_copy_127 0 rfl rfl ?_
    refine AX.getR dX11_copy_128 flRX11_84 rfl rfl ?_
    refine AX.iload dX11_copy_131 6 rfl ?_
    refine AX.aload_n dX11_copy_133 0 rfl rfl ?_
    refine AX.getR dX11_copy_134 flRX11_81 rfl rfl ?_
    refine AX.bipush dX11_copy_137 bp_48 ?_
    refine AX.iload_n dX11_copy_139 1 rfl rfl ?_
    refine AX.imul dX11_copy_140 ?_
    refine AX.iload_n dX11_copy_141 2 rfl rfl ?_
    refine AX.iadd dX11_copy_142 ?_
    refine AX.iload dX11_copy_143 6 rfl ?_
    refine AX.iadd dX11_copy_145 ?_
    obtain ⟨b2, hz⟩ := ite_n hz
    refine AX.ialdE (v := σ.1 68 (((((48 : Int32) * l1) + l2) + l6).toNatClampNeg)) dX11_copy_146 rfl b2 rfl ?_
    obtain ⟨b3, hz⟩ := ite_n hz
    refine AX.iast dX11_copy_147 rfl b3 ?_
    refine AX.iinc (v := l6 + 1) (ls' := [(0, .ref (G.2.2.1 44)), (1, .int l1), (2, .int l2), (3, .int l3), (4, .int l4), (5, .int l5), (6, .int (l6 + 1))]) 6 dX11_copy_148 rfl (Nat.le_of_ble_eq_true rfl) (congrArg (l6 + ·) ic_1) rfl ?_
    refine AX.goto (tgt := 120) dX11_copy_151 rfl ?_
    exact AX.sub (ls' := [(0, .ref (G.2.2.1 44)), (1, .int l1), (2, .int l2), (3, .int l3), (4, .int l4), (5, .int l5), (6, .int (l6 + 1))]) [0, 1, 2, 3, 4, 5, 6] rfl (hback (l6 + 1, (sI σ 69 l6.toNatClampNeg (σ.1 68 (((((48 : Int32) * l1) + l2) + l6).toNatClampNeg)))) (kz (P := K) hz hk))
noncomputable def fX11_copy_b157 (l3 : Int32) (l4 : Int32) (l5 : Int32) (l6 : Int32) (σ : St) : Option ((Int32 × St) ⊕ St) :=
  if l5 ≤ l6 then some (.inr σ) else if inb l6 48 = true then if inb ((((48 : Int32) * l3) + l4) + l6) 192 = true then some (.inl (l6 + 1, (sI σ 68 (((((48 : Int32) * l3) + l4) + l6).toNatClampNeg) (σ.1 69 l6.toNatClampNeg)))) else none else none
theorem wfX11_copy_b157 {G : ag_G} (l3 : Int32) (l4 : Int32) (l5 : Int32) (l6 : Int32) (σ : St) {z : (Int32 × St) ⊕ St} (hz : fX11_copy_b157 l3 l4 l5 l6 σ = some z) {Q : Option Value → St → Prop} (K : ((Int32 × St) ⊕ St) → Prop) (hback : ∀ a : Int32 × St, K (.inl a) → AX G mX11_copy 2 42 157 [(0, .ref (G.2.2.1 44)), (3, .int l3), (4, .int l4), (5, .int l5), (6, .int a.1)] [] a.2 Q) (hexit0 : ∀ a : St, K (.inr a) → AX G mX11_copy 2 42 192 [] [] a Q) (hk : K z) : AX G mX11_copy 2 42 157 [(0, .ref (G.2.2.1 44)), (3, .int l3), (4, .int l4), (5, .int l5), (6, .int l6)] [] σ Q := by
  unfold fX11_copy_b157 at hz
  refine AX.iload dX11_copy_157 4 rfl ?_
  refine AX.iload dX11_copy_159 3 rfl ?_
  refine AX.icmp_ge (tgt := 192) dX11_copy_161 rfl (fun c1 => ?_) (fun c1 => ?_)
  · replace hz := (if_pos c1).symm.trans hz
    exact AX.sub (ls' := []) [] rfl (hexit0 σ (kz (P := K) hz hk))
  · replace hz := (if_neg c1).symm.trans hz
    refine AX.aload_n dX11_copy_164 0 rfl rfl ?_
    refine AX.getR dX11_copy_165 flRX11_81 rfl rfl ?_
    refine AX.bipush dX11_copy_168 bp_48 ?_
    refine AX.iload_n dX11_copy_170 1 rfl rfl ?_
    refine AX.imul dX11_copy_171 ?_
    refine AX.iload dX11_copy_172 2 rfl ?_
    refine AX.iadd dX11_copy_174 ?_
    refine AX.iload dX11_copy_175 4 rfl ?_
    refine AX.iadd dX11_copy_177 ?_
    refine AX.aload_n dX11_copy_178 0 rfl rfl ?_
    refine AX.getR dX11_copy_179 flRX11_84 rfl rfl ?_
    refine AX.iload dX11_copy_182 4 rfl ?_
    obtain ⟨b2, hz⟩ := ite_n hz
    refine AX.ialdE (v := σ.1 69 l6.toNatClampNeg) dX11_copy_184 rfl b2 rfl ?_
    obtain ⟨b3, hz⟩ := ite_n hz
    refine AX.iast dX11_copy_185 rfl b3 ?_
    refine AX.iinc (v := l6 + 1) (ls' := [(0, .ref (G.2.2.1 44)), (3, .int l3), (4, .int l4), (5, .int l5), (6, .int (l6 + 1))]) 4 dX11_copy_186 rfl (Nat.le_of_ble_eq_true rfl) (congrArg (l6 + ·) ic_1) rfl ?_
    refine AX.goto (tgt := 157) dX11_copy_189 rfl ?_
    exact AX.sub (ls' := [(0, .ref (G.2.2.1 44)), (3, .int l3), (4, .int l4), (5, .int l5), (6, .int (l6 + 1))]) [0, 1, 2, 3, 4] rfl (hback (l6 + 1, (sI σ 68 (((((48 : Int32) * l3) + l4) + l6).toNatClampNeg) (σ.1 69 l6.toNatClampNeg))) (kz (P := K) hz hk))
noncomputable def fX11_copy (p0 : Int32) (p1 : Int32) (p2 : Int32) (p3 : Int32) (p4 : Int32) (σ : St) : Option (Int32 × St) :=
  (fX11_isSheet p0).bind fun q1 => if q1 = (0 : Int32) then fX11_copy_j14  σ else (fX11_isSheet p2).bind fun q3 => if q3 = (0 : Int32) then fX11_copy_j14  σ else if inb p0 4 = true then if (σ.1 65 p0.toNatClampNeg) = (0 : Int32) then fX11_copy_j35  σ else if inb p2 4 = true then if (σ.1 65 p2.toNatClampNeg) = (0 : Int32) then fX11_copy_j35  σ else if (σ.1 66 p0.toNatClampNeg) = (σ.1 66 p2.toNatClampNeg) then if p1 < (0 : Int32) then fX11_copy_j111  σ else if p3 < (0 : Int32) then fX11_copy_j111  σ else if p4 < (0 : Int32) then fX11_copy_j111  σ else if ((σ.1 67 p0.toNatClampNeg).toInt64) < (p1.toInt64 + p4.toInt64) then fX11_copy_j111  σ else if (p3.toInt64 + p4.toInt64) ≤ ((σ.1 67 p2.toNatClampNeg).toInt64) then (lpc (fun s => fX11_copy_b120 p0 p1 p2 p3 p4 s.1 s.2) (0, σ)).bind fun r15 => (lpc (fun s => fX11_copy_b157 p2 p3 p4 s.1 s.2) (0, r15)).bind fun r16 => some ((1 : Int32), r16) else fX11_copy_j111  σ else (fX11_meets (4 : Int32) σ).bind fun q17 => some (q17.1, q17.2) else none else none
theorem wfX11_copy {G : ag_G} (p0 : Int32) (p1 : Int32) (p2 : Int32) (p3 : Int32) (p4 : Int32) (σ : St) {z : Int32 × St} (hz : fX11_copy p0 p1 p2 p3 p4 σ = some z) {Q : Option Value → St → Prop} (hk : Q (some (.int z.1)) z.2) : AX G mX11_copy 2 42 0 [(0, .ref (G.2.2.1 44)), (1, .int p0), (2, .int p1), (3, .int p2), (4, .int p3), (5, .int p4)] [] σ Q := by
  unfold fX11_copy at hz
  refine AX.iload_n dX11_copy_0 1 rfl rfl ?_
  obtain ⟨q1, hq1, hz⟩ := obind hz
  refine AX.callSw (As := [.int p0]) (rest := []) (w := some (.int q1)) (st' := [.int q1]) dX11_copy_1 mlRX11_132 ylX11_isSheet ysX11_isSheet rfl rfl (Nat.le_of_ble_eq_true rfl) ⟨Nat.le_of_ble_eq_true rfl, Nat.le_of_ble_eq_true rfl⟩ (xX11_isSheet p0 σ hq1) rfl ?_
  refine AX.if_eq (tgt := 14) dX11_copy_4 rfl (fun c2 => ?_) (fun c2 => ?_)
  · replace hz := (if_pos c2).symm.trans hz
    exact AX.sub (ls' := []) [] rfl (wfX11_copy_j14  σ hz hk)
  · replace hz := (if_neg c2).symm.trans hz
    refine AX.iload_n dX11_copy_7 3 rfl rfl ?_
    obtain ⟨q3, hq3, hz⟩ := obind hz
    refine AX.callSw (As := [.int p2]) (rest := []) (w := some (.int q3)) (st' := [.int q3]) dX11_copy_8 mlRX11_132 ylX11_isSheet ysX11_isSheet rfl rfl (Nat.le_of_ble_eq_true rfl) ⟨Nat.le_of_ble_eq_true rfl, Nat.le_of_ble_eq_true rfl⟩ (xX11_isSheet p2 σ hq3) rfl ?_
    refine AX.if_ne (tgt := 17) dX11_copy_11 rfl (fun c4 => ?_) (fun c4 => ?_)
    · replace hz := (if_neg c4).symm.trans hz
      refine AX.aload_n dX11_copy_17 0 rfl rfl ?_
      refine AX.getR dX11_copy_18 flRX11_71 rfl rfl ?_
      refine AX.iload_n dX11_copy_21 1 rfl rfl ?_
      obtain ⟨b5, hz⟩ := ite_n hz
      refine AX.zaldE (v := σ.1 65 p0.toNatClampNeg) (n := 4) (rs := []) dX11_copy_22 rfl b5 rfl ?_
      refine AX.if_eq (tgt := 35) dX11_copy_23 rfl (fun c6 => ?_) (fun c6 => ?_)
      · replace hz := (if_pos c6).symm.trans hz
        exact AX.sub (ls' := [(0, .ref (G.2.2.1 44))]) [0] rfl (wfX11_copy_j35  σ hz hk)
      · replace hz := (if_neg c6).symm.trans hz
        refine AX.aload_n dX11_copy_26 0 rfl rfl ?_
        refine AX.getR dX11_copy_27 flRX11_71 rfl rfl ?_
        refine AX.iload_n dX11_copy_30 3 rfl rfl ?_
        obtain ⟨b7, hz⟩ := ite_n hz
        refine AX.zaldE (v := σ.1 65 p2.toNatClampNeg) (n := 4) (rs := []) dX11_copy_31 rfl b7 rfl ?_
        refine AX.if_ne (tgt := 41) dX11_copy_32 rfl (fun c8 => ?_) (fun c8 => ?_)
        · replace hz := (if_neg c8).symm.trans hz
          refine AX.aload_n dX11_copy_41 0 rfl rfl ?_
          refine AX.getR dX11_copy_42 flRX11_75 rfl rfl ?_
          refine AX.iload_n dX11_copy_45 1 rfl rfl ?_
          refine AX.ialdE (v := σ.1 66 p0.toNatClampNeg) dX11_copy_46 rfl b5 rfl ?_
          refine AX.aload_n dX11_copy_47 0 rfl rfl ?_
          refine AX.getR dX11_copy_48 flRX11_75 rfl rfl ?_
          refine AX.iload_n dX11_copy_51 3 rfl rfl ?_
          refine AX.ialdE (v := σ.1 66 p2.toNatClampNeg) dX11_copy_52 rfl b7 rfl ?_
          refine AX.icmp_eq (tgt := 62) dX11_copy_53 rfl (fun c9 => ?_) (fun c9 => ?_)
          · replace hz := (if_pos c9).symm.trans hz
            refine AX.iload_n dX11_copy_62 2 rfl rfl ?_
            refine AX.if_lt (tgt := 111) dX11_copy_63 rfl (fun c10 => ?_) (fun c10 => ?_)
            · replace hz := (if_pos c10).symm.trans hz
              exact AX.sub (ls' := [(0, .ref (G.2.2.1 44))]) [0] rfl (wfX11_copy_j111  σ hz hk)
            · replace hz := (if_neg c10).symm.trans hz
              refine AX.iload dX11_copy_66 4 rfl ?_
              refine AX.if_lt (tgt := 111) dX11_copy_68 rfl (fun c11 => ?_) (fun c11 => ?_)
              · replace hz := (if_pos c11).symm.trans hz
                exact AX.sub (ls' := [(0, .ref (G.2.2.1 44))]) [0] rfl (wfX11_copy_j111  σ hz hk)
              · replace hz := (if_neg c11).symm.trans hz
                refine AX.iload dX11_copy_71 5 rfl ?_
                refine AX.if_lt (tgt := 111) dX11_copy_73 rfl (fun c12 => ?_) (fun c12 => ?_)
                · replace hz := (if_pos c12).symm.trans hz
                  exact AX.sub (ls' := [(0, .ref (G.2.2.1 44))]) [0] rfl (wfX11_copy_j111  σ hz hk)
                · replace hz := (if_neg c12).symm.trans hz
                  refine AX.iload_n dX11_copy_76 2 rfl rfl ?_
                  refine AX.i2l dX11_copy_77 ?_
                  refine AX.iload dX11_copy_78 5 rfl ?_
                  refine AX.i2l dX11_copy_80 ?_
                  refine AX.ladd dX11_copy_81 ?_
                  refine AX.aload_n dX11_copy_82 0 rfl rfl ?_
                  refine AX.getR dX11_copy_83 flRX11_78 rfl rfl ?_
                  refine AX.iload_n dX11_copy_86 1 rfl rfl ?_
                  refine AX.ialdE (v := σ.1 67 p0.toNatClampNeg) dX11_copy_87 rfl b5 rfl ?_
                  refine AX.i2l dX11_copy_88 ?_
                  refine AX.lcmp_gt (tgt := 111) dX11_copy_89 dX11_copy_90 rfl (fun c13 => ?_) (fun c13 => ?_)
                  · replace hz := (if_pos c13).symm.trans hz
                    exact AX.sub (ls' := [(0, .ref (G.2.2.1 44))]) [0] rfl (wfX11_copy_j111  σ hz hk)
                  · replace hz := (if_neg c13).symm.trans hz
                    refine AX.iload dX11_copy_93 4 rfl ?_
                    refine AX.i2l dX11_copy_95 ?_
                    refine AX.iload dX11_copy_96 5 rfl ?_
                    refine AX.i2l dX11_copy_98 ?_
                    refine AX.ladd dX11_copy_99 ?_
                    refine AX.aload_n dX11_copy_100 0 rfl rfl ?_
                    refine AX.getR dX11_copy_101 flRX11_78 rfl rfl ?_
                    refine AX.iload_n dX11_copy_104 3 rfl rfl ?_
                    refine AX.ialdE (v := σ.1 67 p2.toNatClampNeg) dX11_copy_105 rfl b7 rfl ?_
                    refine AX.i2l dX11_copy_106 ?_
                    refine AX.lcmp_le (tgt := 117) dX11_copy_107 dX11_copy_108 rfl (fun c14 => ?_) (fun c14 => ?_)
                    · replace hz := (if_pos c14).symm.trans hz
                      refine AX.iconst dX11_copy_117 ic_0 ?_
                      refine AX.istore (ls' := [(0, .ref (G.2.2.1 44)), (1, .int p0), (2, .int p1), (3, .int p2), (4, .int p3), (5, .int p4), (6, .int 0)]) dX11_copy_118 (Nat.le_of_ble_eq_true rfl) rfl ?_
                      obtain ⟨r15, hr15, hz⟩ := obind hz
                      refine AX.sub (ls' := [(0, .ref (G.2.2.1 44)), (1, .int p0), (2, .int p1), (3, .int p2), (4, .int p3), (5, .int p4), (6, .int 0)]) [0, 1, 2, 3, 4, 5, 6] rfl ?_
                      refine lpc_ind (s := (0, σ)) (r := r15) (fun s => AX G mX11_copy 2 42 120 [(0, .ref (G.2.2.1 44)), (1, .int p0), (2, .int p1), (3, .int p2), (4, .int p3), (5, .int p4), (6, .int s.1)] [] s.2 Q) (fun a : St => AX G mX11_copy 2 42 154 [(0, .ref (G.2.2.1 44)), (3, .int p2), (4, .int p3), (5, .int p4)] [] a Q) hr15 (fun s z hb hK => wfX11_copy_b120 p0 p1 p2 p3 p4 s.1 s.2 hb (Sum.elim (fun s => AX G mX11_copy 2 42 120 [(0, .ref (G.2.2.1 44)), (1, .int p0), (2, .int p1), (3, .int p2), (4, .int p3), (5, .int p4), (6, .int s.1)] [] s.2 Q) (fun a : St => AX G mX11_copy 2 42 154 [(0, .ref (G.2.2.1 44)), (3, .int p2), (4, .int p3), (5, .int p4)] [] a Q)) (fun _ h9 => h9) (fun _ h9 => h9) hK) ?_
                      refine AX.iconst dX11_copy_154 ic_0 ?_
                      refine AX.istore (ls' := [(0, .ref (G.2.2.1 44)), (3, .int p2), (4, .int p3), (5, .int p4), (6, .int 0)]) dX11_copy_155 (Nat.le_of_ble_eq_true rfl) rfl ?_
                      obtain ⟨r16, hr16, hz⟩ := obind hz
                      refine AX.sub (ls' := [(0, .ref (G.2.2.1 44)), (3, .int p2), (4, .int p3), (5, .int p4), (6, .int 0)]) [0, 1, 2, 3, 4] rfl ?_
                      refine lpc_ind (s := (0, r15)) (r := r16) (fun s => AX G mX11_copy 2 42 157 [(0, .ref (G.2.2.1 44)), (3, .int p2), (4, .int p3), (5, .int p4), (6, .int s.1)] [] s.2 Q) (fun a : St => AX G mX11_copy 2 42 192 [] [] a Q) hr16 (fun s z hb hK => wfX11_copy_b157 p2 p3 p4 s.1 s.2 hb (Sum.elim (fun s => AX G mX11_copy 2 42 157 [(0, .ref (G.2.2.1 44)), (3, .int p2), (4, .int p3), (5, .int p4), (6, .int s.1)] [] s.2 Q) (fun a : St => AX G mX11_copy 2 42 192 [] [] a Q)) (fun _ h9 => h9) (fun _ h9 => h9) hK) ?_
                      refine AX.iconst dX11_copy_192 ic_1 ?_
                      exact AX.ireturn dX11_copy_193 rfl (vp_nar_int _) (kz (P := fun z => Q (some (.int z.1)) z.2) hz hk)
                    · replace hz := (if_neg c14).symm.trans hz
                      exact AX.sub (ls' := [(0, .ref (G.2.2.1 44))]) [0] rfl (wfX11_copy_j111  σ hz hk)
          · replace hz := (if_neg c9).symm.trans hz
            refine AX.aload_n dX11_copy_56 0 rfl rfl ?_
            refine AX.iconst dX11_copy_57 ic_4 ?_
            obtain ⟨q17, hq17, hz⟩ := obind hz
            refine AX.callVw (r := 44) (As := [.int 4]) (rest := []) (w := some (.int q17.1)) (st' := [.int q17.1]) dX11_copy_58 mlRX11_135 ylX11_meets yvX11_meets rfl rfl rfl (Nat.le_of_ble_eq_true rfl) ⟨Nat.le_of_ble_eq_true rfl, Nat.le_of_ble_eq_true rfl⟩ (xX11_meets (4 : Int32) σ hq17) rfl ?_
            exact AX.ireturn dX11_copy_61 rfl (vp_nar_int _) (kz (P := fun z => Q (some (.int z.1)) z.2) hz hk)
        · replace hz := (if_pos c8).symm.trans hz
          exact AX.sub (ls' := [(0, .ref (G.2.2.1 44))]) [0] rfl (wfX11_copy_j35  σ hz hk)
    · replace hz := (if_pos c4).symm.trans hz
      exact AX.sub (ls' := []) [] rfl (wfX11_copy_j14  σ hz hk)
theorem xX11_copy {G : ag_G} (p0 : Int32) (p1 : Int32) (p2 : Int32) (p3 : Int32) (p4 : Int32) (σ : St) {z : Int32 × St} (hz : fX11_copy p0 p1 p2 p3 p4 σ = some z) : AC G yX11_copy mX11_copy 2 42 [.ref (G.2.2.1 44), .int p0, .int p1, .int p2, .int p3, .int p4] σ (fun v σ1 => v = some (.int z.1) ∧ σ1 = z.2) := AC.of (plainFor_of_name (by decide)) rfl (Nat.le_of_ble_eq_true rfl) (wfX11_copy p0 p1 p2 p3 p4 σ hz ⟨rfl, rfl⟩)
noncomputable def fX11_tell_b31 (l1 : Int32) (l2 : Int32) (σ : St) : Option ((Int32 × St) ⊕ (Int32 × St)) :=
  if inb l1 4 = true then if (σ.1 67 l1.toNatClampNeg) ≤ l2 then some (.inr (l2, σ)) else if (σ.1 44 2) ≤ l2 then some (.inr (l2, σ)) else if inb l2 100 = true then (fX11_keep l1 l2 (σ.1 46 l2.toNatClampNeg) σ).bind fun q5 => some (.inl (l2 + 1, q5)) else none else none
theorem wfX11_tell_b31 {G : ag_G} (l1 : Int32) (l2 : Int32) (σ : St) {z : (Int32 × St) ⊕ (Int32 × St)} (hz : fX11_tell_b31 l1 l2 σ = some z) {Q : Option Value → St → Prop} (K : ((Int32 × St) ⊕ (Int32 × St)) → Prop) (hback : ∀ a : Int32 × St, K (.inl a) → AX G mX11_tell 5 114 31 [(0, .ref (G.2.2.1 44)), (1, .int l1), (2, .int a.1)] [] a.2 Q) (hexit0 : ∀ a : Int32 × St, K (.inr a) → AX G mX11_tell 5 114 67 [(2, .int a.1)] [] a.2 Q) (hk : K z) : AX G mX11_tell 5 114 31 [(0, .ref (G.2.2.1 44)), (1, .int l1), (2, .int l2)] [] σ Q := by
  unfold fX11_tell_b31 at hz
  refine AX.iload_n dX11_tell_31 2 rfl rfl ?_
  refine AX.aload_n dX11_tell_32 0 rfl rfl ?_
  refine AX.getR dX11_tell_33 flRX11_78 rfl rfl ?_
  refine AX.iload_n dX11_tell_36 1 rfl rfl ?_
  obtain ⟨b1, hz⟩ := ite_n hz
  refine AX.ialdE (v := σ.1 67 l1.toNatClampNeg) dX11_tell_37 rfl b1 rfl ?_
  refine AX.icmp_ge (tgt := 67) dX11_tell_38 rfl (fun c2 => ?_) (fun c2 => ?_)
  · replace hz := (if_pos c2).symm.trans hz
    exact AX.sub (ls' := [(2, .int l2)]) [2] rfl (hexit0 (l2, σ) (kz (P := K) hz hk))
  · replace hz := (if_neg c2).symm.trans hz
    refine AX.iload_n dX11_tell_41 2 rfl rfl ?_
    refine AX.aload_n dX11_tell_42 0 rfl rfl ?_
    refine AX.getIE (v := σ.1 44 2) dX11_tell_43 flRX11_97 rfl rfl rfl ?_
    refine AX.icmp_ge (tgt := 67) dX11_tell_46 rfl (fun c3 => ?_) (fun c3 => ?_)
    · replace hz := (if_pos c3).symm.trans hz
      exact AX.sub (ls' := [(2, .int l2)]) [2] rfl (hexit0 (l2, σ) (kz (P := K) hz hk))
    · replace hz := (if_neg c3).symm.trans hz
      refine AX.aload_n dX11_tell_49 0 rfl rfl ?_
      refine AX.iload_n dX11_tell_50 1 rfl rfl ?_
      refine AX.iload_n dX11_tell_51 2 rfl rfl ?_
      refine AX.aload_n dX11_tell_52 0 rfl rfl ?_
      refine AX.getR dX11_tell_53 flRX11_13 rfl rfl ?_
      refine AX.iload_n dX11_tell_56 2 rfl rfl ?_
      obtain ⟨b4, hz⟩ := ite_n hz
      refine AX.ialdE (v := σ.1 46 l2.toNatClampNeg) dX11_tell_57 rfl b4 rfl ?_
      obtain ⟨q5, hq5, hz⟩ := obind hz
      refine AX.callVw (r := 44) (As := [.int l1, .int l2, .int (σ.1 46 l2.toNatClampNeg)]) (rest := []) (w := none) (st' := []) dX11_tell_58 mlRX11_279 ylX11_keep yvX11_keep rfl rfl rfl (Nat.le_of_ble_eq_true rfl) ⟨Nat.le_of_ble_eq_true rfl, Nat.le_of_ble_eq_true rfl⟩ (xX11_keep l1 l2 (σ.1 46 l2.toNatClampNeg) σ hq5) rfl ?_
      refine AX.iinc (v := l2 + 1) (ls' := [(0, .ref (G.2.2.1 44)), (1, .int l1), (2, .int (l2 + 1))]) 2 dX11_tell_61 rfl (Nat.le_of_ble_eq_true rfl) (congrArg (l2 + ·) ic_1) rfl ?_
      refine AX.goto (tgt := 31) dX11_tell_64 rfl ?_
      exact AX.sub (ls' := [(0, .ref (G.2.2.1 44)), (1, .int l1), (2, .int (l2 + 1))]) [0, 1, 2] rfl (hback (l2 + 1, q5) (kz (P := K) hz hk))
noncomputable def fX11_tell (p0 : Int32) (σ : St) : Option (Int32 × St) :=
  (fX11_isSheet p0).bind fun q1 => if q1 = (0 : Int32) then some ((-2 : Int32), σ) else if inb p0 4 = true then if (σ.1 65 p0.toNatClampNeg) = (0 : Int32) then (fX11_meets (1 : Int32) σ).bind fun q7 => some (q7.1, q7.2) else (fX11_reads  σ).bind fun q5 => (lpc (fun s => fX11_tell_b31 p0 s.1 s.2) (0, q5)).bind fun r6 => some (r6.1, r6.2) else none
theorem wfX11_tell {G : ag_G} (p0 : Int32) (σ : St) {z : Int32 × St} (hz : fX11_tell p0 σ = some z) {Q : Option Value → St → Prop} (hk : Q (some (.int z.1)) z.2) : AX G mX11_tell 5 114 0 [(0, .ref (G.2.2.1 44)), (1, .int p0)] [] σ Q := by
  unfold fX11_tell at hz
  refine AX.iload_n dX11_tell_0 1 rfl rfl ?_
  obtain ⟨q1, hq1, hz⟩ := obind hz
  refine AX.callSw (As := [.int p0]) (rest := []) (w := some (.int q1)) (st' := [.int q1]) dX11_tell_1 mlRX11_132 ylX11_isSheet ysX11_isSheet rfl rfl (Nat.le_of_ble_eq_true rfl) ⟨Nat.le_of_ble_eq_true rfl, Nat.le_of_ble_eq_true rfl⟩ (xX11_isSheet p0 σ hq1) rfl ?_
  refine AX.if_ne (tgt := 10) dX11_tell_4 rfl (fun c2 => ?_) (fun c2 => ?_)
  · replace hz := (if_neg c2).symm.trans hz
    refine AX.aload_n dX11_tell_10 0 rfl rfl ?_
    refine AX.getR dX11_tell_11 flRX11_71 rfl rfl ?_
    refine AX.iload_n dX11_tell_14 1 rfl rfl ?_
    obtain ⟨b3, hz⟩ := ite_n hz
    refine AX.zaldE (v := σ.1 65 p0.toNatClampNeg) (n := 4) (rs := []) dX11_tell_15 rfl b3 rfl ?_
    refine AX.if_ne (tgt := 25) dX11_tell_16 rfl (fun c4 => ?_) (fun c4 => ?_)
    · replace hz := (if_neg c4).symm.trans hz
      refine AX.aload_n dX11_tell_25 0 rfl rfl ?_
      obtain ⟨q5, hq5, hz⟩ := obind hz
      refine AX.callVw (r := 44) (As := []) (rest := []) (w := none) (st' := []) dX11_tell_26 mlRX11_121 ylX11_reads yvX11_reads rfl rfl rfl (Nat.le_of_ble_eq_true rfl) ⟨Nat.le_of_ble_eq_true rfl, Nat.le_of_ble_eq_true rfl⟩ (xX11_reads  σ hq5) rfl ?_
      refine AX.iconst dX11_tell_29 ic_0 ?_
      refine AX.istore_n (ls' := [(0, .ref (G.2.2.1 44)), (1, .int p0), (2, .int 0)]) dX11_tell_30 rfl (Nat.le_of_ble_eq_true rfl) rfl ?_
      obtain ⟨r6, hr6, hz⟩ := obind hz
      refine AX.sub (ls' := [(0, .ref (G.2.2.1 44)), (1, .int p0), (2, .int 0)]) [0, 1, 2] rfl ?_
      refine lpc_ind (s := (0, q5)) (r := r6) (fun s => AX G mX11_tell 5 114 31 [(0, .ref (G.2.2.1 44)), (1, .int p0), (2, .int s.1)] [] s.2 Q) (fun a : Int32 × St => AX G mX11_tell 5 114 67 [(2, .int a.1)] [] a.2 Q) hr6 (fun s z hb hK => wfX11_tell_b31 p0 s.1 s.2 hb (Sum.elim (fun s => AX G mX11_tell 5 114 31 [(0, .ref (G.2.2.1 44)), (1, .int p0), (2, .int s.1)] [] s.2 Q) (fun a : Int32 × St => AX G mX11_tell 5 114 67 [(2, .int a.1)] [] a.2 Q)) (fun _ h9 => h9) (fun _ h9 => h9) hK) ?_
      refine AX.iload_n dX11_tell_67 0 rfl rfl ?_
      exact AX.ireturn dX11_tell_68 rfl (vp_nar_int _) (kz (P := fun z => Q (some (.int z.1)) z.2) hz hk)
    · replace hz := (if_pos c4).symm.trans hz
      refine AX.aload_n dX11_tell_19 0 rfl rfl ?_
      refine AX.iconst dX11_tell_20 ic_1 ?_
      obtain ⟨q7, hq7, hz⟩ := obind hz
      refine AX.callVw (r := 44) (As := [.int 1]) (rest := []) (w := some (.int q7.1)) (st' := [.int q7.1]) dX11_tell_21 mlRX11_135 ylX11_meets yvX11_meets rfl rfl rfl (Nat.le_of_ble_eq_true rfl) ⟨Nat.le_of_ble_eq_true rfl, Nat.le_of_ble_eq_true rfl⟩ (xX11_meets (1 : Int32) σ hq7) rfl ?_
      exact AX.ireturn dX11_tell_24 rfl (vp_nar_int _) (kz (P := fun z => Q (some (.int z.1)) z.2) hz hk)
  · replace hz := (if_pos c2).symm.trans hz
    refine AX.bipush dX11_tell_7 bp_m2 ?_
    exact AX.ireturn dX11_tell_9 rfl (vp_nar_int _) (kz (P := fun z => Q (some (.int z.1)) z.2) hz hk)
theorem xX11_tell {G : ag_G} (p0 : Int32) (σ : St) {z : Int32 × St} (hz : fX11_tell p0 σ = some z) : AC G yX11_tell mX11_tell 5 114 [.ref (G.2.2.1 44), .int p0] σ (fun v σ1 => v = some (.int z.1) ∧ σ1 = z.2) := AC.of (plainFor_of_name (by decide)) rfl (Nat.le_of_ble_eq_true rfl) (wfX11_tell p0 σ hz ⟨rfl, rfl⟩)
noncomputable def fX11_readsMany (p0 : Int32) (σ : St) : Option (Int32 × St) :=
  (fX11_reads  σ).bind fun q1 => if p0 = (0 : Int32) then some ((q1.1 44 2), q1) else if p0 = (2 : Int32) then some ((q1.1 44 6), q1) else some ((q1.1 44 7), q1)
theorem wfX11_readsMany {G : ag_G} (p0 : Int32) (σ : St) {z : Int32 × St} (hz : fX11_readsMany p0 σ = some z) {Q : Option Value → St → Prop} (hk : Q (some (.int z.1)) z.2) : AX G mX11_readsMany 5 114 0 [(0, .ref (G.2.2.1 44)), (1, .int p0)] [] σ Q := by
  unfold fX11_readsMany at hz
  refine AX.aload_n dX11_readsMany_0 0 rfl rfl ?_
  obtain ⟨q1, hq1, hz⟩ := obind hz
  refine AX.callVw (r := 44) (As := []) (rest := []) (w := none) (st' := []) dX11_readsMany_1 mlRX11_121 ylX11_reads yvX11_reads rfl rfl rfl (Nat.le_of_ble_eq_true rfl) ⟨Nat.le_of_ble_eq_true rfl, Nat.le_of_ble_eq_true rfl⟩ (xX11_reads  σ hq1) rfl ?_
  refine AX.iload_n dX11_readsMany_4 1 rfl rfl ?_
  refine AX.if_ne (tgt := 15) dX11_readsMany_5 rfl (fun c2 => ?_) (fun c2 => ?_)
  · replace hz := (if_neg c2).symm.trans hz
    refine AX.iload_n dX11_readsMany_15 1 rfl rfl ?_
    refine AX.iconst dX11_readsMany_16 ic_2 ?_
    refine AX.icmp_ne (tgt := 27) dX11_readsMany_17 rfl (fun c3 => ?_) (fun c3 => ?_)
    · replace hz := (if_neg c3).symm.trans hz
      refine AX.aload_n dX11_readsMany_27 0 rfl rfl ?_
      refine AX.getIE (v := q1.1 44 7) dX11_readsMany_28 flRX11_100 rfl rfl rfl ?_
      exact AX.ireturn dX11_readsMany_31 rfl (vp_nar_int _) (kz (P := fun z => Q (some (.int z.1)) z.2) hz hk)
    · replace hz := (if_pos c3).symm.trans hz
      refine AX.aload_n dX11_readsMany_20 0 rfl rfl ?_
      refine AX.getIE (v := q1.1 44 6) dX11_readsMany_21 flRX11_103 rfl rfl rfl ?_
      refine AX.goto (tgt := 31) dX11_readsMany_24 rfl ?_
      exact AX.ireturn dX11_readsMany_31 rfl (vp_nar_int _) (kz (P := fun z => Q (some (.int z.1)) z.2) hz hk)
  · replace hz := (if_pos c2).symm.trans hz
    refine AX.aload_n dX11_readsMany_8 0 rfl rfl ?_
    refine AX.getIE (v := q1.1 44 2) dX11_readsMany_9 flRX11_97 rfl rfl rfl ?_
    refine AX.goto (tgt := 31) dX11_readsMany_12 rfl ?_
    exact AX.ireturn dX11_readsMany_31 rfl (vp_nar_int _) (kz (P := fun z => Q (some (.int z.1)) z.2) hz hk)
theorem xX11_readsMany {G : ag_G} (p0 : Int32) (σ : St) {z : Int32 × St} (hz : fX11_readsMany p0 σ = some z) : AC G yX11_readsMany mX11_readsMany 5 114 [.ref (G.2.2.1 44), .int p0] σ (fun v σ1 => v = some (.int z.1) ∧ σ1 = z.2) := AC.of (plainFor_of_name (by decide)) rfl (Nat.le_of_ble_eq_true rfl) (wfX11_readsMany p0 σ hz ⟨rfl, rfl⟩)
noncomputable def fX11_count (p0 : Int32) (σ : St) : Option (Int32 × St) :=
  if p0 = 0 then (fX11_readsMany p0 σ).bind fun q1 => some (q1.1, q1.2) else if p0 = 1 then some ((σ.1 44 1), σ) else if p0 = 2 then (fX11_readsMany p0 σ).bind fun q2 => some (q2.1, q2.2) else if p0 = 3 then (fX11_readsMany p0 σ).bind fun q3 => some (q3.1, q3.2) else if p0 = 4 then some ((σ.1 44 15), σ) else if p0 = 5 then some ((σ.1 44 26), σ) else if p0 = 6 then some ((σ.1 44 12), σ) else if p0 = 7 then some ((σ.1 52 0), σ) else if p0 = 8 then some ((σ.1 44 35), σ) else some ((-2 : Int32), σ)
theorem wfX11_count {G : ag_G} (p0 : Int32) (σ : St) {z : Int32 × St} (hz : fX11_count p0 σ = some z) {Q : Option Value → St → Prop} (hk : Q (some (.int z.1)) z.2) : AX G mX11_count 6 135 0 [(0, .ref (G.2.2.1 44)), (1, .int p0)] [] σ Q := by
  unfold fX11_count at hz
  refine AX.iload_n dX11_count_0 1 rfl rfl ?_
  by_cases c0 : p0 = 0
  · replace hz := (if_pos c0).symm.trans hz
    refine AX.tableIn (tgt := 52) 0 dX11_count_1 (by rw [c0]; rfl) (by decide) rfl rfl ?_
    refine AX.aload_n dX11_count_52 0 rfl rfl ?_
    refine AX.iload_n dX11_count_53 1 rfl rfl ?_
    obtain ⟨q1, hq1, hz⟩ := obind hz
    refine AX.callVw (r := 44) (As := [.int p0]) (rest := []) (w := some (.int q1.1)) (st' := [.int q1.1]) dX11_count_54 mlRX11_283 ylX11_readsMany yvX11_readsMany rfl rfl rfl (Nat.le_of_ble_eq_true rfl) ⟨Nat.le_of_ble_eq_true rfl, Nat.le_of_ble_eq_true rfl⟩ (xX11_readsMany p0 σ hq1) rfl ?_
    exact AX.ireturn dX11_count_57 rfl (vp_nar_int _) (kz (P := fun z => Q (some (.int z.1)) z.2) hz hk)
  · replace hz := (if_neg c0).symm.trans hz
    by_cases c1 : p0 = 1
    · replace hz := (if_pos c1).symm.trans hz
      refine AX.tableIn (tgt := 58) 1 dX11_count_1 (by rw [c1]; rfl) (by decide) rfl rfl ?_
      refine AX.aload_n dX11_count_58 0 rfl rfl ?_
      refine AX.getIE (v := σ.1 44 1) dX11_count_59 flRX11_93 rfl rfl rfl ?_
      exact AX.ireturn dX11_count_62 rfl (vp_nar_int _) (kz (P := fun z => Q (some (.int z.1)) z.2) hz hk)
    · replace hz := (if_neg c1).symm.trans hz
      by_cases c2 : p0 = 2
      · replace hz := (if_pos c2).symm.trans hz
        refine AX.tableIn (tgt := 52) 2 dX11_count_1 (by rw [c2]; rfl) (by decide) rfl rfl ?_
        refine AX.aload_n dX11_count_52 0 rfl rfl ?_
        refine AX.iload_n dX11_count_53 1 rfl rfl ?_
        obtain ⟨q2, hq2, hz⟩ := obind hz
        refine AX.callVw (r := 44) (As := [.int p0]) (rest := []) (w := some (.int q2.1)) (st' := [.int q2.1]) dX11_count_54 mlRX11_283 ylX11_readsMany yvX11_readsMany rfl rfl rfl (Nat.le_of_ble_eq_true rfl) ⟨Nat.le_of_ble_eq_true rfl, Nat.le_of_ble_eq_true rfl⟩ (xX11_readsMany p0 σ hq2) rfl ?_
        exact AX.ireturn dX11_count_57 rfl (vp_nar_int _) (kz (P := fun z => Q (some (.int z.1)) z.2) hz hk)
      · replace hz := (if_neg c2).symm.trans hz
        by_cases c3 : p0 = 3
        · replace hz := (if_pos c3).symm.trans hz
          refine AX.tableIn (tgt := 52) 3 dX11_count_1 (by rw [c3]; rfl) (by decide) rfl rfl ?_
          refine AX.aload_n dX11_count_52 0 rfl rfl ?_
          refine AX.iload_n dX11_count_53 1 rfl rfl ?_
          obtain ⟨q3, hq3, hz⟩ := obind hz
          refine AX.callVw (r := 44) (As := [.int p0]) (rest := []) (w := some (.int q3.1)) (st' := [.int q3.1]) dX11_count_54 mlRX11_283 ylX11_readsMany yvX11_readsMany rfl rfl rfl (Nat.le_of_ble_eq_true rfl) ⟨Nat.le_of_ble_eq_true rfl, Nat.le_of_ble_eq_true rfl⟩ (xX11_readsMany p0 σ hq3) rfl ?_
          exact AX.ireturn dX11_count_57 rfl (vp_nar_int _) (kz (P := fun z => Q (some (.int z.1)) z.2) hz hk)
        · replace hz := (if_neg c3).symm.trans hz
          by_cases c4 : p0 = 4
          · replace hz := (if_pos c4).symm.trans hz
            refine AX.tableIn (tgt := 63) 4 dX11_count_1 (by rw [c4]; rfl) (by decide) rfl rfl ?_
            refine AX.aload_n dX11_count_63 0 rfl rfl ?_
            refine AX.getIE (v := σ.1 44 15) dX11_count_64 flRX11_144 rfl rfl rfl ?_
            exact AX.ireturn dX11_count_67 rfl (vp_nar_int _) (kz (P := fun z => Q (some (.int z.1)) z.2) hz hk)
          · replace hz := (if_neg c4).symm.trans hz
            by_cases c5 : p0 = 5
            · replace hz := (if_pos c5).symm.trans hz
              refine AX.tableIn (tgt := 68) 5 dX11_count_1 (by rw [c5]; rfl) (by decide) rfl rfl ?_
              refine AX.aload_n dX11_count_68 0 rfl rfl ?_
              refine AX.getIE (v := σ.1 44 26) dX11_count_69 flRX11_248 rfl rfl rfl ?_
              exact AX.ireturn dX11_count_72 rfl (vp_nar_int _) (kz (P := fun z => Q (some (.int z.1)) z.2) hz hk)
            · replace hz := (if_neg c5).symm.trans hz
              by_cases c6 : p0 = 6
              · replace hz := (if_pos c6).symm.trans hz
                refine AX.tableIn (tgt := 73) 6 dX11_count_1 (by rw [c6]; rfl) (by decide) rfl rfl ?_
                refine AX.aload_n dX11_count_73 0 rfl rfl ?_
                refine AX.getIE (v := σ.1 44 12) dX11_count_74 flRX11_141 rfl rfl rfl ?_
                exact AX.ireturn dX11_count_77 rfl (vp_nar_int _) (kz (P := fun z => Q (some (.int z.1)) z.2) hz hk)
              · replace hz := (if_neg c6).symm.trans hz
                by_cases c7 : p0 = 7
                · replace hz := (if_pos c7).symm.trans hz
                  refine AX.tableIn (tgt := 78) 7 dX11_count_1 (by rw [c7]; rfl) (by decide) rfl rfl ?_
                  refine AX.aload_n dX11_count_78 0 rfl rfl ?_
                  refine AX.getR dX11_count_79 flRX11_31 rfl rfl ?_
                  refine AX.iconst dX11_count_82 ic_0 ?_
                  refine AX.ialdE (v := σ.1 52 0) dX11_count_83 rfl rfl rfl ?_
                  exact AX.ireturn dX11_count_84 rfl (vp_nar_int _) (kz (P := fun z => Q (some (.int z.1)) z.2) hz hk)
                · replace hz := (if_neg c7).symm.trans hz
                  by_cases c8 : p0 = 8
                  · replace hz := (if_pos c8).symm.trans hz
                    refine AX.tableIn (tgt := 85) 8 dX11_count_1 (by rw [c8]; rfl) (by decide) rfl rfl ?_
                    refine AX.aload_n dX11_count_85 0 rfl rfl ?_
                    refine AX.getIE (v := σ.1 44 35) dX11_count_86 flRX11_273 rfl rfl rfl ?_
                    exact AX.ireturn dX11_count_89 rfl (vp_nar_int _) (kz (P := fun z => Q (some (.int z.1)) z.2) hz hk)
                  · replace hz := (if_neg c8).symm.trans hz
                    have e0 := lv_neT c0 (a := 0) rfl
                    have e1 := lv_neT c1 (a := 1) rfl
                    have e2 := lv_neT c2 (a := 2) rfl
                    have e3 := lv_neT c3 (a := 3) rfl
                    have e4 := lv_neT c4 (a := 4) rfl
                    have e5 := lv_neT c5 (a := 5) rfl
                    have e6 := lv_neT c6 (a := 6) rfl
                    have e7 := lv_neT c7 (a := 7) rfl
                    have e8 := lv_neT c8 (a := 8) rfl
                    refine AX.tableOut (tgt := 90) dX11_count_1 (by omega) rfl ?_
                    refine AX.bipush dX11_count_90 bp_m2 ?_
                    exact AX.ireturn dX11_count_92 rfl (vp_nar_int _) (kz (P := fun z => Q (some (.int z.1)) z.2) hz hk)
theorem xX11_count {G : ag_G} (p0 : Int32) (σ : St) {z : Int32 × St} (hz : fX11_count p0 σ = some z) : AC G yX11_count mX11_count 6 135 [.ref (G.2.2.1 44), .int p0] σ (fun v σ1 => v = some (.int z.1) ∧ σ1 = z.2) := AC.of (plainFor_of_name (by decide)) rfl (Nat.le_of_ble_eq_true rfl) (wfX11_count p0 σ hz ⟨rfl, rfl⟩)
noncomputable def fX11_numberDigest (p0 : Int64) (p1 : Int32) (σ : St) : Option (Int64 × St) :=
  (fX11_where p1 (9 : Int32) (0 : Int32) σ).bind fun q1 => ltb (((31 : Int64) * p0) + q1.1) fun x2 => (fX11_where p1 (9 : Int32) (1 : Int32) q1.2).bind fun q3 => ltb (((31 : Int64) * x2) + q3.1) fun x4 => (fX11_likeliestOf p1 q3.2).bind fun q5 => ltb (((31 : Int64) * x4) + q5.1.toInt64) fun x6 => (fX11_strikeOf p1 (0 : Int32) q5.2).bind fun q7 => ltb (((31 : Int64) * x6) + q7.1) fun x8 => (fX11_strikeOf p1 (1 : Int32) q7.2).bind fun q9 => some ((((31 : Int64) * x8) + q9.1), q9.2)
theorem wfX11_numberDigest {G : ag_G} (p0 : Int64) (p1 : Int32) (σ : St) {z : Int64 × St} (hz : fX11_numberDigest p0 p1 σ = some z) {Q : Option Value → St → Prop} (hk : Q (some (.long z.1)) z.2) : AX G mX11_numberDigest 8 189 0 [(0, .ref (G.2.2.1 44)), (1, .long p0), (3, .int p1)] [] σ Q := by
  unfold fX11_numberDigest at hz
  refine AX.lload_n dX11_numberDigest_0 1 rfl rfl ?_
  refine AX.lstore (ls' := [(0, .ref (G.2.2.1 44)), (1, .long p0), (3, .int p1), (4, .long p0)]) dX11_numberDigest_1 (Nat.le_of_ble_eq_true rfl) rfl ?_
  refine AX.ldc2 dX11_numberDigest_3 kcRX11_286 ?_
  refine AX.lload dX11_numberDigest_6 3 rfl ?_
  refine AX.lmul dX11_numberDigest_8 ?_
  refine AX.aload_n dX11_numberDigest_9 0 rfl rfl ?_
  refine AX.iload_n dX11_numberDigest_10 2 rfl rfl ?_
  refine AX.bipush dX11_numberDigest_11 bp_9 ?_
  refine AX.iconst dX11_numberDigest_13 ic_0 ?_
  obtain ⟨q1, hq1, hz⟩ := obind hz
  refine AX.callVw (r := 44) (As := [.int p1, .int 9, .int 0]) (rest := [.long ((31 : Int64) * p0)]) (w := some (.long q1.1)) (st' := [.long q1.1, .long ((31 : Int64) * p0)]) dX11_numberDigest_14 mlRX11_288 ylX11_where yvX11_where rfl rfl rfl (Nat.le_of_ble_eq_true rfl) ⟨Nat.le_of_ble_eq_true rfl, Nat.le_of_ble_eq_true rfl⟩ (xX11_where p1 (9 : Int32) (0 : Int32) σ hq1) rfl ?_
  refine AX.ladd dX11_numberDigest_17 ?_
  obtain ⟨x2, hx2, hz⟩ := ltb_e hz
  refine AX.topL hx2 ?_
  refine AX.lstore (ls' := [(0, .ref (G.2.2.1 44)), (1, .long p0), (3, .int p1), (4, .long x2)]) dX11_numberDigest_18 (Nat.le_of_ble_eq_true rfl) rfl ?_
  refine AX.ldc2 dX11_numberDigest_20 kcRX11_286 ?_
  refine AX.lload dX11_numberDigest_23 3 rfl ?_
  refine AX.lmul dX11_numberDigest_25 ?_
  refine AX.aload_n dX11_numberDigest_26 0 rfl rfl ?_
  refine AX.iload_n dX11_numberDigest_27 2 rfl rfl ?_
  refine AX.bipush dX11_numberDigest_28 bp_9 ?_
  refine AX.iconst dX11_numberDigest_30 ic_1 ?_
  obtain ⟨q3, hq3, hz⟩ := obind hz
  refine AX.callVw (r := 44) (As := [.int p1, .int 9, .int 1]) (rest := [.long ((31 : Int64) * x2)]) (w := some (.long q3.1)) (st' := [.long q3.1, .long ((31 : Int64) * x2)]) dX11_numberDigest_31 mlRX11_288 ylX11_where yvX11_where rfl rfl rfl (Nat.le_of_ble_eq_true rfl) ⟨Nat.le_of_ble_eq_true rfl, Nat.le_of_ble_eq_true rfl⟩ (xX11_where p1 (9 : Int32) (1 : Int32) q1.2 hq3) rfl ?_
  refine AX.ladd dX11_numberDigest_34 ?_
  obtain ⟨x4, hx4, hz⟩ := ltb_e hz
  refine AX.topL hx4 ?_
  refine AX.lstore (ls' := [(0, .ref (G.2.2.1 44)), (1, .long p0), (3, .int p1), (4, .long x4)]) dX11_numberDigest_35 (Nat.le_of_ble_eq_true rfl) rfl ?_
  refine AX.ldc2 dX11_numberDigest_37 kcRX11_286 ?_
  refine AX.lload dX11_numberDigest_40 3 rfl ?_
  refine AX.lmul dX11_numberDigest_42 ?_
  refine AX.aload_n dX11_numberDigest_43 0 rfl rfl ?_
  refine AX.iload_n dX11_numberDigest_44 2 rfl rfl ?_
  obtain ⟨q5, hq5, hz⟩ := obind hz
  refine AX.callVw (r := 44) (As := [.int p1]) (rest := [.long ((31 : Int64) * x4)]) (w := some (.int q5.1)) (st' := [.int q5.1, .long ((31 : Int64) * x4)]) dX11_numberDigest_45 mlRX11_180 ylX11_likeliestOf yvX11_likeliestOf rfl rfl rfl (Nat.le_of_ble_eq_true rfl) ⟨Nat.le_of_ble_eq_true rfl, Nat.le_of_ble_eq_true rfl⟩ (xX11_likeliestOf p1 q3.2 hq5) rfl ?_
  refine AX.i2l dX11_numberDigest_48 ?_
  refine AX.ladd dX11_numberDigest_49 ?_
  obtain ⟨x6, hx6, hz⟩ := ltb_e hz
  refine AX.topL hx6 ?_
  refine AX.lstore (ls' := [(0, .ref (G.2.2.1 44)), (1, .long p0), (3, .int p1), (4, .long x6)]) dX11_numberDigest_50 (Nat.le_of_ble_eq_true rfl) rfl ?_
  refine AX.ldc2 dX11_numberDigest_52 kcRX11_286 ?_
  refine AX.lload dX11_numberDigest_55 3 rfl ?_
  refine AX.lmul dX11_numberDigest_57 ?_
  refine AX.aload_n dX11_numberDigest_58 0 rfl rfl ?_
  refine AX.iload_n dX11_numberDigest_59 2 rfl rfl ?_
  refine AX.iconst dX11_numberDigest_60 ic_0 ?_
  obtain ⟨q7, hq7, hz⟩ := obind hz
  refine AX.callVw (r := 44) (As := [.int p1, .int 0]) (rest := [.long ((31 : Int64) * x6)]) (w := some (.long q7.1)) (st' := [.long q7.1, .long ((31 : Int64) * x6)]) dX11_numberDigest_61 mlRX11_183 ylX11_strikeOf yvX11_strikeOf rfl rfl rfl (Nat.le_of_ble_eq_true rfl) ⟨Nat.le_of_ble_eq_true rfl, Nat.le_of_ble_eq_true rfl⟩ (xX11_strikeOf p1 (0 : Int32) q5.2 hq7) rfl ?_
  refine AX.ladd dX11_numberDigest_64 ?_
  obtain ⟨x8, hx8, hz⟩ := ltb_e hz
  refine AX.topL hx8 ?_
  refine AX.lstore (ls' := [(0, .ref (G.2.2.1 44)), (1, .long p0), (3, .int p1), (4, .long x8)]) dX11_numberDigest_65 (Nat.le_of_ble_eq_true rfl) rfl ?_
  refine AX.ldc2 dX11_numberDigest_67 kcRX11_286 ?_
  refine AX.lload dX11_numberDigest_70 3 rfl ?_
  refine AX.lmul dX11_numberDigest_72 ?_
  refine AX.aload_n dX11_numberDigest_73 0 rfl rfl ?_
  refine AX.iload_n dX11_numberDigest_74 2 rfl rfl ?_
  refine AX.iconst dX11_numberDigest_75 ic_1 ?_
  obtain ⟨q9, hq9, hz⟩ := obind hz
  refine AX.callVw (r := 44) (As := [.int p1, .int 1]) (rest := [.long ((31 : Int64) * x8)]) (w := some (.long q9.1)) (st' := [.long q9.1, .long ((31 : Int64) * x8)]) dX11_numberDigest_76 mlRX11_183 ylX11_strikeOf yvX11_strikeOf rfl rfl rfl (Nat.le_of_ble_eq_true rfl) ⟨Nat.le_of_ble_eq_true rfl, Nat.le_of_ble_eq_true rfl⟩ (xX11_strikeOf p1 (1 : Int32) q7.2 hq9) rfl ?_
  refine AX.ladd dX11_numberDigest_79 ?_
  exact AX.lreturn dX11_numberDigest_80 rfl (kz (P := fun z => Q (some (.long z.1)) z.2) hz hk)
theorem xX11_numberDigest {G : ag_G} (p0 : Int64) (p1 : Int32) (σ : St) {z : Int64 × St} (hz : fX11_numberDigest p0 p1 σ = some z) : AC G yX11_numberDigest mX11_numberDigest 8 189 [.ref (G.2.2.1 44), .long p0, .int p1] σ (fun v σ1 => v = some (.long z.1) ∧ σ1 = z.2) := AC.of (plainFor_of_name (by decide)) rfl (Nat.le_of_ble_eq_true rfl) (wfX11_numberDigest p0 p1 σ hz ⟨rfl, rfl⟩)
noncomputable def fX11_digest_b6 (l1 : Int64) (l3 : Int32) (σ : St) : Option ((Int64 × Int32 × St) ⊕ (Int64 × St)) :=
  if (8 : Int32) ≤ l3 then some (.inr (l1, σ)) else (fX11_count l3 σ).bind fun q2 => ltb (((31 : Int64) * l1) + q2.1.toInt64) fun x3 => some (.inl (x3, l3 + 1, q2.2))
theorem wfX11_digest_b6 {G : ag_G} (l1 : Int64) (l3 : Int32) (σ : St) {z : (Int64 × Int32 × St) ⊕ (Int64 × St)} (hz : fX11_digest_b6 l1 l3 σ = some z) {Q : Option Value → St → Prop} (K : ((Int64 × Int32 × St) ⊕ (Int64 × St)) → Prop) (hback : ∀ a : Int64 × Int32 × St, K (.inl a) → AX G mX11_digest 9 214 6 [(0, .ref (G.2.2.1 44)), (1, .long a.1), (3, .int a.2.1)] [] a.2.2 Q) (hexit0 : ∀ a : Int64 × St, K (.inr a) → AX G mX11_digest 9 214 31 [(0, .ref (G.2.2.1 44)), (1, .long a.1)] [] a.2 Q) (hk : K z) : AX G mX11_digest 9 214 6 [(0, .ref (G.2.2.1 44)), (1, .long l1), (3, .int l3)] [] σ Q := by
  unfold fX11_digest_b6 at hz
  refine AX.iload_n dX11_digest_6 2 rfl rfl ?_
  refine AX.bipush dX11_digest_7 bp_8 ?_
  refine AX.icmp_ge (tgt := 31) dX11_digest_9 rfl (fun c1 => ?_) (fun c1 => ?_)
  · replace hz := (if_pos c1).symm.trans hz
    exact AX.sub (ls' := [(0, .ref (G.2.2.1 44)), (1, .long l1)]) [0, 1] rfl (hexit0 (l1, σ) (kz (P := K) hz hk))
  · replace hz := (if_neg c1).symm.trans hz
    refine AX.ldc2 dX11_digest_12 kcRX11_286 ?_
    refine AX.lload_n dX11_digest_15 1 rfl rfl ?_
    refine AX.lmul dX11_digest_16 ?_
    refine AX.aload_n dX11_digest_17 0 rfl rfl ?_
    refine AX.iload_n dX11_digest_18 2 rfl rfl ?_
    obtain ⟨q2, hq2, hz⟩ := obind hz
    refine AX.callVw (r := 44) (As := [.int l3]) (rest := [.long ((31 : Int64) * l1)]) (w := some (.int q2.1)) (st' := [.int q2.1, .long ((31 : Int64) * l1)]) dX11_digest_19 mlRX11_293 ylX11_count yvX11_count rfl rfl rfl (Nat.le_of_ble_eq_true rfl) ⟨Nat.le_of_ble_eq_true rfl, Nat.le_of_ble_eq_true rfl⟩ (xX11_count l3 σ hq2) rfl ?_
    refine AX.i2l dX11_digest_22 ?_
    refine AX.ladd dX11_digest_23 ?_
    obtain ⟨x3, hx3, hz⟩ := ltb_e hz
    refine AX.topL hx3 ?_
    refine AX.lstore_n (ls' := [(0, .ref (G.2.2.1 44)), (1, .long x3), (3, .int l3)]) dX11_digest_24 rfl (Nat.le_of_ble_eq_true rfl) rfl ?_
    refine AX.iinc (v := l3 + 1) (ls' := [(0, .ref (G.2.2.1 44)), (1, .long x3), (3, .int (l3 + 1))]) 2 dX11_digest_25 rfl (Nat.le_of_ble_eq_true rfl) (congrArg (l3 + ·) ic_1) rfl ?_
    refine AX.goto (tgt := 6) dX11_digest_28 rfl ?_
    exact AX.sub (ls' := [(0, .ref (G.2.2.1 44)), (1, .long x3), (3, .int (l3 + 1))]) [0, 1, 2] rfl (hback (x3, l3 + 1, q2.2) (kz (P := K) hz hk))
noncomputable def fX11_digest_b81 (l1 : Int64) (l3 : Int32) (σ : St) : Option ((Int64 × Int32 × St) ⊕ (Int64 × St)) :=
  if (3 : Int32) ≤ l3 then some (.inr (l1, σ)) else (fX11_slips (20 : Int32) l3 (0 : Int32) σ).bind fun q2 => ltb (((31 : Int64) * l1) + q2.1) fun x3 => (fX11_slips (20 : Int32) l3 (1 : Int32) q2.2).bind fun q4 => ltb (((31 : Int64) * x3) + q4.1) fun x5 => some (.inl (x5, l3 + 1, q4.2))
theorem wfX11_digest_b81 {G : ag_G} (l1 : Int64) (l3 : Int32) (σ : St) {z : (Int64 × Int32 × St) ⊕ (Int64 × St)} (hz : fX11_digest_b81 l1 l3 σ = some z) {Q : Option Value → St → Prop} (K : ((Int64 × Int32 × St) ⊕ (Int64 × St)) → Prop) (hback : ∀ a : Int64 × Int32 × St, K (.inl a) → AX G mX11_digest 9 214 81 [(0, .ref (G.2.2.1 44)), (1, .long a.1), (3, .int a.2.1)] [] a.2.2 Q) (hexit0 : ∀ a : Int64 × St, K (.inr a) → AX G mX11_digest 9 214 122 [(0, .ref (G.2.2.1 44)), (1, .long a.1)] [] a.2 Q) (hk : K z) : AX G mX11_digest 9 214 81 [(0, .ref (G.2.2.1 44)), (1, .long l1), (3, .int l3)] [] σ Q := by
  unfold fX11_digest_b81 at hz
  refine AX.iload_n dX11_digest_81 2 rfl rfl ?_
  refine AX.iconst dX11_digest_82 ic_3 ?_
  refine AX.icmp_ge (tgt := 122) dX11_digest_83 rfl (fun c1 => ?_) (fun c1 => ?_)
  · replace hz := (if_pos c1).symm.trans hz
    exact AX.sub (ls' := [(0, .ref (G.2.2.1 44)), (1, .long l1)]) [0, 1] rfl (hexit0 (l1, σ) (kz (P := K) hz hk))
  · replace hz := (if_neg c1).symm.trans hz
    refine AX.ldc2 dX11_digest_86 kcRX11_286 ?_
    refine AX.lload_n dX11_digest_89 1 rfl rfl ?_
    refine AX.lmul dX11_digest_90 ?_
    refine AX.aload_n dX11_digest_91 0 rfl rfl ?_
    refine AX.bipush dX11_digest_92 bp_20 ?_
    refine AX.iload_n dX11_digest_94 2 rfl rfl ?_
    refine AX.iconst dX11_digest_95 ic_0 ?_
    obtain ⟨q2, hq2, hz⟩ := obind hz
    refine AX.callVw (r := 44) (As := [.int 20, .int l3, .int 0]) (rest := [.long ((31 : Int64) * l1)]) (w := some (.long q2.1)) (st' := [.long q2.1, .long ((31 : Int64) * l1)]) dX11_digest_96 mlRX11_300 ylX11_slips yvX11_slips rfl rfl rfl (Nat.le_of_ble_eq_true rfl) ⟨Nat.le_of_ble_eq_true rfl, Nat.le_of_ble_eq_true rfl⟩ (xX11_slips (20 : Int32) l3 (0 : Int32) σ hq2) rfl ?_
    refine AX.ladd dX11_digest_99 ?_
    obtain ⟨x3, hx3, hz⟩ := ltb_e hz
    refine AX.topL hx3 ?_
    refine AX.lstore_n (ls' := [(0, .ref (G.2.2.1 44)), (1, .long x3), (3, .int l3)]) dX11_digest_100 rfl (Nat.le_of_ble_eq_true rfl) rfl ?_
    refine AX.ldc2 dX11_digest_101 kcRX11_286 ?_
    refine AX.lload_n dX11_digest_104 1 rfl rfl ?_
    refine AX.lmul dX11_digest_105 ?_
    refine AX.aload_n dX11_digest_106 0 rfl rfl ?_
    refine AX.bipush dX11_digest_107 bp_20 ?_
    refine AX.iload_n dX11_digest_109 2 rfl rfl ?_
    refine AX.iconst dX11_digest_110 ic_1 ?_
    obtain ⟨q4, hq4, hz⟩ := obind hz
    refine AX.callVw (r := 44) (As := [.int 20, .int l3, .int 1]) (rest := [.long ((31 : Int64) * x3)]) (w := some (.long q4.1)) (st' := [.long q4.1, .long ((31 : Int64) * x3)]) dX11_digest_111 mlRX11_300 ylX11_slips yvX11_slips rfl rfl rfl (Nat.le_of_ble_eq_true rfl) ⟨Nat.le_of_ble_eq_true rfl, Nat.le_of_ble_eq_true rfl⟩ (xX11_slips (20 : Int32) l3 (1 : Int32) q2.2 hq4) rfl ?_
    refine AX.ladd dX11_digest_114 ?_
    obtain ⟨x5, hx5, hz⟩ := ltb_e hz
    refine AX.topL hx5 ?_
    refine AX.lstore_n (ls' := [(0, .ref (G.2.2.1 44)), (1, .long x5), (3, .int l3)]) dX11_digest_115 rfl (Nat.le_of_ble_eq_true rfl) rfl ?_
    refine AX.iinc (v := l3 + 1) (ls' := [(0, .ref (G.2.2.1 44)), (1, .long x5), (3, .int (l3 + 1))]) 2 dX11_digest_116 rfl (Nat.le_of_ble_eq_true rfl) (congrArg (l3 + ·) ic_1) rfl ?_
    refine AX.goto (tgt := 81) dX11_digest_119 rfl ?_
    exact AX.sub (ls' := [(0, .ref (G.2.2.1 44)), (1, .long x5), (3, .int (l3 + 1))]) [0, 1, 2] rfl (hback (x5, l3 + 1, q4.2) (kz (P := K) hz hk))
noncomputable def fX11_digest_b124 (l1 : Int64) (l3 : Int32) (σ : St) : Option ((Int64 × Int32 × St) ⊕ (Int64 × St)) :=
  if (2 : Int32) ≤ l3 then some (.inr (l1, σ)) else (fX11_safe l3 (0 : Int32) σ).bind fun q2 => ltb (((31 : Int64) * l1) + q2.1) fun x3 => (fX11_safe l3 (1 : Int32) q2.2).bind fun q4 => ltb (((31 : Int64) * x3) + q4.1) fun x5 => some (.inl (x5, l3 + 1, q4.2))
theorem wfX11_digest_b124 {G : ag_G} (l1 : Int64) (l3 : Int32) (σ : St) {z : (Int64 × Int32 × St) ⊕ (Int64 × St)} (hz : fX11_digest_b124 l1 l3 σ = some z) {Q : Option Value → St → Prop} (K : ((Int64 × Int32 × St) ⊕ (Int64 × St)) → Prop) (hback : ∀ a : Int64 × Int32 × St, K (.inl a) → AX G mX11_digest 9 214 124 [(0, .ref (G.2.2.1 44)), (1, .long a.1), (3, .int a.2.1)] [] a.2.2 Q) (hexit0 : ∀ a : Int64 × St, K (.inr a) → AX G mX11_digest 9 214 161 [(0, .ref (G.2.2.1 44)), (1, .long a.1)] [] a.2 Q) (hk : K z) : AX G mX11_digest 9 214 124 [(0, .ref (G.2.2.1 44)), (1, .long l1), (3, .int l3)] [] σ Q := by
  unfold fX11_digest_b124 at hz
  refine AX.iload_n dX11_digest_124 2 rfl rfl ?_
  refine AX.iconst dX11_digest_125 ic_2 ?_
  refine AX.icmp_ge (tgt := 161) dX11_digest_126 rfl (fun c1 => ?_) (fun c1 => ?_)
  · replace hz := (if_pos c1).symm.trans hz
    exact AX.sub (ls' := [(0, .ref (G.2.2.1 44)), (1, .long l1)]) [0, 1] rfl (hexit0 (l1, σ) (kz (P := K) hz hk))
  · replace hz := (if_neg c1).symm.trans hz
    refine AX.ldc2 dX11_digest_129 kcRX11_286 ?_
    refine AX.lload_n dX11_digest_132 1 rfl rfl ?_
    refine AX.lmul dX11_digest_133 ?_
    refine AX.aload_n dX11_digest_134 0 rfl rfl ?_
    refine AX.iload_n dX11_digest_135 2 rfl rfl ?_
    refine AX.iconst dX11_digest_136 ic_0 ?_
    obtain ⟨q2, hq2, hz⟩ := obind hz
    refine AX.callVw (r := 44) (As := [.int l3, .int 0]) (rest := [.long ((31 : Int64) * l1)]) (w := some (.long q2.1)) (st' := [.long q2.1, .long ((31 : Int64) * l1)]) dX11_digest_137 mlRX11_303 ylX11_safe yvX11_safe rfl rfl rfl (Nat.le_of_ble_eq_true rfl) ⟨Nat.le_of_ble_eq_true rfl, Nat.le_of_ble_eq_true rfl⟩ (xX11_safe l3 (0 : Int32) σ hq2) rfl ?_
    refine AX.ladd dX11_digest_140 ?_
    obtain ⟨x3, hx3, hz⟩ := ltb_e hz
    refine AX.topL hx3 ?_
    refine AX.lstore_n (ls' := [(0, .ref (G.2.2.1 44)), (1, .long x3), (3, .int l3)]) dX11_digest_141 rfl (Nat.le_of_ble_eq_true rfl) rfl ?_
    refine AX.ldc2 dX11_digest_142 kcRX11_286 ?_
    refine AX.lload_n dX11_digest_145 1 rfl rfl ?_
    refine AX.lmul dX11_digest_146 ?_
    refine AX.aload_n dX11_digest_147 0 rfl rfl ?_
    refine AX.iload_n dX11_digest_148 2 rfl rfl ?_
    refine AX.iconst dX11_digest_149 ic_1 ?_
    obtain ⟨q4, hq4, hz⟩ := obind hz
    refine AX.callVw (r := 44) (As := [.int l3, .int 1]) (rest := [.long ((31 : Int64) * x3)]) (w := some (.long q4.1)) (st' := [.long q4.1, .long ((31 : Int64) * x3)]) dX11_digest_150 mlRX11_303 ylX11_safe yvX11_safe rfl rfl rfl (Nat.le_of_ble_eq_true rfl) ⟨Nat.le_of_ble_eq_true rfl, Nat.le_of_ble_eq_true rfl⟩ (xX11_safe l3 (1 : Int32) q2.2 hq4) rfl ?_
    refine AX.ladd dX11_digest_153 ?_
    obtain ⟨x5, hx5, hz⟩ := ltb_e hz
    refine AX.topL hx5 ?_
    refine AX.lstore_n (ls' := [(0, .ref (G.2.2.1 44)), (1, .long x5), (3, .int l3)]) dX11_digest_154 rfl (Nat.le_of_ble_eq_true rfl) rfl ?_
    refine AX.iinc (v := l3 + 1) (ls' := [(0, .ref (G.2.2.1 44)), (1, .long x5), (3, .int (l3 + 1))]) 2 dX11_digest_155 rfl (Nat.le_of_ble_eq_true rfl) (congrArg (l3 + ·) ic_1) rfl ?_
    refine AX.goto (tgt := 124) dX11_digest_158 rfl ?_
    exact AX.sub (ls' := [(0, .ref (G.2.2.1 44)), (1, .long x5), (3, .int (l3 + 1))]) [0, 1, 2] rfl (hback (x5, l3 + 1, q4.2) (kz (P := K) hz hk))
noncomputable def fX11_digest_b203 (l1 : Int64) (l3 : Int32) (σ : St) : Option ((Int64 × Int32 × St) ⊕ (Int64 × St)) :=
  if (σ.1 44 7) ≤ l3 then some (.inr (l1, σ)) else (fX11_anewOf l3 σ).bind fun q2 => ltb (((31 : Int64) * l1) + q2.1.toInt64) fun x3 => some (.inl (x3, l3 + 1, q2.2))
theorem wfX11_digest_b203 {G : ag_G} (l1 : Int64) (l3 : Int32) (σ : St) {z : (Int64 × Int32 × St) ⊕ (Int64 × St)} (hz : fX11_digest_b203 l1 l3 σ = some z) {Q : Option Value → St → Prop} (K : ((Int64 × Int32 × St) ⊕ (Int64 × St)) → Prop) (hback : ∀ a : Int64 × Int32 × St, K (.inl a) → AX G mX11_digest 9 214 203 [(0, .ref (G.2.2.1 44)), (1, .long a.1), (3, .int a.2.1)] [] a.2.2 Q) (hexit0 : ∀ a : Int64 × St, K (.inr a) → AX G mX11_digest 9 214 230 [(0, .ref (G.2.2.1 44)), (1, .long a.1)] [] a.2 Q) (hk : K z) : AX G mX11_digest 9 214 203 [(0, .ref (G.2.2.1 44)), (1, .long l1), (3, .int l3)] [] σ Q := by
  unfold fX11_digest_b203 at hz
  refine AX.iload_n dX11_digest_203 2 rfl rfl ?_
  refine AX.aload_n dX11_digest_204 0 rfl rfl ?_
  refine AX.getIE (v := σ.1 44 7) dX11_digest_205 flRX11_100 rfl rfl rfl ?_
  refine AX.icmp_ge (tgt := 230) dX11_digest_208 rfl (fun c1 => ?_) (fun c1 => ?_)
  · replace hz := (if_pos c1).symm.trans hz
    exact AX.sub (ls' := [(0, .ref (G.2.2.1 44)), (1, .long l1)]) [0, 1] rfl (hexit0 (l1, σ) (kz (P := K) hz hk))
  · replace hz := (if_neg c1).symm.trans hz
    refine AX.ldc2 dX11_digest_211 kcRX11_286 ?_
    refine AX.lload_n dX11_digest_214 1 rfl rfl ?_
    refine AX.lmul dX11_digest_215 ?_
    refine AX.aload_n dX11_digest_216 0 rfl rfl ?_
    refine AX.iload_n dX11_digest_217 2 rfl rfl ?_
    obtain ⟨q2, hq2, hz⟩ := obind hz
    refine AX.callVw (r := 44) (As := [.int l3]) (rest := [.long ((31 : Int64) * l1)]) (w := some (.int q2.1)) (st' := [.int q2.1, .long ((31 : Int64) * l1)]) dX11_digest_218 mlRX11_236 ylX11_anewOf yvX11_anewOf rfl rfl rfl (Nat.le_of_ble_eq_true rfl) ⟨Nat.le_of_ble_eq_true rfl, Nat.le_of_ble_eq_true rfl⟩ (xX11_anewOf l3 σ hq2) rfl ?_
    refine AX.i2l dX11_digest_221 ?_
    refine AX.ladd dX11_digest_222 ?_
    obtain ⟨x3, hx3, hz⟩ := ltb_e hz
    refine AX.topL hx3 ?_
    refine AX.lstore_n (ls' := [(0, .ref (G.2.2.1 44)), (1, .long x3), (3, .int l3)]) dX11_digest_223 rfl (Nat.le_of_ble_eq_true rfl) rfl ?_
    refine AX.iinc (v := l3 + 1) (ls' := [(0, .ref (G.2.2.1 44)), (1, .long x3), (3, .int (l3 + 1))]) 2 dX11_digest_224 rfl (Nat.le_of_ble_eq_true rfl) (congrArg (l3 + ·) ic_1) rfl ?_
    refine AX.goto (tgt := 203) dX11_digest_227 rfl ?_
    exact AX.sub (ls' := [(0, .ref (G.2.2.1 44)), (1, .long x3), (3, .int (l3 + 1))]) [0, 1, 2] rfl (hback (x3, l3 + 1, q2.2) (kz (P := K) hz hk))
noncomputable def fX11_digest  (σ : St) : Option (Int64 × St) :=
  (lpc (fun s => fX11_digest_b6  s.1 s.2.1 s.2.2) (17, 0, σ)).bind fun r1 => (fX11_faultNow  r1.2).bind fun q2 => ltb (((31 : Int64) * r1.1) + q2.1.toInt64) fun x3 => (fX11_numberDigest x3 (1 : Int32) q2.2).bind fun q4 => (fX11_numberDigest q4.1 (10 : Int32) q4.2).bind fun q5 => (fX11_numberDigest q5.1 (30 : Int32) q5.2).bind fun q6 => (fX11_lineNow  q6.2).bind fun q7 => ltb (((31 : Int64) * q6.1) + q7.1.toInt64) fun x8 => (lpc (fun s => fX11_digest_b81  s.1 s.2.1 s.2.2) (x8, -2, q7.2)).bind fun r9 => (lpc (fun s => fX11_digest_b124  s.1 s.2.1 s.2.2) (r9.1, 0, r9.2)).bind fun r10 => (fX11_write (1 : Int32) r10.2).bind fun q11 => ltb (((31 : Int64) * r10.1) + q11.1.toInt64) fun x12 => (fX11_write (2 : Int32) q11.2).bind fun q13 => ltb (((31 : Int64) * x12) + q13.1.toInt64) fun x14 => (fX11_fewOf (8 : Int32) q13.2).bind fun q15 => ltb (((31 : Int64) * x14) + q15.1.toInt64) fun x16 => (lpc (fun s => fX11_digest_b203  s.1 s.2.1 s.2.2) (x16, 0, q15.2)).bind fun r17 => (fX11_joint (9 : Int32) (12 : Int32) (0 : Int32)).bind fun q18 => ltb (((31 : Int64) * r17.1) + q18) fun x19 => (fX11_joint (9 : Int32) (12 : Int32) (1 : Int32)).bind fun q20 => ltb (((31 : Int64) * x19) + q20) fun x21 => (fX11_eveningOf (0 : Int32) (0 : Int32) r17.2).bind fun q22 => ltb (((31 : Int64) * x21) + q22.1) fun x23 => (fX11_eveningOf (0 : Int32) (1 : Int32) q22.2).bind fun q24 => ltb (((31 : Int64) * x23) + q24.1) fun x25 => (fX11_eveningOf (9 : Int32) (0 : Int32) q24.2).bind fun q26 => ltb (((31 : Int64) * x25) + q26.1) fun x27 => (fX11_eveningOf (9 : Int32) (1 : Int32) q26.2).bind fun q28 => ltb (((31 : Int64) * x27) + q28.1) fun x29 => (fX11_primeOf (0 : Int32) q28.2).bind fun q30 => ltb (((31 : Int64) * x29) + q30.1.toInt64) fun x31 => (fX11_primeOf (1 : Int32) q30.2).bind fun q32 => ltb (((31 : Int64) * x31) + q32.1.toInt64) fun x33 => (fX11_worthOf (0 : Int32) q32.2).bind fun q34 => ltb (((31 : Int64) * x33) + q34.1.toInt64) fun x35 => (fX11_worthOf (1 : Int32) q34.2).bind fun q36 => ltb (((31 : Int64) * x35) + q36.1.toInt64) fun x37 => (fX11_lookOf (9 : Int32) q36.2).bind fun q38 => ltb (((31 : Int64) * x37) + q38.1.toInt64) fun x39 => (fX11_wrongOf (0 : Int32) q38.2).bind fun q40 => ltb (((31 : Int64) * x39) + q40.toInt64) fun x41 => (fX11_wrongOf (1 : Int32) q38.2).bind fun q42 => ltb (((31 : Int64) * x41) + q42.toInt64) fun x43 => (fX11_blameNow  q38.2).bind fun q44 => ltb (((31 : Int64) * x43) + q44.1.toInt64) fun x45 => (fX11_nightOf (7 : Int32) (0 : Int32) q44.2).bind fun q46 => ltb (((31 : Int64) * x45) + q46.1.toInt64) fun x47 => (fX11_nightOf (7 : Int32) (20 : Int32) q46.2).bind fun q48 => some ((((31 : Int64) * x47) + q48.1.toInt64), q48.2)
theorem wfX11_digest {G : ag_G}  (σ : St) {z : Int64 × St} (hz : fX11_digest  σ = some z) {Q : Option Value → St → Prop} (hk : Q (some (.long z.1)) z.2) : AX G mX11_digest 9 214 0 [(0, .ref (G.2.2.1 44))] [] σ Q := by
  unfold fX11_digest at hz
  refine AX.ldc2 dX11_digest_0 kcRX11_291 ?_
  refine AX.lstore_n (ls' := [(0, .ref (G.2.2.1 44)), (1, .long 17)]) dX11_digest_3 rfl (Nat.le_of_ble_eq_true rfl) rfl ?_
  refine AX.iconst dX11_digest_4 ic_0 ?_
  refine AX.istore_n (ls' := [(0, .ref (G.2.2.1 44)), (1, .long 17), (3, .int 0)]) dX11_digest_5 rfl (Nat.le_of_ble_eq_true rfl) rfl ?_
  obtain ⟨r1, hr1, hz⟩ := obind hz
  refine AX.sub (ls' := [(0, .ref (G.2.2.1 44)), (1, .long 17), (3, .int 0)]) [0, 1, 2] rfl ?_
  refine lpc_ind (s := (17, 0, σ)) (r := r1) (fun s => AX G mX11_digest 9 214 6 [(0, .ref (G.2.2.1 44)), (1, .long s.1), (3, .int s.2.1)] [] s.2.2 Q) (fun a : Int64 × St => AX G mX11_digest 9 214 31 [(0, .ref (G.2.2.1 44)), (1, .long a.1)] [] a.2 Q) hr1 (fun s z hb hK => wfX11_digest_b6  s.1 s.2.1 s.2.2 hb (Sum.elim (fun s => AX G mX11_digest 9 214 6 [(0, .ref (G.2.2.1 44)), (1, .long s.1), (3, .int s.2.1)] [] s.2.2 Q) (fun a : Int64 × St => AX G mX11_digest 9 214 31 [(0, .ref (G.2.2.1 44)), (1, .long a.1)] [] a.2 Q)) (fun _ h9 => h9) (fun _ h9 => h9) hK) ?_
  refine AX.ldc2 dX11_digest_31 kcRX11_286 ?_
  refine AX.lload_n dX11_digest_34 1 rfl rfl ?_
  refine AX.lmul dX11_digest_35 ?_
  refine AX.aload_n dX11_digest_36 0 rfl rfl ?_
  obtain ⟨q2, hq2, hz⟩ := obind hz
  refine AX.callVw (r := 44) (As := []) (rest := [.long ((31 : Int64) * r1.1)]) (w := some (.int q2.1)) (st' := [.int q2.1, .long ((31 : Int64) * r1.1)]) dX11_digest_37 mlRX11_118 ylX11_faultNow yvX11_faultNow rfl rfl rfl (Nat.le_of_ble_eq_true rfl) ⟨Nat.le_of_ble_eq_true rfl, Nat.le_of_ble_eq_true rfl⟩ (xX11_faultNow  r1.2 hq2) rfl ?_
  refine AX.i2l dX11_digest_40 ?_
  refine AX.ladd dX11_digest_41 ?_
  obtain ⟨x3, hx3, hz⟩ := ltb_e hz
  refine AX.topL hx3 ?_
  refine AX.lstore_n (ls' := [(0, .ref (G.2.2.1 44)), (1, .long x3)]) dX11_digest_42 rfl (Nat.le_of_ble_eq_true rfl) rfl ?_
  refine AX.aload_n dX11_digest_43 0 rfl rfl ?_
  refine AX.lload_n dX11_digest_44 1 rfl rfl ?_
  refine AX.iconst dX11_digest_45 ic_1 ?_
  obtain ⟨q4, hq4, hz⟩ := obind hz
  refine AX.callVw (r := 44) (As := [.long x3, .int 1]) (rest := []) (w := some (.long q4.1)) (st' := [.long q4.1]) dX11_digest_46 mlRX11_296 ylX11_numberDigest yvX11_numberDigest rfl rfl rfl (Nat.le_of_ble_eq_true rfl) ⟨Nat.le_of_ble_eq_true rfl, Nat.le_of_ble_eq_true rfl⟩ (xX11_numberDigest x3 (1 : Int32) q2.2 hq4) rfl ?_
  refine AX.lstore_n (ls' := [(0, .ref (G.2.2.1 44)), (1, .long q4.1)]) dX11_digest_49 rfl (Nat.le_of_ble_eq_true rfl) rfl ?_
  refine AX.aload_n dX11_digest_50 0 rfl rfl ?_
  refine AX.lload_n dX11_digest_51 1 rfl rfl ?_
  refine AX.bipush dX11_digest_52 bp_10 ?_
  obtain ⟨q5, hq5, hz⟩ := obind hz
  refine AX.callVw (r := 44) (As := [.long q4.1, .int 10]) (rest := []) (w := some (.long q5.1)) (st' := [.long q5.1]) dX11_digest_54 mlRX11_296 ylX11_numberDigest yvX11_numberDigest rfl rfl rfl (Nat.le_of_ble_eq_true rfl) ⟨Nat.le_of_ble_eq_true rfl, Nat.le_of_ble_eq_true rfl⟩ (xX11_numberDigest q4.1 (10 : Int32) q4.2 hq5) rfl ?_
  refine AX.lstore_n (ls' := [(0, .ref (G.2.2.1 44)), (1, .long q5.1)]) dX11_digest_57 rfl (Nat.le_of_ble_eq_true rfl) rfl ?_
  refine AX.aload_n dX11_digest_58 0 rfl rfl ?_
  refine AX.lload_n dX11_digest_59 1 rfl rfl ?_
  refine AX.bipush dX11_digest_60 bp_30 ?_
  obtain ⟨q6, hq6, hz⟩ := obind hz
  refine AX.callVw (r := 44) (As := [.long q5.1, .int 30]) (rest := []) (w := some (.long q6.1)) (st' := [.long q6.1]) dX11_digest_62 mlRX11_296 ylX11_numberDigest yvX11_numberDigest rfl rfl rfl (Nat.le_of_ble_eq_true rfl) ⟨Nat.le_of_ble_eq_true rfl, Nat.le_of_ble_eq_true rfl⟩ (xX11_numberDigest q5.1 (30 : Int32) q5.2 hq6) rfl ?_
  refine AX.lstore_n (ls' := [(0, .ref (G.2.2.1 44)), (1, .long q6.1)]) dX11_digest_65 rfl (Nat.le_of_ble_eq_true rfl) rfl ?_
  refine AX.ldc2 dX11_digest_66 kcRX11_286 ?_
  refine AX.lload_n dX11_digest_69 1 rfl rfl ?_
  refine AX.lmul dX11_digest_70 ?_
  refine AX.aload_n dX11_digest_71 0 rfl rfl ?_
  obtain ⟨q7, hq7, hz⟩ := obind hz
  refine AX.callVw (r := 44) (As := []) (rest := [.long ((31 : Int64) * q6.1)]) (w := some (.int q7.1)) (st' := [.int q7.1, .long ((31 : Int64) * q6.1)]) dX11_digest_72 mlRX11_190 ylX11_lineNow yvX11_lineNow rfl rfl rfl (Nat.le_of_ble_eq_true rfl) ⟨Nat.le_of_ble_eq_true rfl, Nat.le_of_ble_eq_true rfl⟩ (xX11_lineNow  q6.2 hq7) rfl ?_
  refine AX.i2l dX11_digest_75 ?_
  refine AX.ladd dX11_digest_76 ?_
  obtain ⟨x8, hx8, hz⟩ := ltb_e hz
  refine AX.topL hx8 ?_
  refine AX.lstore_n (ls' := [(0, .ref (G.2.2.1 44)), (1, .long x8)]) dX11_digest_77 rfl (Nat.le_of_ble_eq_true rfl) rfl ?_
  refine AX.bipush dX11_digest_78 bp_m2 ?_
  refine AX.istore_n (ls' := [(0, .ref (G.2.2.1 44)), (1, .long x8), (3, .int (-2))]) dX11_digest_80 rfl (Nat.le_of_ble_eq_true rfl) rfl ?_
  obtain ⟨r9, hr9, hz⟩ := obind hz
  refine AX.sub (ls' := [(0, .ref (G.2.2.1 44)), (1, .long x8), (3, .int (-2))]) [0, 1, 2] rfl ?_
  refine lpc_ind (s := (x8, -2, q7.2)) (r := r9) (fun s => AX G mX11_digest 9 214 81 [(0, .ref (G.2.2.1 44)), (1, .long s.1), (3, .int s.2.1)] [] s.2.2 Q) (fun a : Int64 × St => AX G mX11_digest 9 214 122 [(0, .ref (G.2.2.1 44)), (1, .long a.1)] [] a.2 Q) hr9 (fun s z hb hK => wfX11_digest_b81  s.1 s.2.1 s.2.2 hb (Sum.elim (fun s => AX G mX11_digest 9 214 81 [(0, .ref (G.2.2.1 44)), (1, .long s.1), (3, .int s.2.1)] [] s.2.2 Q) (fun a : Int64 × St => AX G mX11_digest 9 214 122 [(0, .ref (G.2.2.1 44)), (1, .long a.1)] [] a.2 Q)) (fun _ h9 => h9) (fun _ h9 => h9) hK) ?_
  refine AX.iconst dX11_digest_122 ic_0 ?_
  refine AX.istore_n (ls' := [(0, .ref (G.2.2.1 44)), (1, .long r9.1), (3, .int 0)]) dX11_digest_123 rfl (Nat.le_of_ble_eq_true rfl) rfl ?_
  obtain ⟨r10, hr10, hz⟩ := obind hz
  refine AX.sub (ls' := [(0, .ref (G.2.2.1 44)), (1, .long r9.1), (3, .int 0)]) [0, 1, 2] rfl ?_
  refine lpc_ind (s := (r9.1, 0, r9.2)) (r := r10) (fun s => AX G mX11_digest 9 214 124 [(0, .ref (G.2.2.1 44)), (1, .long s.1), (3, .int s.2.1)] [] s.2.2 Q) (fun a : Int64 × St => AX G mX11_digest 9 214 161 [(0, .ref (G.2.2.1 44)), (1, .long a.1)] [] a.2 Q) hr10 (fun s z hb hK => wfX11_digest_b124  s.1 s.2.1 s.2.2 hb (Sum.elim (fun s => AX G mX11_digest 9 214 124 [(0, .ref (G.2.2.1 44)), (1, .long s.1), (3, .int s.2.1)] [] s.2.2 Q) (fun a : Int64 × St => AX G mX11_digest 9 214 161 [(0, .ref (G.2.2.1 44)), (1, .long a.1)] [] a.2 Q)) (fun _ h9 => h9) (fun _ h9 => h9) hK) ?_
  refine AX.ldc2 dX11_digest_161 kcRX11_286 ?_
  refine AX.lload_n dX11_digest_164 1 rfl rfl ?_
  refine AX.lmul dX11_digest_165 ?_
  refine AX.aload_n dX11_digest_166 0 rfl rfl ?_
  refine AX.iconst dX11_digest_167 ic_1 ?_
  obtain ⟨q11, hq11, hz⟩ := obind hz
  refine AX.callVw (r := 44) (As := [.int 1]) (rest := [.long ((31 : Int64) * r10.1)]) (w := some (.int q11.1)) (st' := [.int q11.1, .long ((31 : Int64) * r10.1)]) dX11_digest_168 mlRX11_306 ylX11_write yvX11_write rfl rfl rfl (Nat.le_of_ble_eq_true rfl) ⟨Nat.le_of_ble_eq_true rfl, Nat.le_of_ble_eq_true rfl⟩ (xX11_write (1 : Int32) r10.2 hq11) rfl ?_
  refine AX.i2l dX11_digest_171 ?_
  refine AX.ladd dX11_digest_172 ?_
  obtain ⟨x12, hx12, hz⟩ := ltb_e hz
  refine AX.topL hx12 ?_
  refine AX.lstore_n (ls' := [(0, .ref (G.2.2.1 44)), (1, .long x12)]) dX11_digest_173 rfl (Nat.le_of_ble_eq_true rfl) rfl ?_
  refine AX.ldc2 dX11_digest_174 kcRX11_286 ?_
  refine AX.lload_n dX11_digest_177 1 rfl rfl ?_
  refine AX.lmul dX11_digest_178 ?_
  refine AX.aload_n dX11_digest_179 0 rfl rfl ?_
  refine AX.iconst dX11_digest_180 ic_2 ?_
  obtain ⟨q13, hq13, hz⟩ := obind hz
  refine AX.callVw (r := 44) (As := [.int 2]) (rest := [.long ((31 : Int64) * x12)]) (w := some (.int q13.1)) (st' := [.int q13.1, .long ((31 : Int64) * x12)]) dX11_digest_181 mlRX11_306 ylX11_write yvX11_write rfl rfl rfl (Nat.le_of_ble_eq_true rfl) ⟨Nat.le_of_ble_eq_true rfl, Nat.le_of_ble_eq_true rfl⟩ (xX11_write (2 : Int32) q11.2 hq13) rfl ?_
  refine AX.i2l dX11_digest_184 ?_
  refine AX.ladd dX11_digest_185 ?_
  obtain ⟨x14, hx14, hz⟩ := ltb_e hz
  refine AX.topL hx14 ?_
  refine AX.lstore_n (ls' := [(0, .ref (G.2.2.1 44)), (1, .long x14)]) dX11_digest_186 rfl (Nat.le_of_ble_eq_true rfl) rfl ?_
  refine AX.ldc2 dX11_digest_187 kcRX11_286 ?_
  refine AX.lload_n dX11_digest_190 1 rfl rfl ?_
  refine AX.lmul dX11_digest_191 ?_
  refine AX.aload_n dX11_digest_192 0 rfl rfl ?_
  refine AX.bipush dX11_digest_193 bp_8 ?_
  obtain ⟨q15, hq15, hz⟩ := obind hz
  refine AX.callVw (r := 44) (As := [.int 8]) (rest := [.long ((31 : Int64) * x14)]) (w := some (.int q15.1)) (st' := [.int q15.1, .long ((31 : Int64) * x14)]) dX11_digest_195 mlRX11_233 ylX11_fewOf yvX11_fewOf rfl rfl rfl (Nat.le_of_ble_eq_true rfl) ⟨Nat.le_of_ble_eq_true rfl, Nat.le_of_ble_eq_true rfl⟩ (xX11_fewOf (8 : Int32) q13.2 hq15) rfl ?_
  refine AX.i2l dX11_digest_198 ?_
  refine AX.ladd dX11_digest_199 ?_
  obtain ⟨x16, hx16, hz⟩ := ltb_e hz
  refine AX.topL hx16 ?_
  refine AX.lstore_n (ls' := [(0, .ref (G.2.2.1 44)), (1, .long x16)]) dX11_digest_200 rfl (Nat.le_of_ble_eq_true rfl) rfl ?_
  refine AX.iconst dX11_digest_201 ic_0 ?_
  refine AX.istore_n (ls' := [(0, .ref (G.2.2.1 44)), (1, .long x16), (3, .int 0)]) dX11_digest_202 rfl (Nat.le_of_ble_eq_true rfl) rfl ?_
  obtain ⟨r17, hr17, hz⟩ := obind hz
  refine AX.sub (ls' := [(0, .ref (G.2.2.1 44)), (1, .long x16), (3, .int 0)]) [0, 1, 2] rfl ?_
  refine lpc_ind (s := (x16, 0, q15.2)) (r := r17) (fun s => AX G mX11_digest 9 214 203 [(0, .ref (G.2.2.1 44)), (1, .long s.1), (3, .int s.2.1)] [] s.2.2 Q) (fun a : Int64 × St => AX G mX11_digest 9 214 230 [(0, .ref (G.2.2.1 44)), (1, .long a.1)] [] a.2 Q) hr17 (fun s z hb hK => wfX11_digest_b203  s.1 s.2.1 s.2.2 hb (Sum.elim (fun s => AX G mX11_digest 9 214 203 [(0, .ref (G.2.2.1 44)), (1, .long s.1), (3, .int s.2.1)] [] s.2.2 Q) (fun a : Int64 × St => AX G mX11_digest 9 214 230 [(0, .ref (G.2.2.1 44)), (1, .long a.1)] [] a.2 Q)) (fun _ h9 => h9) (fun _ h9 => h9) hK) ?_
  refine AX.ldc2 dX11_digest_230 kcRX11_286 ?_
  refine AX.lload_n dX11_digest_233 1 rfl rfl ?_
  refine AX.lmul dX11_digest_234 ?_
  refine AX.aload_n dX11_digest_235 0 rfl rfl ?_
  refine AX.bipush dX11_digest_236 bp_9 ?_
  refine AX.bipush dX11_digest_238 bp_12 ?_
  refine AX.iconst dX11_digest_240 ic_0 ?_
  obtain ⟨q18, hq18, hz⟩ := obind hz
  refine AX.callVw (r := 44) (As := [.int 9, .int 12, .int 0]) (rest := [.long ((31 : Int64) * r17.1)]) (w := some (.long q18)) (st' := [.long q18, .long ((31 : Int64) * r17.1)]) dX11_digest_241 mlRX11_309 ylX11_joint yvX11_joint rfl rfl rfl (Nat.le_of_ble_eq_true rfl) ⟨Nat.le_of_ble_eq_true rfl, Nat.le_of_ble_eq_true rfl⟩ (xX11_joint (9 : Int32) (12 : Int32) (0 : Int32) r17.2 hq18) rfl ?_
  refine AX.ladd dX11_digest_244 ?_
  obtain ⟨x19, hx19, hz⟩ := ltb_e hz
  refine AX.topL hx19 ?_
  refine AX.lstore_n (ls' := [(0, .ref (G.2.2.1 44)), (1, .long x19)]) dX11_digest_245 rfl (Nat.le_of_ble_eq_true rfl) rfl ?_
  refine AX.ldc2 dX11_digest_246 kcRX11_286 ?_
  refine AX.lload_n dX11_digest_249 1 rfl rfl ?_
  refine AX.lmul dX11_digest_250 ?_
  refine AX.aload_n dX11_digest_251 0 rfl rfl ?_
  refine AX.bipush dX11_digest_252 bp_9 ?_
  refine AX.bipush dX11_digest_254 bp_12 ?_
  refine AX.iconst dX11_digest_256 ic_1 ?_
  obtain ⟨q20, hq20, hz⟩ := obind hz
  refine AX.callVw (r := 44) (As := [.int 9, .int 12, .int 1]) (rest := [.long ((31 : Int64) * x19)]) (w := some (.long q20)) (st' := [.long q20, .long ((31 : Int64) * x19)]) dX11_digest_257 mlRX11_309 ylX11_joint yvX11_joint rfl rfl rfl (Nat.le_of_ble_eq_true rfl) ⟨Nat.le_of_ble_eq_true rfl, Nat.le_of_ble_eq_true rfl⟩ (xX11_joint (9 : Int32) (12 : Int32) (1 : Int32) r17.2 hq20) rfl ?_
  refine AX.ladd dX11_digest_260 ?_
  obtain ⟨x21, hx21, hz⟩ := ltb_e hz
  refine AX.topL hx21 ?_
  refine AX.lstore_n (ls' := [(0, .ref (G.2.2.1 44)), (1, .long x21)]) dX11_digest_261 rfl (Nat.le_of_ble_eq_true rfl) rfl ?_
  refine AX.ldc2 dX11_digest_262 kcRX11_286 ?_
  refine AX.lload_n dX11_digest_265 1 rfl rfl ?_
  refine AX.lmul dX11_digest_266 ?_
  refine AX.aload_n dX11_digest_267 0 rfl rfl ?_
  refine AX.iconst dX11_digest_268 ic_0 ?_
  refine AX.iconst dX11_digest_269 ic_0 ?_
  obtain ⟨q22, hq22, hz⟩ := obind hz
  refine AX.callVw (r := 44) (As := [.int 0, .int 0]) (rest := [.long ((31 : Int64) * x21)]) (w := some (.long q22.1)) (st' := [.long q22.1, .long ((31 : Int64) * x21)]) dX11_digest_270 mlRX11_242 ylX11_eveningOf yvX11_eveningOf rfl rfl rfl (Nat.le_of_ble_eq_true rfl) ⟨Nat.le_of_ble_eq_true rfl, Nat.le_of_ble_eq_true rfl⟩ (xX11_eveningOf (0 : Int32) (0 : Int32) r17.2 hq22) rfl ?_
  refine AX.ladd dX11_digest_273 ?_
  obtain ⟨x23, hx23, hz⟩ := ltb_e hz
  refine AX.topL hx23 ?_
  refine AX.lstore_n (ls' := [(0, .ref (G.2.2.1 44)), (1, .long x23)]) dX11_digest_274 rfl (Nat.le_of_ble_eq_true rfl) rfl ?_
  refine AX.ldc2 dX11_digest_275 kcRX11_286 ?_
  refine AX.lload_n dX11_digest_278 1 rfl rfl ?_
  refine AX.lmul dX11_digest_279 ?_
  refine AX.aload_n dX11_digest_280 0 rfl rfl ?_
  refine AX.iconst dX11_digest_281 ic_0 ?_
  refine AX.iconst dX11_digest_282 ic_1 ?_
  obtain ⟨q24, hq24, hz⟩ := obind hz
  refine AX.callVw (r := 44) (As := [.int 0, .int 1]) (rest := [.long ((31 : Int64) * x23)]) (w := some (.long q24.1)) (st' := [.long q24.1, .long ((31 : Int64) * x23)]) dX11_digest_283 mlRX11_242 ylX11_eveningOf yvX11_eveningOf rfl rfl rfl (Nat.le_of_ble_eq_true rfl) ⟨Nat.le_of_ble_eq_true rfl, Nat.le_of_ble_eq_true rfl⟩ (xX11_eveningOf (0 : Int32) (1 : Int32) q22.2 hq24) rfl ?_
  refine AX.ladd dX11_digest_286 ?_
  obtain ⟨x25, hx25, hz⟩ := ltb_e hz
  refine AX.topL hx25 ?_
  refine AX.lstore_n (ls' := [(0, .ref (G.2.2.1 44)), (1, .long x25)]) dX11_digest_287 rfl (Nat.le_of_ble_eq_true rfl) rfl ?_
  refine AX.ldc2 dX11_digest_288 kcRX11_286 ?_
  refine AX.lload_n dX11_digest_291 1 rfl rfl ?_
  refine AX.lmul dX11_digest_292 ?_
  refine AX.aload_n dX11_digest_293 0 rfl rfl ?_
  refine AX.bipush dX11_digest_294 bp_9 ?_
  refine AX.iconst dX11_digest_296 ic_0 ?_
  obtain ⟨q26, hq26, hz⟩ := obind hz
  refine AX.callVw (r := 44) (As := [.int 9, .int 0]) (rest := [.long ((31 : Int64) * x25)]) (w := some (.long q26.1)) (st' := [.long q26.1, .long ((31 : Int64) * x25)]) dX11_digest_297 mlRX11_242 ylX11_eveningOf yvX11_eveningOf rfl rfl rfl (Nat.le_of_ble_eq_true rfl) ⟨Nat.le_of_ble_eq_true rfl, Nat.le_of_ble_eq_true rfl⟩ (xX11_eveningOf (9 : Int32) (0 : Int32) q24.2 hq26) rfl ?_
  refine AX.ladd dX11_digest_300 ?_
  obtain ⟨x27, hx27, hz⟩ := ltb_e hz
  refine AX.topL hx27 ?_
  refine AX.lstore_n (ls' := [(0, .ref (G.2.2.1 44)), (1, .long x27)]) dX11_digest_301 rfl (Nat.le_of_ble_eq_true rfl) rfl ?_
  refine AX.ldc2 dX11_digest_302 kcRX11_286 ?_
  refine AX.lload_n dX11_digest_305 1 rfl rfl ?_
  refine AX.lmul dX11_digest_306 ?_
  refine AX.aload_n dX11_digest_307 0 rfl rfl ?_
  refine AX.bipush dX11_digest_308 bp_9 ?_
  refine AX.iconst dX11_digest_310 ic_1 ?_
  obtain ⟨q28, hq28, hz⟩ := obind hz
  refine AX.callVw (r := 44) (As := [.int 9, .int 1]) (rest := [.long ((31 : Int64) * x27)]) (w := some (.long q28.1)) (st' := [.long q28.1, .long ((31 : Int64) * x27)]) dX11_digest_311 mlRX11_242 ylX11_eveningOf yvX11_eveningOf rfl rfl rfl (Nat.le_of_ble_eq_true rfl) ⟨Nat.le_of_ble_eq_true rfl, Nat.le_of_ble_eq_true rfl⟩ (xX11_eveningOf (9 : Int32) (1 : Int32) q26.2 hq28) rfl ?_
  refine AX.ladd dX11_digest_314 ?_
  obtain ⟨x29, hx29, hz⟩ := ltb_e hz
  refine AX.topL hx29 ?_
  refine AX.lstore_n (ls' := [(0, .ref (G.2.2.1 44)), (1, .long x29)]) dX11_digest_315 rfl (Nat.le_of_ble_eq_true rfl) rfl ?_
  refine AX.ldc2 dX11_digest_316 kcRX11_286 ?_
  refine AX.lload_n dX11_digest_319 1 rfl rfl ?_
  refine AX.lmul dX11_digest_320 ?_
  refine AX.aload_n dX11_digest_321 0 rfl rfl ?_
  refine AX.iconst dX11_digest_322 ic_0 ?_
  obtain ⟨q30, hq30, hz⟩ := obind hz
  refine AX.callVw (r := 44) (As := [.int 0]) (rest := [.long ((31 : Int64) * x29)]) (w := some (.int q30.1)) (st' := [.int q30.1, .long ((31 : Int64) * x29)]) dX11_digest_323 mlRX11_245 ylX11_primeOf yvX11_primeOf rfl rfl rfl (Nat.le_of_ble_eq_true rfl) ⟨Nat.le_of_ble_eq_true rfl, Nat.le_of_ble_eq_true rfl⟩ (xX11_primeOf (0 : Int32) q28.2 hq30) rfl ?_
  refine AX.i2l dX11_digest_326 ?_
  refine AX.ladd dX11_digest_327 ?_
  obtain ⟨x31, hx31, hz⟩ := ltb_e hz
  refine AX.topL hx31 ?_
  refine AX.lstore_n (ls' := [(0, .ref (G.2.2.1 44)), (1, .long x31)]) dX11_digest_328 rfl (Nat.le_of_ble_eq_true rfl) rfl ?_
  refine AX.ldc2 dX11_digest_329 kcRX11_286 ?_
  refine AX.lload_n dX11_digest_332 1 rfl rfl ?_
  refine AX.lmul dX11_digest_333 ?_
  refine AX.aload_n dX11_digest_334 0 rfl rfl ?_
  refine AX.iconst dX11_digest_335 ic_1 ?_
  obtain ⟨q32, hq32, hz⟩ := obind hz
  refine AX.callVw (r := 44) (As := [.int 1]) (rest := [.long ((31 : Int64) * x31)]) (w := some (.int q32.1)) (st' := [.int q32.1, .long ((31 : Int64) * x31)]) dX11_digest_336 mlRX11_245 ylX11_primeOf yvX11_primeOf rfl rfl rfl (Nat.le_of_ble_eq_true rfl) ⟨Nat.le_of_ble_eq_true rfl, Nat.le_of_ble_eq_true rfl⟩ (xX11_primeOf (1 : Int32) q30.2 hq32) rfl ?_
  refine AX.i2l dX11_digest_339 ?_
  refine AX.ladd dX11_digest_340 ?_
  obtain ⟨x33, hx33, hz⟩ := ltb_e hz
  refine AX.topL hx33 ?_
  refine AX.lstore_n (ls' := [(0, .ref (G.2.2.1 44)), (1, .long x33)]) dX11_digest_341 rfl (Nat.le_of_ble_eq_true rfl) rfl ?_
  refine AX.ldc2 dX11_digest_342 kcRX11_286 ?_
  refine AX.lload_n dX11_digest_345 1 rfl rfl ?_
  refine AX.lmul dX11_digest_346 ?_
  refine AX.aload_n dX11_digest_347 0 rfl rfl ?_
  refine AX.iconst dX11_digest_348 ic_0 ?_
  obtain ⟨q34, hq34, hz⟩ := obind hz
  refine AX.callVw (r := 44) (As := [.int 0]) (rest := [.long ((31 : Int64) * x33)]) (w := some (.int q34.1)) (st' := [.int q34.1, .long ((31 : Int64) * x33)]) dX11_digest_349 mlRX11_254 ylX11_worthOf yvX11_worthOf rfl rfl rfl (Nat.le_of_ble_eq_true rfl) ⟨Nat.le_of_ble_eq_true rfl, Nat.le_of_ble_eq_true rfl⟩ (xX11_worthOf (0 : Int32) q32.2 hq34) rfl ?_
  refine AX.i2l dX11_digest_352 ?_
  refine AX.ladd dX11_digest_353 ?_
  obtain ⟨x35, hx35, hz⟩ := ltb_e hz
  refine AX.topL hx35 ?_
  refine AX.lstore_n (ls' := [(0, .ref (G.2.2.1 44)), (1, .long x35)]) dX11_digest_354 rfl (Nat.le_of_ble_eq_true rfl) rfl ?_
  refine AX.ldc2 dX11_digest_355 kcRX11_286 ?_
  refine AX.lload_n dX11_digest_358 1 rfl rfl ?_
  refine AX.lmul dX11_digest_359 ?_
  refine AX.aload_n dX11_digest_360 0 rfl rfl ?_
  refine AX.iconst dX11_digest_361 ic_1 ?_
  obtain ⟨q36, hq36, hz⟩ := obind hz
  refine AX.callVw (r := 44) (As := [.int 1]) (rest := [.long ((31 : Int64) * x35)]) (w := some (.int q36.1)) (st' := [.int q36.1, .long ((31 : Int64) * x35)]) dX11_digest_362 mlRX11_254 ylX11_worthOf yvX11_worthOf rfl rfl rfl (Nat.le_of_ble_eq_true rfl) ⟨Nat.le_of_ble_eq_true rfl, Nat.le_of_ble_eq_true rfl⟩ (xX11_worthOf (1 : Int32) q34.2 hq36) rfl ?_
  refine AX.i2l dX11_digest_365 ?_
  refine AX.ladd dX11_digest_366 ?_
  obtain ⟨x37, hx37, hz⟩ := ltb_e hz
  refine AX.topL hx37 ?_
  refine AX.lstore_n (ls' := [(0, .ref (G.2.2.1 44)), (1, .long x37)]) dX11_digest_367 rfl (Nat.le_of_ble_eq_true rfl) rfl ?_
  refine AX.ldc2 dX11_digest_368 kcRX11_286 ?_
  refine AX.lload_n dX11_digest_371 1 rfl rfl ?_
  refine AX.lmul dX11_digest_372 ?_
  refine AX.aload_n dX11_digest_373 0 rfl rfl ?_
  refine AX.bipush dX11_digest_374 bp_9 ?_
  obtain ⟨q38, hq38, hz⟩ := obind hz
  refine AX.callVw (r := 44) (As := [.int 9]) (rest := [.long ((31 : Int64) * x37)]) (w := some (.int q38.1)) (st' := [.int q38.1, .long ((31 : Int64) * x37)]) dX11_digest_376 mlRX11_257 ylX11_lookOf yvX11_lookOf rfl rfl rfl (Nat.le_of_ble_eq_true rfl) ⟨Nat.le_of_ble_eq_true rfl, Nat.le_of_ble_eq_true rfl⟩ (xX11_lookOf (9 : Int32) q36.2 hq38) rfl ?_
  refine AX.i2l dX11_digest_379 ?_
  refine AX.ladd dX11_digest_380 ?_
  obtain ⟨x39, hx39, hz⟩ := ltb_e hz
  refine AX.topL hx39 ?_
  refine AX.lstore_n (ls' := [(0, .ref (G.2.2.1 44)), (1, .long x39)]) dX11_digest_381 rfl (Nat.le_of_ble_eq_true rfl) rfl ?_
  refine AX.ldc2 dX11_digest_382 kcRX11_286 ?_
  refine AX.lload_n dX11_digest_385 1 rfl rfl ?_
  refine AX.lmul dX11_digest_386 ?_
  refine AX.aload_n dX11_digest_387 0 rfl rfl ?_
  refine AX.iconst dX11_digest_388 ic_0 ?_
  obtain ⟨q40, hq40, hz⟩ := obind hz
  refine AX.callVw (r := 44) (As := [.int 0]) (rest := [.long ((31 : Int64) * x39)]) (w := some (.int q40)) (st' := [.int q40, .long ((31 : Int64) * x39)]) dX11_digest_389 mlRX11_263 ylX11_wrongOf yvX11_wrongOf rfl rfl rfl (Nat.le_of_ble_eq_true rfl) ⟨Nat.le_of_ble_eq_true rfl, Nat.le_of_ble_eq_true rfl⟩ (xX11_wrongOf (0 : Int32) q38.2 hq40) rfl ?_
  refine AX.i2l dX11_digest_392 ?_
  refine AX.ladd dX11_digest_393 ?_
  obtain ⟨x41, hx41, hz⟩ := ltb_e hz
  refine AX.topL hx41 ?_
  refine AX.lstore_n (ls' := [(0, .ref (G.2.2.1 44)), (1, .long x41)]) dX11_digest_394 rfl (Nat.le_of_ble_eq_true rfl) rfl ?_
  refine AX.ldc2 dX11_digest_395 kcRX11_286 ?_
  refine AX.lload_n dX11_digest_398 1 rfl rfl ?_
  refine AX.lmul dX11_digest_399 ?_
  refine AX.aload_n dX11_digest_400 0 rfl rfl ?_
  refine AX.iconst dX11_digest_401 ic_1 ?_
  obtain ⟨q42, hq42, hz⟩ := obind hz
  refine AX.callVw (r := 44) (As := [.int 1]) (rest := [.long ((31 : Int64) * x41)]) (w := some (.int q42)) (st' := [.int q42, .long ((31 : Int64) * x41)]) dX11_digest_402 mlRX11_263 ylX11_wrongOf yvX11_wrongOf rfl rfl rfl (Nat.le_of_ble_eq_true rfl) ⟨Nat.le_of_ble_eq_true rfl, Nat.le_of_ble_eq_true rfl⟩ (xX11_wrongOf (1 : Int32) q38.2 hq42) rfl ?_
  refine AX.i2l dX11_digest_405 ?_
  refine AX.ladd dX11_digest_406 ?_
  obtain ⟨x43, hx43, hz⟩ := ltb_e hz
  refine AX.topL hx43 ?_
  refine AX.lstore_n (ls' := [(0, .ref (G.2.2.1 44)), (1, .long x43)]) dX11_digest_407 rfl (Nat.le_of_ble_eq_true rfl) rfl ?_
  refine AX.ldc2 dX11_digest_408 kcRX11_286 ?_
  refine AX.lload_n dX11_digest_411 1 rfl rfl ?_
  refine AX.lmul dX11_digest_412 ?_
  refine AX.aload_n dX11_digest_413 0 rfl rfl ?_
  obtain ⟨q44, hq44, hz⟩ := obind hz
  refine AX.callVw (r := 44) (As := []) (rest := [.long ((31 : Int64) * x43)]) (w := some (.int q44.1)) (st' := [.int q44.1, .long ((31 : Int64) * x43)]) dX11_digest_414 mlRX11_266 ylX11_blameNow yvX11_blameNow rfl rfl rfl (Nat.le_of_ble_eq_true rfl) ⟨Nat.le_of_ble_eq_true rfl, Nat.le_of_ble_eq_true rfl⟩ (xX11_blameNow  q38.2 hq44) rfl ?_
  refine AX.i2l dX11_digest_417 ?_
  refine AX.ladd dX11_digest_418 ?_
  obtain ⟨x45, hx45, hz⟩ := ltb_e hz
  refine AX.topL hx45 ?_
  refine AX.lstore_n (ls' := [(0, .ref (G.2.2.1 44)), (1, .long x45)]) dX11_digest_419 rfl (Nat.le_of_ble_eq_true rfl) rfl ?_
  refine AX.ldc2 dX11_digest_420 kcRX11_286 ?_
  refine AX.lload_n dX11_digest_423 1 rfl rfl ?_
  refine AX.lmul dX11_digest_424 ?_
  refine AX.aload_n dX11_digest_425 0 rfl rfl ?_
  refine AX.bipush dX11_digest_426 bp_7 ?_
  refine AX.iconst dX11_digest_428 ic_0 ?_
  obtain ⟨q46, hq46, hz⟩ := obind hz
  refine AX.callVw (r := 44) (As := [.int 7, .int 0]) (rest := [.long ((31 : Int64) * x45)]) (w := some (.int q46.1)) (st' := [.int q46.1, .long ((31 : Int64) * x45)]) dX11_digest_429 mlRX11_270 ylX11_nightOf yvX11_nightOf rfl rfl rfl (Nat.le_of_ble_eq_true rfl) ⟨Nat.le_of_ble_eq_true rfl, Nat.le_of_ble_eq_true rfl⟩ (xX11_nightOf (7 : Int32) (0 : Int32) q44.2 hq46) rfl ?_
  refine AX.i2l dX11_digest_432 ?_
  refine AX.ladd dX11_digest_433 ?_
  obtain ⟨x47, hx47, hz⟩ := ltb_e hz
  refine AX.topL hx47 ?_
  refine AX.lstore_n (ls' := [(0, .ref (G.2.2.1 44)), (1, .long x47)]) dX11_digest_434 rfl (Nat.le_of_ble_eq_true rfl) rfl ?_
  refine AX.ldc2 dX11_digest_435 kcRX11_286 ?_
  refine AX.lload_n dX11_digest_438 1 rfl rfl ?_
  refine AX.lmul dX11_digest_439 ?_
  refine AX.aload_n dX11_digest_440 0 rfl rfl ?_
  refine AX.bipush dX11_digest_441 bp_7 ?_
  refine AX.bipush dX11_digest_443 bp_20 ?_
  obtain ⟨q48, hq48, hz⟩ := obind hz
  refine AX.callVw (r := 44) (As := [.int 7, .int 20]) (rest := [.long ((31 : Int64) * x47)]) (w := some (.int q48.1)) (st' := [.int q48.1, .long ((31 : Int64) * x47)]) dX11_digest_445 mlRX11_270 ylX11_nightOf yvX11_nightOf rfl rfl rfl (Nat.le_of_ble_eq_true rfl) ⟨Nat.le_of_ble_eq_true rfl, Nat.le_of_ble_eq_true rfl⟩ (xX11_nightOf (7 : Int32) (20 : Int32) q46.2 hq48) rfl ?_
  refine AX.i2l dX11_digest_448 ?_
  refine AX.ladd dX11_digest_449 ?_
  exact AX.lreturn dX11_digest_450 rfl (kz (P := fun z => Q (some (.long z.1)) z.2) hz hk)
theorem xX11_digest {G : ag_G}  (σ : St) {z : Int64 × St} (hz : fX11_digest  σ = some z) : AC G yX11_digest mX11_digest 9 214 [.ref (G.2.2.1 44)] σ (fun v σ1 => v = some (.long z.1) ∧ σ1 = z.2) := AC.of (plainFor_of_name (by decide)) rfl (Nat.le_of_ble_eq_true rfl) (wfX11_digest  σ hz ⟨rfl, rfl⟩)
