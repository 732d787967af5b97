noncomputable def fX10_type (p0 : Int32) (σ : St) : Option (Int32 × St) :=
  (fX10_within p0 (0 : Int32) (255 : Int32)).bind fun q1 => if q1 = (0 : Int32) then some ((-2 : Int32), σ) else (fX4_append p0 σ).bind fun q3 => if q3.1 = (0 : Int32) then some ((-4 : Int32), q3.2) else some ((q3.2.1 1 5), (sI q3.2 0 11 1))
theorem wfX10_type {G : ag_G} (p0 : Int32) (σ : St) {z : Int32 × St} (hz : fX10_type p0 σ = some z) {Q : Option Value → St → Prop} (hk : Q (some (.int z.1)) z.2) : AX G mX10_type 6 132 0 [(0, .ref (G.2.2.1 0)), (1, .int p0)] [] σ Q := by
  unfold fX10_type at hz
  refine AX.iload_n dX10_type_0 1 rfl rfl ?_
  refine AX.iconst dX10_type_1 ic_0 ?_
  refine AX.sipush dX10_type_2 sp_255 ?_
  obtain ⟨q1, hq1, hz⟩ := obind hz
  refine AX.callSw (As := [.int p0, .int 0, .int 255]) (rest := []) (w := some (.int q1)) (st' := [.int q1]) dX10_type_5 mlRX10_94 ylX10_within ysX10_within rfl rfl (Nat.le_of_ble_eq_true rfl) ⟨Nat.le_of_ble_eq_true rfl, Nat.le_of_ble_eq_true rfl⟩ (xX10_within p0 (0 : Int32) (255 : Int32) σ hq1) rfl ?_
  refine AX.if_ne (tgt := 14) dX10_type_8 rfl (fun c2 => ?_) (fun c2 => ?_)
  · replace hz := (if_neg c2).symm.trans hz
    refine AX.aload_n dX10_type_14 0 rfl rfl ?_
    refine AX.getR dX10_type_15 flRX10_12 rfl rfl ?_
    refine AX.iload_n dX10_type_18 1 rfl rfl ?_
    obtain ⟨q3, hq3, hz⟩ := obind hz
    refine AX.callVw (r := 1) (As := [.int p0]) (rest := []) (w := some (.int q3.1)) (st' := [.int q3.1]) dX10_type_19 mlRX10_98 ylX4_append yvX4_append rfl rfl rfl (Nat.le_of_ble_eq_true rfl) ⟨Nat.le_of_ble_eq_true rfl, Nat.le_of_ble_eq_true rfl⟩ (xX4_append p0 σ hq3) rfl ?_
    refine AX.if_ne (tgt := 28) dX10_type_22 rfl (fun c4 => ?_) (fun c4 => ?_)
    · replace hz := (if_neg c4).symm.trans hz
      refine AX.aload_n dX10_type_28 0 rfl rfl ?_
      refine AX.iconst dX10_type_29 ic_1 ?_
      refine AX.putI dX10_type_30 fpRX10_86 rfl rfl nb_1 rfl ?_
      refine AX.aload_n dX10_type_33 0 rfl rfl ?_
      refine AX.getR dX10_type_34 flRX10_12 rfl rfl ?_
      refine AX.getIE (v := q3.2.1 1 5) dX10_type_37 flRX10_102 rfl rfl rfl ?_
      exact AX.ireturn dX10_type_40 rfl (vp_nar_int _) (kz (P := fun z => Q (some (.int z.1)) z.2) hz hk)
    · replace hz := (if_pos c4).symm.trans hz
      refine AX.bipush dX10_type_25 bp_m4 ?_
      exact AX.ireturn dX10_type_27 rfl (vp_nar_int _) (kz (P := fun z => Q (some (.int z.1)) z.2) hz hk)
  · replace hz := (if_pos c2).symm.trans hz
    refine AX.bipush dX10_type_11 bp_m2 ?_
    exact AX.ireturn dX10_type_13 rfl (vp_nar_int _) (kz (P := fun z => Q (some (.int z.1)) z.2) hz hk)
theorem xX10_type {G : ag_G} (p0 : Int32) (σ : St) {z : Int32 × St} (hz : fX10_type p0 σ = some z) : AC G yX10_type mX10_type 6 132 [.ref (G.2.2.1 0), .int p0] σ (fun v σ1 => v = some (.int z.1) ∧ σ1 = z.2) := AC.of (plainFor_of_name (by decide)) rfl (Nat.le_of_ble_eq_true rfl) (wfX10_type p0 σ hz ⟨rfl, rfl⟩)
noncomputable def fX10_wipe  (σ : St) : Option (Int32 × St) :=
  ltb (σ.1 1 5) fun x1 => (fX4_shorten x1 σ).bind fun q2 => some (x1, (sI q2 0 11 1))
theorem wfX10_wipe {G : ag_G}  (σ : St) {z : Int32 × St} (hz : fX10_wipe  σ = some z) {Q : Option Value → St → Prop} (hk : Q (some (.int z.1)) z.2) : AX G mX10_wipe 6 132 0 [(0, .ref (G.2.2.1 0))] [] σ Q := by
  unfold fX10_wipe at hz
  refine AX.aload_n dX10_wipe_0 0 rfl rfl ?_
  refine AX.getR dX10_wipe_1 flRX10_12 rfl rfl ?_
  refine AX.getIE (v := σ.1 1 5) dX10_wipe_4 flRX10_102 rfl rfl rfl ?_
  obtain ⟨x1, hx1, hz⟩ := ltb_e hz
  refine AX.topI hx1 ?_
  refine AX.istore_n (ls' := [(0, .ref (G.2.2.1 0)), (1, .int x1)]) dX10_wipe_7 rfl (Nat.le_of_ble_eq_true rfl) rfl ?_
  refine AX.aload_n dX10_wipe_8 0 rfl rfl ?_
  refine AX.getR dX10_wipe_9 flRX10_12 rfl rfl ?_
  refine AX.iload_n dX10_wipe_12 1 rfl rfl ?_
  obtain ⟨q2, hq2, hz⟩ := obind hz
  refine AX.callVw (r := 1) (As := [.int x1]) (rest := []) (w := none) (st' := []) dX10_wipe_13 mlRX10_105 ylX4_shorten yvX4_shorten rfl rfl rfl (Nat.le_of_ble_eq_true rfl) ⟨Nat.le_of_ble_eq_true rfl, Nat.le_of_ble_eq_true rfl⟩ (xX4_shorten x1 σ hq2) rfl ?_
  refine AX.aload_n dX10_wipe_16 0 rfl rfl ?_
  refine AX.iconst dX10_wipe_17 ic_1 ?_
  refine AX.putI dX10_wipe_18 fpRX10_86 rfl rfl nb_1 rfl ?_
  refine AX.iload_n dX10_wipe_21 1 rfl rfl ?_
  exact AX.ireturn dX10_wipe_22 rfl (vp_nar_int _) (kz (P := fun z => Q (some (.int z.1)) z.2) hz hk)
theorem xX10_wipe {G : ag_G}  (σ : St) {z : Int32 × St} (hz : fX10_wipe  σ = some z) : AC G yX10_wipe mX10_wipe 6 132 [.ref (G.2.2.1 0)] σ (fun v σ1 => v = some (.int z.1) ∧ σ1 = z.2) := AC.of (plainFor_of_name (by decide)) rfl (Nat.le_of_ble_eq_true rfl) (wfX10_wipe  σ hz ⟨rfl, rfl⟩)
noncomputable def fX10_undo  (σ : St) : Option (Int32 × St) :=
  if (σ.1 1 5) = (0 : Int32) then some ((-3 : Int32), σ) else (fX4_shorten (1 : Int32) σ).bind fun q2 => some ((q2.1 1 5), (sI q2 0 11 1))
theorem wfX10_undo {G : ag_G}  (σ : St) {z : Int32 × St} (hz : fX10_undo  σ = some z) {Q : Option Value → St → Prop} (hk : Q (some (.int z.1)) z.2) : AX G mX10_undo 6 132 0 [(0, .ref (G.2.2.1 0))] [] σ Q := by
  unfold fX10_undo at hz
  refine AX.aload_n dX10_undo_0 0 rfl rfl ?_
  refine AX.getR dX10_undo_1 flRX10_12 rfl rfl ?_
  refine AX.getIE (v := σ.1 1 5) dX10_undo_4 flRX10_102 rfl rfl rfl ?_
  refine AX.if_ne (tgt := 13) dX10_undo_7 rfl (fun c1 => ?_) (fun c1 => ?_)
  · replace hz := (if_neg c1).symm.trans hz
    refine AX.aload_n dX10_undo_13 0 rfl rfl ?_
    refine AX.getR dX10_undo_14 flRX10_12 rfl rfl ?_
    refine AX.iconst dX10_undo_17 ic_1 ?_
    obtain ⟨q2, hq2, hz⟩ := obind hz
    refine AX.callVw (r := 1) (As := [.int 1]) (rest := []) (w := none) (st' := []) dX10_undo_18 mlRX10_105 ylX4_shorten yvX4_shorten rfl rfl rfl (Nat.le_of_ble_eq_true rfl) ⟨Nat.le_of_ble_eq_true rfl, Nat.le_of_ble_eq_true rfl⟩ (xX4_shorten (1 : Int32) σ hq2) rfl ?_
    refine AX.aload_n dX10_undo_21 0 rfl rfl ?_
    refine AX.iconst dX10_undo_22 ic_1 ?_
    refine AX.putI dX10_undo_23 fpRX10_86 rfl rfl nb_1 rfl ?_
    refine AX.aload_n dX10_undo_26 0 rfl rfl ?_
    refine AX.getR dX10_undo_27 flRX10_12 rfl rfl ?_
    refine AX.getIE (v := q2.1 1 5) dX10_undo_30 flRX10_102 rfl rfl rfl ?_
    exact AX.ireturn dX10_undo_33 rfl (vp_nar_int _) (kz (P := fun z => Q (some (.int z.1)) z.2) hz hk)
  · replace hz := (if_pos c1).symm.trans hz
    refine AX.bipush dX10_undo_10 bp_m3 ?_
    exact AX.ireturn dX10_undo_12 rfl (vp_nar_int _) (kz (P := fun z => Q (some (.int z.1)) z.2) hz hk)
theorem xX10_undo {G : ag_G}  (σ : St) {z : Int32 × St} (hz : fX10_undo  σ = some z) : AC G yX10_undo mX10_undo 6 132 [.ref (G.2.2.1 0)] σ (fun v σ1 => v = some (.int z.1) ∧ σ1 = z.2) := AC.of (plainFor_of_name (by decide)) rfl (Nat.le_of_ble_eq_true rfl) (wfX10_undo  σ hz ⟨rfl, rfl⟩)
noncomputable def fX10_fault  (σ : St) : Option (Int32) :=
  some (σ.1 1 9)
theorem wfX10_fault {G : ag_G}  (σ : St) {z : Int32} (hz : fX10_fault  σ = some z) {Q : Option Value → St → Prop} (hk : Q (some (.int z)) σ) : AX G mX10_fault 0 0 0 [(0, .ref (G.2.2.1 0))] [] σ Q := by
  unfold fX10_fault at hz
  refine AX.aload_n dX10_fault_0 0 rfl rfl ?_
  refine AX.getR dX10_fault_1 flRX10_12 rfl rfl ?_
  refine AX.getIE (v := σ.1 1 9) dX10_fault_4 flRX10_109 rfl rfl rfl ?_
  exact AX.ireturn dX10_fault_7 rfl (vp_nar_int _) (kz (P := fun z => Q (some (.int z)) σ) hz hk)
theorem xX10_fault {G : ag_G}  (σ : St) {z : Int32} (hz : fX10_fault  σ = some z) : AC G yX10_fault mX10_fault 0 0 [.ref (G.2.2.1 0)] σ (fun v σ1 => v = some (.int z) ∧ σ1 = σ) := AC.of (plainFor_of_name (by decide)) rfl (Nat.le_of_ble_eq_true rfl) (wfX10_fault  σ hz ⟨rfl, rfl⟩)
noncomputable def fX10_bar_j20  (σ : St) : Option (Int32) :=
  some (-2 : Int32)
theorem wfX10_bar_j20 {G : ag_G}  (σ : St) {z : Int32} (hz : fX10_bar_j20  σ = some z) {Q : Option Value → St → Prop} (hk : Q (some (.int z)) σ) : AX G mX10_bar 2 42 20 [] [] σ Q := by
  unfold fX10_bar_j20 at hz
  refine AX.bipush dX10_bar_20 bp_m2 ?_
  exact AX.ireturn dX10_bar_22 rfl (vp_nar_int _) (kz (P := fun z => Q (some (.int z)) σ) hz hk)
noncomputable def fX10_bar (p0 : Int32) (p1 : Int32) (σ : St) : Option (Int32) :=
  (fX4_hasBar p0 σ).bind fun q1 => if q1 = (0 : Int32) then fX10_bar_j20  σ else (fX10_within p1 (0 : Int32) (2 : Int32)).bind fun q3 => if q3 = (0 : Int32) then fX10_bar_j20  σ else if p1 = (0 : Int32) then (fX4_kindOf p0 σ).bind fun q9 => some q9 else if p1 = (1 : Int32) then (fX4_tuneOf p0 σ).bind fun q8 => some q8 else (fX4_cueIn p0 σ).bind fun q7 => some q7
theorem wfX10_bar {G : ag_G} (p0 : Int32) (p1 : Int32) (σ : St) {z : Int32} (hz : fX10_bar p0 p1 σ = some z) {Q : Option Value → St → Prop} (hk : Q (some (.int z)) σ) : AX G mX10_bar 2 42 0 [(0, .ref (G.2.2.1 0)), (1, .int p0), (2, .int p1)] [] σ Q := by
  unfold fX10_bar at hz
  refine AX.aload_n dX10_bar_0 0 rfl rfl ?_
  refine AX.getR dX10_bar_1 flRX10_12 rfl rfl ?_
  refine AX.iload_n dX10_bar_4 1 rfl rfl ?_
  obtain ⟨q1, hq1, hz⟩ := obind hz
  refine AX.callVw (r := 1) (As := [.int p0]) (rest := []) (w := some (.int q1)) (st' := [.int q1]) dX10_bar_5 mlRX10_112 ylX4_hasBar yvX4_hasBar rfl rfl rfl (Nat.le_of_ble_eq_true rfl) ⟨Nat.le_of_ble_eq_true rfl, Nat.le_of_ble_eq_true rfl⟩ (xX4_hasBar p0 σ hq1) rfl ?_
  refine AX.if_eq (tgt := 20) dX10_bar_8 rfl (fun c2 => ?_) (fun c2 => ?_)
  · replace hz := (if_pos c2).symm.trans hz
    exact AX.sub (ls' := []) [] rfl (wfX10_bar_j20  σ hz hk)
  · replace hz := (if_neg c2).symm.trans hz
    refine AX.iload_n dX10_bar_11 2 rfl rfl ?_
    refine AX.iconst dX10_bar_12 ic_0 ?_
    refine AX.iconst dX10_bar_13 ic_2 ?_
    obtain ⟨q3, hq3, hz⟩ := obind hz
    refine AX.callSw (As := [.int p1, .int 0, .int 2]) (rest := []) (w := some (.int q3)) (st' := [.int q3]) dX10_bar_14 mlRX10_94 ylX10_within ysX10_within rfl rfl (Nat.le_of_ble_eq_true rfl) ⟨Nat.le_of_ble_eq_true rfl, Nat.le_of_ble_eq_true rfl⟩ (xX10_within p1 (0 : Int32) (2 : Int32) σ hq3) rfl ?_
    refine AX.if_ne (tgt := 23) dX10_bar_17 rfl (fun c4 => ?_) (fun c4 => ?_)
    · replace hz := (if_neg c4).symm.trans hz
      refine AX.iload_n dX10_bar_23 2 rfl rfl ?_
      refine AX.if_ne (tgt := 36) dX10_bar_24 rfl (fun c5 => ?_) (fun c5 => ?_)
      · replace hz := (if_neg c5).symm.trans hz
        refine AX.iload_n dX10_bar_36 2 rfl rfl ?_
        refine AX.iconst dX10_bar_37 ic_1 ?_
        refine AX.icmp_ne (tgt := 52) dX10_bar_38 rfl (fun c6 => ?_) (fun c6 => ?_)
        · replace hz := (if_neg c6).symm.trans hz
          refine AX.aload_n dX10_bar_52 0 rfl rfl ?_
          refine AX.getR dX10_bar_53 flRX10_12 rfl rfl ?_
          refine AX.iload_n dX10_bar_56 1 rfl rfl ?_
          obtain ⟨q7, hq7, hz⟩ := obind hz
          refine AX.callVw (r := 1) (As := [.int p0]) (rest := []) (w := some (.int q7)) (st' := [.int q7]) dX10_bar_57 mlRX10_122 ylX4_cueIn yvX4_cueIn rfl rfl rfl (Nat.le_of_ble_eq_true rfl) ⟨Nat.le_of_ble_eq_true rfl, Nat.le_of_ble_eq_true rfl⟩ (xX4_cueIn p0 σ hq7) rfl ?_
          exact AX.ireturn dX10_bar_60 rfl (vp_nar_int _) (kz (P := fun z => Q (some (.int z)) σ) hz hk)
        · replace hz := (if_pos c6).symm.trans hz
          refine AX.aload_n dX10_bar_41 0 rfl rfl ?_
          refine AX.getR dX10_bar_42 flRX10_12 rfl rfl ?_
          refine AX.iload_n dX10_bar_45 1 rfl rfl ?_
          obtain ⟨q8, hq8, hz⟩ := obind hz
          refine AX.callVw (r := 1) (As := [.int p0]) (rest := []) (w := some (.int q8)) (st' := [.int q8]) dX10_bar_46 mlRX10_119 ylX4_tuneOf yvX4_tuneOf rfl rfl rfl (Nat.le_of_ble_eq_true rfl) ⟨Nat.le_of_ble_eq_true rfl, Nat.le_of_ble_eq_true rfl⟩ (xX4_tuneOf p0 σ hq8) rfl ?_
          refine AX.goto (tgt := 60) dX10_bar_49 rfl ?_
          exact AX.ireturn dX10_bar_60 rfl (vp_nar_int _) (kz (P := fun z => Q (some (.int z)) σ) hz hk)
      · replace hz := (if_pos c5).symm.trans hz
        refine AX.aload_n dX10_bar_27 0 rfl rfl ?_
        refine AX.getR dX10_bar_28 flRX10_12 rfl rfl ?_
        refine AX.iload_n dX10_bar_31 1 rfl rfl ?_
        obtain ⟨q9, hq9, hz⟩ := obind hz
        refine AX.callVw (r := 1) (As := [.int p0]) (rest := []) (w := some (.int q9)) (st' := [.int q9]) dX10_bar_32 mlRX10_115 ylX4_kindOf yvX4_kindOf rfl rfl rfl (Nat.le_of_ble_eq_true rfl) ⟨Nat.le_of_ble_eq_true rfl, Nat.le_of_ble_eq_true rfl⟩ (xX4_kindOf p0 σ hq9) rfl ?_
        exact AX.ireturn dX10_bar_35 rfl (vp_nar_int _) (kz (P := fun z => Q (some (.int z)) σ) hz hk)
    · replace hz := (if_pos c4).symm.trans hz
      exact AX.sub (ls' := []) [] rfl (wfX10_bar_j20  σ hz hk)
theorem xX10_bar {G : ag_G} (p0 : Int32) (p1 : Int32) (σ : St) {z : Int32} (hz : fX10_bar p0 p1 σ = some z) : AC G yX10_bar mX10_bar 2 42 [.ref (G.2.2.1 0), .int p0, .int p1] σ (fun v σ1 => v = some (.int z) ∧ σ1 = σ) := AC.of (plainFor_of_name (by decide)) rfl (Nat.le_of_ble_eq_true rfl) (wfX10_bar p0 p1 σ hz ⟨rfl, rfl⟩)
noncomputable def fX10_odds_j31  (σ : St) : Option (Int32 × St) :=
  some ((-2 : Int32), σ)
theorem wfX10_odds_j31 {G : ag_G}  (σ : St) {z : Int32 × St} (hz : fX10_odds_j31  σ = some z) {Q : Option Value → St → Prop} (hk : Q (some (.int z.1)) z.2) : AX G mX10_odds 2 42 31 [] [] σ Q := by
  unfold fX10_odds_j31 at hz
  refine AX.bipush dX10_odds_31 bp_m2 ?_
  exact AX.ireturn dX10_odds_33 rfl (vp_nar_int _) (kz (P := fun z => Q (some (.int z.1)) z.2) hz hk)
noncomputable def fX10_odds (p0 : Int32) (p1 : Int32) (p2 : Int32) (σ : St) : Option (Int32 × St) :=
  (fX10_within p0 (0 : Int32) (2 : Int32)).bind fun q1 => if q1 = (0 : Int32) then fX10_odds_j31  σ else (fX10_within p1 (0 : Int32) (16 : Int32)).bind fun q3 => if q3 = (0 : Int32) then fX10_odds_j31  σ else (fX10_within p2 (0 : Int32) ((16 : Int32) - p1)).bind fun q5 => if q5 = (0 : Int32) then fX10_odds_j31  σ else (fX3_missedOf 9 p0 σ).bind fun q7 => (fX3_doubledOf 9 p0 σ).bind fun q8 => ltb (((16 : Int32) * q7) + q8) fun x9 => (fX3_become 9 p0 p1 p2 σ).bind fun q10 => some (x9, (sI q10 0 11 1))
theorem wfX10_odds {G : ag_G} (p0 : Int32) (p1 : Int32) (p2 : Int32) (σ : St) {z : Int32 × St} (hz : fX10_odds p0 p1 p2 σ = some z) {Q : Option Value → St → Prop} (hk : Q (some (.int z.1)) z.2) : AX G mX10_odds 2 42 0 [(0, .ref (G.2.2.1 0)), (1, .int p0), (2, .int p1), (3, .int p2)] [] σ Q := by
  unfold fX10_odds at hz
  refine AX.iload_n dX10_odds_0 1 rfl rfl ?_
  refine AX.iconst dX10_odds_1 ic_0 ?_
  refine AX.iconst dX10_odds_2 ic_2 ?_
  obtain ⟨q1, hq1, hz⟩ := obind hz
  refine AX.callSw (As := [.int p0, .int 0, .int 2]) (rest := []) (w := some (.int q1)) (st' := [.int q1]) dX10_odds_3 mlRX10_94 ylX10_within ysX10_within rfl rfl (Nat.le_of_ble_eq_true rfl) ⟨Nat.le_of_ble_eq_true rfl, Nat.le_of_ble_eq_true rfl⟩ (xX10_within p0 (0 : Int32) (2 : Int32) σ hq1) rfl ?_
  refine AX.if_eq (tgt := 31) dX10_odds_6 rfl (fun c2 => ?_) (fun c2 => ?_)
  · replace hz := (if_pos c2).symm.trans hz
    exact AX.sub (ls' := []) [] rfl (wfX10_odds_j31  σ hz hk)
  · replace hz := (if_neg c2).symm.trans hz
    refine AX.iload_n dX10_odds_9 2 rfl rfl ?_
    refine AX.iconst dX10_odds_10 ic_0 ?_
    refine AX.bipush dX10_odds_11 bp_16 ?_
    obtain ⟨q3, hq3, hz⟩ := obind hz
    refine AX.callSw (As := [.int p1, .int 0, .int 16]) (rest := []) (w := some (.int q3)) (st' := [.int q3]) dX10_odds_13 mlRX10_94 ylX10_within ysX10_within rfl rfl (Nat.le_of_ble_eq_true rfl) ⟨Nat.le_of_ble_eq_true rfl, Nat.le_of_ble_eq_true rfl⟩ (xX10_within p1 (0 : Int32) (16 : Int32) σ hq3) rfl ?_
    refine AX.if_eq (tgt := 31) dX10_odds_16 rfl (fun c4 => ?_) (fun c4 => ?_)
    · replace hz := (if_pos c4).symm.trans hz
      exact AX.sub (ls' := []) [] rfl (wfX10_odds_j31  σ hz hk)
    · replace hz := (if_neg c4).symm.trans hz
      refine AX.iload_n dX10_odds_19 3 rfl rfl ?_
      refine AX.iconst dX10_odds_20 ic_0 ?_
      refine AX.bipush dX10_odds_21 bp_16 ?_
      refine AX.iload_n dX10_odds_23 2 rfl rfl ?_
      refine AX.isub dX10_odds_24 ?_
      obtain ⟨q5, hq5, hz⟩ := obind hz
      refine AX.callSw (As := [.int p2, .int 0, .int ((16 : Int32) - p1)]) (rest := []) (w := some (.int q5)) (st' := [.int q5]) dX10_odds_25 mlRX10_94 ylX10_within ysX10_within rfl rfl (Nat.le_of_ble_eq_true rfl) ⟨Nat.le_of_ble_eq_true rfl, Nat.le_of_ble_eq_true rfl⟩ (xX10_within p2 (0 : Int32) ((16 : Int32) - p1) σ hq5) rfl ?_
      refine AX.if_ne (tgt := 34) dX10_odds_28 rfl (fun c6 => ?_) (fun c6 => ?_)
      · replace hz := (if_neg c6).symm.trans hz
        refine AX.bipush dX10_odds_34 bp_16 ?_
        refine AX.aload_n dX10_odds_36 0 rfl rfl ?_
        refine AX.getR dX10_odds_37 flRX10_26 rfl rfl ?_
        refine AX.iload_n dX10_odds_40 1 rfl rfl ?_
        obtain ⟨q7, hq7, hz⟩ := obind hz
        refine AX.callVw (r := 9) (As := [.int p0]) (rest := [.int 16]) (w := some (.int q7)) (st' := [.int q7, .int 16]) dX10_odds_41 mlRX10_125 ylX3_missedOf yvX3_missedOf rfl rfl rfl (Nat.le_of_ble_eq_true rfl) ⟨Nat.le_of_ble_eq_true rfl, Nat.le_of_ble_eq_true rfl⟩ (xX3_missedOf 9 p0 σ hq7) rfl ?_
        refine AX.imul dX10_odds_44 ?_
        refine AX.aload_n dX10_odds_45 0 rfl rfl ?_
        refine AX.getR dX10_odds_46 flRX10_26 rfl rfl ?_
        refine AX.iload_n dX10_odds_49 1 rfl rfl ?_
        obtain ⟨q8, hq8, hz⟩ := obind hz
        refine AX.callVw (r := 9) (As := [.int p0]) (rest := [.int ((16 : Int32) * q7)]) (w := some (.int q8)) (st' := [.int q8, .int ((16 : Int32) * q7)]) dX10_odds_50 mlRX10_128 ylX3_doubledOf yvX3_doubledOf rfl rfl rfl (Nat.le_of_ble_eq_true rfl) ⟨Nat.le_of_ble_eq_true rfl, Nat.le_of_ble_eq_true rfl⟩ (xX3_doubledOf 9 p0 σ hq8) rfl ?_
        refine AX.iadd dX10_odds_53 ?_
        obtain ⟨x9, hx9, hz⟩ := ltb_e hz
        refine AX.topI hx9 ?_
        refine AX.istore (ls' := [(0, .ref (G.2.2.1 0)), (1, .int p0), (2, .int p1), (3, .int p2), (4, .int x9)]) dX10_odds_54 (Nat.le_of_ble_eq_true rfl) rfl ?_
        refine AX.aload_n dX10_odds_56 0 rfl rfl ?_
        refine AX.getR dX10_odds_57 flRX10_26 rfl rfl ?_
        refine AX.iload_n dX10_odds_60 1 rfl rfl ?_
        refine AX.iload_n dX10_odds_61 2 rfl rfl ?_
        refine AX.iload_n dX10_odds_62 3 rfl rfl ?_
        obtain ⟨q10, hq10, hz⟩ := obind hz
        refine AX.callVw (r := 9) (As := [.int p0, .int p1, .int p2]) (rest := []) (w := none) (st' := []) dX10_odds_63 mlRX10_131 ylX3_become yvX3_become rfl rfl rfl (Nat.le_of_ble_eq_true rfl) ⟨Nat.le_of_ble_eq_true rfl, Nat.le_of_ble_eq_true rfl⟩ (xX3_become 9 p0 p1 p2 σ hq10) rfl ?_
        refine AX.aload_n dX10_odds_66 0 rfl rfl ?_
        refine AX.iconst dX10_odds_67 ic_1 ?_
        refine AX.putI dX10_odds_68 fpRX10_86 rfl rfl nb_1 rfl ?_
        refine AX.iload dX10_odds_71 4 rfl ?_
        exact AX.ireturn dX10_odds_73 rfl (vp_nar_int _) (kz (P := fun z => Q (some (.int z.1)) z.2) hz hk)
      · replace hz := (if_pos c6).symm.trans hz
        exact AX.sub (ls' := []) [] rfl (wfX10_odds_j31  σ hz hk)
theorem xX10_odds {G : ag_G} (p0 : Int32) (p1 : Int32) (p2 : Int32) (σ : St) {z : Int32 × St} (hz : fX10_odds p0 p1 p2 σ = some z) : AC G yX10_odds mX10_odds 2 42 [.ref (G.2.2.1 0), .int p0, .int p1, .int p2] σ (fun v σ1 => v = some (.int z.1) ∧ σ1 = z.2) := AC.of (plainFor_of_name (by decide)) rfl (Nat.le_of_ble_eq_true rfl) (wfX10_odds p0 p1 p2 σ hz ⟨rfl, rfl⟩)
noncomputable def fX10_set_j22  (σ : St) : Option (Int32 × St) :=
  some ((-2 : Int32), σ)
theorem wfX10_set_j22 {G : ag_G}  (σ : St) {z : Int32 × St} (hz : fX10_set_j22  σ = some z) {Q : Option Value → St → Prop} (hk : Q (some (.int z.1)) z.2) : AX G mX10_set 2 41 22 [] [] σ Q := by
  unfold fX10_set_j22 at hz
  refine AX.bipush dX10_set_22 bp_m2 ?_
  exact AX.ireturn dX10_set_24 rfl (vp_nar_int _) (kz (P := fun z => Q (some (.int z.1)) z.2) hz hk)
noncomputable def fX10_set (p0 : Int32) (p1 : Int32) (σ : St) : Option (Int32 × St) :=
  (fX10_within p0 (0 : Int32) (8 : Int32)).bind fun q1 => if q1 = (0 : Int32) then fX10_set_j22  σ else (fX6_most p0 σ).bind fun q3 => (fX10_within p1 (0 : Int32) q3).bind fun q4 => if q4 = (0 : Int32) then fX10_set_j22  σ else (fX6_valueOf p0 σ).bind fun q6 => (fX6_become p0 p1 σ).bind fun q7 => some (q6, (sI q7 0 11 1))
theorem wfX10_set {G : ag_G} (p0 : Int32) (p1 : Int32) (σ : St) {z : Int32 × St} (hz : fX10_set p0 p1 σ = some z) {Q : Option Value → St → Prop} (hk : Q (some (.int z.1)) z.2) : AX G mX10_set 2 41 0 [(0, .ref (G.2.2.1 0)), (1, .int p0), (2, .int p1)] [] σ Q := by
  unfold fX10_set at hz
  refine AX.iload_n dX10_set_0 1 rfl rfl ?_
  refine AX.iconst dX10_set_1 ic_0 ?_
  refine AX.bipush dX10_set_2 bp_8 ?_
  obtain ⟨q1, hq1, hz⟩ := obind hz
  refine AX.callSw (As := [.int p0, .int 0, .int 8]) (rest := []) (w := some (.int q1)) (st' := [.int q1]) dX10_set_4 mlRX10_94 ylX10_within ysX10_within rfl rfl (Nat.le_of_ble_eq_true rfl) ⟨Nat.le_of_ble_eq_true rfl, Nat.le_of_ble_eq_true rfl⟩ (xX10_within p0 (0 : Int32) (8 : Int32) σ hq1) rfl ?_
  refine AX.if_eq (tgt := 22) dX10_set_7 rfl (fun c2 => ?_) (fun c2 => ?_)
  · replace hz := (if_pos c2).symm.trans hz
    exact AX.sub (ls' := []) [] rfl (wfX10_set_j22  σ hz hk)
  · replace hz := (if_neg c2).symm.trans hz
    refine AX.iload_n dX10_set_10 2 rfl rfl ?_
    refine AX.iconst dX10_set_11 ic_0 ?_
    refine AX.iload_n dX10_set_12 1 rfl rfl ?_
    obtain ⟨q3, hq3, hz⟩ := obind hz
    refine AX.callSw (As := [.int p0]) (rest := [.int 0, .int p1]) (w := some (.int q3)) (st' := [.int q3, .int 0, .int p1]) dX10_set_13 mlRX10_135 ylX6_most ysX6_most rfl rfl (Nat.le_of_ble_eq_true rfl) ⟨Nat.le_of_ble_eq_true rfl, Nat.le_of_ble_eq_true rfl⟩ (xX6_most p0 σ hq3) rfl ?_
    obtain ⟨q4, hq4, hz⟩ := obind hz
    refine AX.callSw (As := [.int p1, .int 0, .int q3]) (rest := []) (w := some (.int q4)) (st' := [.int q4]) dX10_set_16 mlRX10_94 ylX10_within ysX10_within rfl rfl (Nat.le_of_ble_eq_true rfl) ⟨Nat.le_of_ble_eq_true rfl, Nat.le_of_ble_eq_true rfl⟩ (xX10_within p1 (0 : Int32) q3 σ hq4) rfl ?_
    refine AX.if_ne (tgt := 25) dX10_set_19 rfl (fun c5 => ?_) (fun c5 => ?_)
    · replace hz := (if_neg c5).symm.trans hz
      refine AX.aload_n dX10_set_25 0 rfl rfl ?_
      refine AX.getR dX10_set_26 flRX10_19 rfl rfl ?_
      refine AX.iload_n dX10_set_29 1 rfl rfl ?_
      obtain ⟨q6, hq6, hz⟩ := obind hz
      refine AX.callVw (r := 7) (As := [.int p0]) (rest := []) (w := some (.int q6)) (st' := [.int q6]) dX10_set_30 mlRX10_138 ylX6_valueOf yvX6_valueOf rfl rfl rfl (Nat.le_of_ble_eq_true rfl) ⟨Nat.le_of_ble_eq_true rfl, Nat.le_of_ble_eq_true rfl⟩ (xX6_valueOf p0 σ hq6) rfl ?_
      refine AX.istore_n (ls' := [(0, .ref (G.2.2.1 0)), (1, .int p0), (2, .int p1), (3, .int q6)]) dX10_set_33 rfl (Nat.le_of_ble_eq_true rfl) rfl ?_
      refine AX.aload_n dX10_set_34 0 rfl rfl ?_
      refine AX.getR dX10_set_35 flRX10_19 rfl rfl ?_
      refine AX.iload_n dX10_set_38 1 rfl rfl ?_
      refine AX.iload_n dX10_set_39 2 rfl rfl ?_
      obtain ⟨q7, hq7, hz⟩ := obind hz
      refine AX.callVw (r := 7) (As := [.int p0, .int p1]) (rest := []) (w := none) (st' := []) dX10_set_40 mlRX10_141 ylX6_become yvX6_become rfl rfl rfl (Nat.le_of_ble_eq_true rfl) ⟨Nat.le_of_ble_eq_true rfl, Nat.le_of_ble_eq_true rfl⟩ (xX6_become p0 p1 σ hq7) rfl ?_
      refine AX.aload_n dX10_set_43 0 rfl rfl ?_
      refine AX.iconst dX10_set_44 ic_1 ?_
      refine AX.putI dX10_set_45 fpRX10_86 rfl rfl nb_1 rfl ?_
      refine AX.iload_n dX10_set_48 3 rfl rfl ?_
      exact AX.ireturn dX10_set_49 rfl (vp_nar_int _) (kz (P := fun z => Q (some (.int z.1)) z.2) hz hk)
    · replace hz := (if_pos c5).symm.trans hz
      exact AX.sub (ls' := []) [] rfl (wfX10_set_j22  σ hz hk)
theorem xX10_set {G : ag_G} (p0 : Int32) (p1 : Int32) (σ : St) {z : Int32 × St} (hz : fX10_set p0 p1 σ = some z) : AC G yX10_set mX10_set 2 41 [.ref (G.2.2.1 0), .int p0, .int p1] σ (fun v σ1 => v = some (.int z.1) ∧ σ1 = z.2) := AC.of (plainFor_of_name (by decide)) rfl (Nat.le_of_ble_eq_true rfl) (wfX10_set p0 p1 σ hz ⟨rfl, rfl⟩)
noncomputable def fX10_sheetAt_j22  (σ : St) : Option (Option Nat) :=
  some none
theorem wfX10_sheetAt_j22 {G : ag_G}  (σ : St) {z : Option Nat} (hz : fX10_sheetAt_j22  σ = some z) {Q : Option Value → St → Prop} (hk : Q (some (rfv G z)) σ) : AX G mX10_sheetAt 0 0 22 [] [] σ Q := by
  unfold fX10_sheetAt_j22 at hz
  refine AX.null dX10_sheetAt_22 ?_
  exact AX.areturn_null dX10_sheetAt_23 rfl (kz (P := fun z => Q (some (rfv G z)) σ) hz hk)
noncomputable def fX10_sheetAt (p0 : Int32) (σ : St) : Option (Option Nat) :=
  if p0 < (0 : Int32) then fX10_sheetAt_j22  σ else if (4 : Int32) ≤ p0 then fX10_sheetAt_j22  σ else if inb p0 4 = true then some (some (36 + 2 * p0.toNatClampNeg)) else none
theorem wfX10_sheetAt {G : ag_G} (p0 : Int32) (σ : St) {z : Option Nat} (hz : fX10_sheetAt p0 σ = some z) {Q : Option Value → St → Prop} (hk : Q (some (rfv G z)) σ) : AX G mX10_sheetAt 0 0 0 [(0, .ref (G.2.2.1 0)), (1, .int p0)] [] σ Q := by
  unfold fX10_sheetAt at hz
  refine AX.iload_n dX10_sheetAt_0 1 rfl rfl ?_
  refine AX.if_lt (tgt := 22) dX10_sheetAt_1 rfl (fun c1 => ?_) (fun c1 => ?_)
  · replace hz := (if_pos c1).symm.trans hz
    exact AX.sub (ls' := []) [] rfl (wfX10_sheetAt_j22  σ hz hk)
  · replace hz := (if_neg c1).symm.trans hz
    refine AX.iload_n dX10_sheetAt_4 1 rfl rfl ?_
    refine AX.aload_n dX10_sheetAt_5 0 rfl rfl ?_
    refine AX.getR dX10_sheetAt_6 flRX10_81 rfl rfl ?_
    refine AX.alenS dX10_sheetAt_9 ?_
    refine AX.icmp_ge (tgt := 22) dX10_sheetAt_10 rfl (fun c2 => ?_) (fun c2 => ?_)
    · replace hz := (if_pos c2).symm.trans hz
      exact AX.sub (ls' := []) [] rfl (wfX10_sheetAt_j22  σ hz hk)
    · replace hz := (if_neg c2).symm.trans hz
      refine AX.aload_n dX10_sheetAt_13 0 rfl rfl ?_
      refine AX.getR dX10_sheetAt_14 flRX10_81 rfl rfl ?_
      refine AX.iload_n dX10_sheetAt_17 1 rfl rfl ?_
      obtain ⟨b3, hz⟩ := ite_n hz
      refine AX.sheetld dX10_sheetAt_18 b3 ?_
      refine AX.goto (tgt := 23) dX10_sheetAt_19 rfl ?_
      exact AX.areturn_ref dX10_sheetAt_23 rfl (kz (P := fun z => Q (some (rfv G z)) σ) hz hk)
theorem xX10_sheetAt {G : ag_G} (p0 : Int32) (σ : St) {z : Option Nat} (hz : fX10_sheetAt p0 σ = some z) : AC G yX10_sheetAt mX10_sheetAt 0 0 [.ref (G.2.2.1 0), .int p0] σ (fun v σ1 => v = some (rfv G z) ∧ σ1 = σ) := AC.of (plainFor_of_name (by decide)) rfl (Nat.le_of_ble_eq_true rfl) (wfX10_sheetAt p0 σ hz ⟨rfl, rfl⟩)
noncomputable def fX10_found (p0 : Int32) (σ : St) : Option (Int32 × St) :=
  some (((-10 : Int32) - p0), (sI σ 0 12 p0))
theorem wfX10_found {G : ag_G} (p0 : Int32) (σ : St) {z : Int32 × St} (hz : fX10_found p0 σ = some z) {Q : Option Value → St → Prop} (hk : Q (some (.int z.1)) z.2) : AX G mX10_found 0 0 0 [(0, .ref (G.2.2.1 0)), (1, .int p0)] [] σ Q := by
  unfold fX10_found at hz
  refine AX.aload_n dX10_found_0 0 rfl rfl ?_
  refine AX.iload_n dX10_found_1 1 rfl rfl ?_
  refine AX.putI dX10_found_2 fpRX10_90 rfl rfl (vp_nar_int _) rfl ?_
  refine AX.bipush dX10_found_5 bp_m10 ?_
  refine AX.iload_n dX10_found_7 1 rfl rfl ?_
  refine AX.isub dX10_found_8 ?_
  exact AX.ireturn dX10_found_9 rfl (vp_nar_int _) (kz (P := fun z => Q (some (.int z.1)) z.2) hz hk)
theorem xX10_found {G : ag_G} (p0 : Int32) (σ : St) {z : Int32 × St} (hz : fX10_found p0 σ = some z) : AC G yX10_found mX10_found 0 0 [.ref (G.2.2.1 0), .int p0] σ (fun v σ1 => v = some (.int z.1) ∧ σ1 = z.2) := AC.of (plainFor_of_name (by decide)) rfl (Nat.le_of_ble_eq_true rfl) (wfX10_found p0 σ hz ⟨rfl, rfl⟩)
noncomputable def fX10_isNumber (p0 : Int32) : Option (Int32) :=
  (fX10_within p0 (1 : Int32) (110 : Int32)).bind fun q1 => if zb q1 = true then some q1 else none
theorem wfX10_isNumber {G : ag_G} (p0 : Int32) (σ : St) {z : Int32} (hz : fX10_isNumber p0 = some z) {Q : Option Value → St → Prop} (hk : Q (some (.int z)) σ) : AX G mX10_isNumber 1 22 0 [(0, .int p0)] [] σ Q := by
  unfold fX10_isNumber at hz
  refine AX.iload_n dX10_isNumber_0 0 rfl rfl ?_
  refine AX.iconst dX10_isNumber_1 ic_1 ?_
  refine AX.bipush dX10_isNumber_2 bp_110 ?_
  obtain ⟨q1, hq1, hz⟩ := obind hz
  refine AX.callSw (As := [.int p0, .int 1, .int 110]) (rest := []) (w := some (.int q1)) (st' := [.int q1]) dX10_isNumber_4 mlRX10_94 ylX10_within ysX10_within rfl rfl (Nat.le_of_ble_eq_true rfl) ⟨Nat.le_of_ble_eq_true rfl, Nat.le_of_ble_eq_true rfl⟩ (xX10_within p0 (1 : Int32) (110 : Int32) σ hq1) rfl ?_
  obtain ⟨b2, hz⟩ := ite_n hz
  exact AX.ireturn dX10_isNumber_7 rfl (zb_nar b2) (kz (P := fun z => Q (some (.int z)) σ) hz hk)
theorem xX10_isNumber {G : ag_G} (p0 : Int32) (σ : St) {z : Int32} (hz : fX10_isNumber p0 = some z) : AC G yX10_isNumber mX10_isNumber 1 22 [.int p0] σ (fun v σ1 => v = some (.int z) ∧ σ1 = σ) := AC.of (plainFor_of_name (by decide)) rfl (Nat.le_of_ble_eq_true rfl) (wfX10_isNumber p0 σ hz ⟨rfl, rfl⟩)
noncomputable def fX10_read_j84 (l2 : Nat) (l4 : Int32) (t0 : Int32) (σ : St) : Option ((Int32 × Int32 × St) ⊕ St) :=
  if isS l2 = true then some (.inl (t0, l4 + 1, σ)) else none
theorem wfX10_read_j84 {G : ag_G} (l2 : Nat) (l4 : Int32) (t0 : Int32) (σ : St) {z : (Int32 × Int32 × St) ⊕ St} (hz : fX10_read_j84 l2 l4 t0 σ = some z) {Q : Option Value → St → Prop} (K : ((Int32 × Int32 × St) ⊕ St) → Prop) (hback : ∀ a : Int32 × Int32 × St, K (.inl a) → AX G mX10_read 2 42 38 [(0, .ref (G.2.2.1 0)), (2, .ref (G.2.2.1 l2)), (3, .int a.1), (4, .int a.2.1)] [] a.2.2 Q) (hk : K z) : AX G mX10_read 2 42 84 [(0, .ref (G.2.2.1 0)), (2, .ref (G.2.2.1 l2)), (4, .int l4)] [.int t0] σ Q := by
  unfold fX10_read_j84 at hz
  obtain ⟨hr2, hz⟩ := ite_n hz
  refine AX.istore_n (ls' := [(0, .ref (G.2.2.1 0)), (2, .ref (G.2.2.1 l2)), (3, .int t0), (4, .int l4)]) dX10_read_84 rfl (Nat.le_of_ble_eq_true rfl) rfl ?_
  refine AX.iinc (v := l4 + 1) (ls' := [(0, .ref (G.2.2.1 0)), (2, .ref (G.2.2.1 l2)), (3, .int t0), (4, .int (l4 + 1))]) 3 dX10_read_85 rfl (Nat.le_of_ble_eq_true rfl) (congrArg (l4 + ·) ic_1) rfl ?_
  refine AX.goto (tgt := 38) dX10_read_88 rfl ?_
  exact AX.sub (ls' := [(0, .ref (G.2.2.1 0)), (2, .ref (G.2.2.1 l2)), (3, .int t0), (4, .int (l4 + 1))]) [0, 1, 2, 3] rfl (hback (t0, l4 + 1, σ) (kz (P := K) hz hk))
noncomputable def fX10_read_j83 (l2 : Nat) (l4 : Int32) (σ : St) : Option ((Int32 × Int32 × St) ⊕ St) :=
  if isS l2 = true then fX10_read_j84 l2 l4 0 σ else none
theorem wfX10_read_j83 {G : ag_G} (l2 : Nat) (l4 : Int32) (σ : St) {z : (Int32 × Int32 × St) ⊕ St} (hz : fX10_read_j83 l2 l4 σ = some z) {Q : Option Value → St → Prop} (K : ((Int32 × Int32 × St) ⊕ St) → Prop) (hback : ∀ a : Int32 × Int32 × St, K (.inl a) → AX G mX10_read 2 42 38 [(0, .ref (G.2.2.1 0)), (2, .ref (G.2.2.1 l2)), (3, .int a.1), (4, .int a.2.1)] [] a.2.2 Q) (hk : K z) : AX G mX10_read 2 42 83 [(0, .ref (G.2.2.1 0)), (2, .ref (G.2.2.1 l2)), (4, .int l4)] [] σ Q := by
  unfold fX10_read_j83 at hz
  obtain ⟨hr2, hz⟩ := ite_n hz
  refine AX.iconst dX10_read_83 ic_0 ?_
  exact AX.sub (ls' := [(0, .ref (G.2.2.1 0)), (2, .ref (G.2.2.1 l2)), (4, .int l4)]) [0, 1, 2] rfl (wfX10_read_j84 l2 l4 0 σ hz K hback hk)
noncomputable def fX10_read_b38 (l2 : Nat) (l3 : Int32) (l4 : Int32) (σ : St) : Option ((Int32 × Int32 × St) ⊕ St) :=
  if isS l2 = true then if (σ.1 l2 3) ≤ l4 then some (.inr σ) else if l3 = (0 : Int32) then some (.inr σ) else (fX7_itemOf l2 l4 σ).bind fun q3 => (fX10_isNumber q3).bind fun q4 => if q4 = (0 : Int32) then fX10_read_j83 l2 l4 σ else (fX0_append q3 σ).bind fun q6 => if q6.1 = (0 : Int32) then fX10_read_j83 l2 l4 q6.2 else fX10_read_j84 l2 l4 1 q6.2 else none
theorem wfX10_read_b38 {G : ag_G} (l2 : Nat) (l3 : Int32) (l4 : Int32) (σ : St) {z : (Int32 × Int32 × St) ⊕ St} (hz : fX10_read_b38 l2 l3 l4 σ = some z) {Q : Option Value → St → Prop} (K : ((Int32 × Int32 × St) ⊕ St) → Prop) (hback : ∀ a : Int32 × Int32 × St, K (.inl a) → AX G mX10_read 2 42 38 [(0, .ref (G.2.2.1 0)), (2, .ref (G.2.2.1 l2)), (3, .int a.1), (4, .int a.2.1)] [] a.2.2 Q) (hexit0 : ∀ a : St, K (.inr a) → AX G mX10_read 2 42 91 [(0, .ref (G.2.2.1 0))] [] a Q) (hk : K z) : AX G mX10_read 2 42 38 [(0, .ref (G.2.2.1 0)), (2, .ref (G.2.2.1 l2)), (3, .int l3), (4, .int l4)] [] σ Q := by
  unfold fX10_read_b38 at hz
  obtain ⟨hr2, hz⟩ := ite_n hz
  refine AX.iload dX10_read_38 3 rfl ?_
  refine AX.aload_n dX10_read_40 1 rfl rfl ?_
  refine AX.getIE (v := σ.1 l2 3) dX10_read_41 flRX10_157 (isS_tw hr2) rfl rfl ?_
  refine AX.icmp_ge (tgt := 91) dX10_read_44 rfl (fun c1 => ?_) (fun c1 => ?_)
  · replace hz := (if_pos c1).symm.trans hz
    exact AX.sub (ls' := [(0, .ref (G.2.2.1 0))]) [0] rfl (hexit0 σ (kz (P := K) hz hk))
  · replace hz := (if_neg c1).symm.trans hz
    refine AX.iload_n dX10_read_47 2 rfl rfl ?_
    refine AX.if_eq (tgt := 91) dX10_read_48 rfl (fun c2 => ?_) (fun c2 => ?_)
    · replace hz := (if_pos c2).symm.trans hz
      exact AX.sub (ls' := [(0, .ref (G.2.2.1 0))]) [0] rfl (hexit0 σ (kz (P := K) hz hk))
    · replace hz := (if_neg c2).symm.trans hz
      refine AX.aload_n dX10_read_51 1 rfl rfl ?_
      refine AX.iload dX10_read_52 3 rfl ?_
      obtain ⟨q3, hq3, hz⟩ := obind hz
      refine AX.callVw (r := l2) (As := [.int l4]) (rest := []) (w := some (.int q3)) (st' := [.int q3]) dX10_read_54 mlRX10_158 ylX7_itemOf yvX7_itemOf (isS_tw hr2) rfl rfl (Nat.le_of_ble_eq_true rfl) ⟨Nat.le_of_ble_eq_true rfl, Nat.le_of_ble_eq_true rfl⟩ (xX7_itemOf l2 l4 σ hq3) rfl ?_
      refine AX.istore (ls' := [(0, .ref (G.2.2.1 0)), (2, .ref (G.2.2.1 l2)), (3, .int l3), (4, .int l4), (5, .int q3)]) dX10_read_57 (Nat.le_of_ble_eq_true rfl) rfl ?_
      refine AX.iload dX10_read_59 4 rfl ?_
      obtain ⟨q4, hq4, hz⟩ := obind hz
      refine AX.callSw (As := [.int q3]) (rest := []) (w := some (.int q4)) (st' := [.int q4]) dX10_read_61 mlRX10_161 ylX10_isNumber ysX10_isNumber rfl rfl (Nat.le_of_ble_eq_true rfl) ⟨Nat.le_of_ble_eq_true rfl, Nat.le_of_ble_eq_true rfl⟩ (xX10_isNumber q3 σ hq4) rfl ?_
      refine AX.if_eq (tgt := 83) dX10_read_64 rfl (fun c5 => ?_) (fun c5 => ?_)
      · replace hz := (if_pos c5).symm.trans hz
        exact AX.sub (ls' := [(0, .ref (G.2.2.1 0)), (2, .ref (G.2.2.1 l2)), (4, .int l4)]) [0, 1, 3] rfl (wfX10_read_j83 l2 l4 σ hz K hback hk)
      · replace hz := (if_neg c5).symm.trans hz
        refine AX.aload_n dX10_read_67 0 rfl rfl ?_
        refine AX.getR dX10_read_68 flRX10_68 rfl rfl ?_
        refine AX.iload dX10_read_71 4 rfl ?_
        obtain ⟨q6, hq6, hz⟩ := obind hz
        refine AX.callVw (r := 32) (As := [.int q3]) (rest := []) (w := some (.int q6.1)) (st' := [.int q6.1]) dX10_read_73 mlRX10_164 ylX0_append yvX0_append rfl rfl rfl (Nat.le_of_ble_eq_true rfl) ⟨Nat.le_of_ble_eq_true rfl, Nat.le_of_ble_eq_true rfl⟩ (xX0_append q3 σ hq6) rfl ?_
        refine AX.if_eq (tgt := 83) dX10_read_76 rfl (fun c7 => ?_) (fun c7 => ?_)
        · replace hz := (if_pos c7).symm.trans hz
          exact AX.sub (ls' := [(0, .ref (G.2.2.1 0)), (2, .ref (G.2.2.1 l2)), (4, .int l4)]) [0, 1, 3] rfl (wfX10_read_j83 l2 l4 q6.2 hz K hback hk)
        · replace hz := (if_neg c7).symm.trans hz
          refine AX.iconst dX10_read_79 ic_1 ?_
          refine AX.goto (tgt := 84) dX10_read_80 rfl ?_
          exact AX.sub (ls' := [(0, .ref (G.2.2.1 0)), (2, .ref (G.2.2.1 l2)), (4, .int l4)]) [0, 1, 3] rfl (wfX10_read_j84 l2 l4 1 q6.2 hz K hback hk)
noncomputable def fX10_read (p0 : Int32) (σ : St) : Option (Int32 × St) :=
  (fX10_sheetAt p0 σ).bind fun q1 => Option.elim q1 (some ((-2 : Int32), σ)) (fun k2 => if isS k2 = true then if (σ.1 k2 1) = (0 : Int32) then (fX0_clear  σ).bind fun q5 => (lpc (fun s => fX10_read_b38 k2 s.1 s.2.1 s.2.2) (1, 0, q5)).bind fun r6 => some ((r6.1 32 1), r6) else (fX10_found (1 : Int32) σ).bind fun q7 => some (q7.1, q7.2) else none)
theorem wfX10_read {G : ag_G} (p0 : Int32) (σ : St) {z : Int32 × St} (hz : fX10_read p0 σ = some z) {Q : Option Value → St → Prop} (hk : Q (some (.int z.1)) z.2) : AX G mX10_read 2 42 0 [(0, .ref (G.2.2.1 0)), (1, .int p0)] [] σ Q := by
  unfold fX10_read at hz
  refine AX.aload_n dX10_read_0 0 rfl rfl ?_
  refine AX.iload_n dX10_read_1 1 rfl rfl ?_
  obtain ⟨q1, hq1, hz⟩ := obind hz
  rcases q1 with _ | k2
  · dsimp only [Option.elim] at hz
    refine AX.callVw (r := 0) (As := [.int p0]) (rest := []) (w := some .null) (st' := [.null]) dX10_read_2 mlRX10_144 ylX10_sheetAt yvX10_sheetAt rfl rfl rfl (Nat.le_of_ble_eq_true rfl) ⟨Nat.le_of_ble_eq_true rfl, Nat.le_of_ble_eq_true rfl⟩ (xX10_sheetAt p0 σ hq1) rfl ?_
    refine AX.astore_nN (ls' := [(0, .ref (G.2.2.1 0)), (1, .int p0), (2, .null)]) dX10_read_5 rfl (Nat.le_of_ble_eq_true rfl) rfl ?_
    refine AX.aload_nN dX10_read_6 2 rfl rfl ?_
    refine AX.ifnonnull_null dX10_read_7 ?_
    refine AX.bipush dX10_read_10 bp_m2 ?_
    exact AX.ireturn dX10_read_12 rfl (vp_nar_int _) (kz (P := fun z => Q (some (.int z.1)) z.2) hz hk)
  · dsimp only [Option.elim] at hz
    obtain ⟨hs3, hz⟩ := ite_n hz
    refine AX.callVw (r := 0) (As := [.int p0]) (rest := []) (w := some (.ref (G.2.2.1 k2))) (st' := [.ref (G.2.2.1 k2)]) dX10_read_2 mlRX10_144 ylX10_sheetAt yvX10_sheetAt rfl rfl rfl (Nat.le_of_ble_eq_true rfl) ⟨Nat.le_of_ble_eq_true rfl, Nat.le_of_ble_eq_true rfl⟩ (xX10_sheetAt p0 σ hq1) rfl ?_
    refine AX.astore_n (ls' := [(0, .ref (G.2.2.1 0)), (1, .int p0), (2, .ref (G.2.2.1 k2))]) dX10_read_5 rfl (Nat.le_of_ble_eq_true rfl) rfl ?_
    refine AX.aload_n dX10_read_6 2 rfl rfl ?_
    refine AX.ifnonnull_ref (tgt := 13) dX10_read_7 rfl ?_
    refine AX.aload_n dX10_read_13 2 rfl rfl ?_
    refine AX.getIE (v := σ.1 k2 1) dX10_read_14 flRX10_148 (isS_tw hs3) rfl rfl ?_
    refine AX.if_eq (tgt := 26) dX10_read_17 rfl (fun c4 => ?_) (fun c4 => ?_)
    · replace hz := (if_pos c4).symm.trans hz
      refine AX.aload_n dX10_read_26 0 rfl rfl ?_
      refine AX.getR dX10_read_27 flRX10_68 rfl rfl ?_
      obtain ⟨q5, hq5, hz⟩ := obind hz
      refine AX.callVw (r := 32) (As := []) (rest := []) (w := none) (st' := []) dX10_read_30 mlRX10_154 ylX0_clear yvX0_clear rfl rfl rfl (Nat.le_of_ble_eq_true rfl) ⟨Nat.le_of_ble_eq_true rfl, Nat.le_of_ble_eq_true rfl⟩ (xX0_clear  σ hq5) rfl ?_
      refine AX.iconst dX10_read_33 ic_1 ?_
      refine AX.istore_n (ls' := [(0, .ref (G.2.2.1 0)), (1, .int p0), (2, .ref (G.2.2.1 k2)), (3, .int 1)]) dX10_read_34 rfl (Nat.le_of_ble_eq_true rfl) rfl ?_
      refine AX.iconst dX10_read_35 ic_0 ?_
      refine AX.istore (ls' := [(0, .ref (G.2.2.1 0)), (1, .int p0), (2, .ref (G.2.2.1 k2)), (3, .int 1), (4, .int 0)]) dX10_read_36 (Nat.le_of_ble_eq_true rfl) rfl ?_
      obtain ⟨r6, hr6, hz⟩ := obind hz
      refine AX.sub (ls' := [(0, .ref (G.2.2.1 0)), (2, .ref (G.2.2.1 k2)), (3, .int 1), (4, .int 0)]) [0, 2, 3, 4] rfl ?_
      refine lpc_ind (s := (1, 0, q5)) (r := r6) (fun s => AX G mX10_read 2 42 38 [(0, .ref (G.2.2.1 0)), (2, .ref (G.2.2.1 k2)), (3, .int s.1), (4, .int s.2.1)] [] s.2.2 Q) (fun a : St => AX G mX10_read 2 42 91 [(0, .ref (G.2.2.1 0))] [] a Q) hr6 (fun s z hb hK => wfX10_read_b38 k2 s.1 s.2.1 s.2.2 hb (Sum.elim (fun s => AX G mX10_read 2 42 38 [(0, .ref (G.2.2.1 0)), (2, .ref (G.2.2.1 k2)), (3, .int s.1), (4, .int s.2.1)] [] s.2.2 Q) (fun a : St => AX G mX10_read 2 42 91 [(0, .ref (G.2.2.1 0))] [] a Q)) (fun _ h9 => h9) (fun _ h9 => h9) hK) ?_
      refine AX.aload_n dX10_read_91 0 rfl rfl ?_
      refine AX.getR dX10_read_92 flRX10_68 rfl rfl ?_
      refine AX.getIE (v := r6.1 32 1) dX10_read_95 flRX10_165 rfl rfl rfl ?_
      exact AX.ireturn dX10_read_98 rfl (vp_nar_int _) (kz (P := fun z => Q (some (.int z.1)) z.2) hz hk)
    · replace hz := (if_neg c4).symm.trans hz
      refine AX.aload_n dX10_read_20 0 rfl rfl ?_
      refine AX.iconst dX10_read_21 ic_1 ?_
      obtain ⟨q7, hq7, hz⟩ := obind hz
      refine AX.callVw (r := 0) (As := [.int 1]) (rest := []) (w := some (.int q7.1)) (st' := [.int q7.1]) dX10_read_22 mlRX10_151 ylX10_found yvX10_found rfl rfl rfl (Nat.le_of_ble_eq_true rfl) ⟨Nat.le_of_ble_eq_true rfl, Nat.le_of_ble_eq_true rfl⟩ (xX10_found (1 : Int32) σ hq7) rfl ?_
      exact AX.ireturn dX10_read_25 rfl (vp_nar_int _) (kz (P := fun z => Q (some (.int z.1)) z.2) hz hk)
theorem xX10_read {G : ag_G} (p0 : Int32) (σ : St) {z : Int32 × St} (hz : fX10_read p0 σ = some z) : AC G yX10_read mX10_read 2 42 [.ref (G.2.2.1 0), .int p0] σ (fun v σ1 => v = some (.int z.1) ∧ σ1 = z.2) := AC.of (plainFor_of_name (by decide)) rfl (Nat.le_of_ble_eq_true rfl) (wfX10_read p0 σ hz ⟨rfl, rfl⟩)
noncomputable def fX10_addNote (p0 : Int32) (p1 : Int32) (p2 : Int32) (σ : St) : Option (Int32 × St) :=
  (fX2_append p0 p1 p2 σ).bind fun q1 => if q1.1 = (0 : Int32) then some ((-4 : Int32), q1.2) else some ((q1.2.1 15 3), (sI q1.2 0 11 1))
theorem wfX10_addNote {G : ag_G} (p0 : Int32) (p1 : Int32) (p2 : Int32) (σ : St) {z : Int32 × St} (hz : fX10_addNote p0 p1 p2 σ = some z) {Q : Option Value → St → Prop} (hk : Q (some (.int z.1)) z.2) : AX G mX10_addNote 1 23 0 [(0, .ref (G.2.2.1 0)), (1, .int p0), (2, .int p1), (3, .int p2)] [] σ Q := by
  unfold fX10_addNote at hz
  refine AX.aload_n dX10_addNote_0 0 rfl rfl ?_
  refine AX.getR dX10_addNote_1 flRX10_36 rfl rfl ?_
  refine AX.iload_n dX10_addNote_4 1 rfl rfl ?_
  refine AX.iload_n dX10_addNote_5 2 rfl rfl ?_
  refine AX.iload_n dX10_addNote_6 3 rfl rfl ?_
  obtain ⟨q1, hq1, hz⟩ := obind hz
  refine AX.callVw (r := 15) (As := [.int p0, .int p1, .int p2]) (rest := []) (w := some (.int q1.1)) (st' := [.int q1.1]) dX10_addNote_7 mlRX10_372 ylX2_append yvX2_append rfl rfl rfl (Nat.le_of_ble_eq_true rfl) ⟨Nat.le_of_ble_eq_true rfl, Nat.le_of_ble_eq_true rfl⟩ (xX2_append p0 p1 p2 σ hq1) rfl ?_
  refine AX.if_ne (tgt := 16) dX10_addNote_10 rfl (fun c2 => ?_) (fun c2 => ?_)
  · replace hz := (if_neg c2).symm.trans hz
    refine AX.aload_n dX10_addNote_16 0 rfl rfl ?_
    refine AX.iconst dX10_addNote_17 ic_1 ?_
    refine AX.putI dX10_addNote_18 fpRX10_86 rfl rfl nb_1 rfl ?_
    refine AX.aload_n dX10_addNote_21 0 rfl rfl ?_
    refine AX.getR dX10_addNote_22 flRX10_36 rfl rfl ?_
    refine AX.getIE (v := q1.2.1 15 3) dX10_addNote_25 flRX10_170 rfl rfl rfl ?_
    exact AX.ireturn dX10_addNote_28 rfl (vp_nar_int _) (kz (P := fun z => Q (some (.int z.1)) z.2) hz hk)
  · replace hz := (if_pos c2).symm.trans hz
    refine AX.bipush dX10_addNote_13 bp_m4 ?_
    exact AX.ireturn dX10_addNote_15 rfl (vp_nar_int _) (kz (P := fun z => Q (some (.int z.1)) z.2) hz hk)
theorem xX10_addNote {G : ag_G} (p0 : Int32) (p1 : Int32) (p2 : Int32) (σ : St) {z : Int32 × St} (hz : fX10_addNote p0 p1 p2 σ = some z) : AC G yX10_addNote mX10_addNote 1 23 [.ref (G.2.2.1 0), .int p0, .int p1, .int p2] σ (fun v σ1 => v = some (.int z.1) ∧ σ1 = z.2) := AC.of (plainFor_of_name (by decide)) rfl (Nat.le_of_ble_eq_true rfl) (wfX10_addNote p0 p1 p2 σ hz ⟨rfl, rfl⟩)
noncomputable def fX10_hear_j16  (σ : St) : Option (Int32 × St) :=
  some ((-2 : Int32), σ)
theorem wfX10_hear_j16 {G : ag_G}  (σ : St) {z : Int32 × St} (hz : fX10_hear_j16  σ = some z) {Q : Option Value → St → Prop} (hk : Q (some (.int z.1)) z.2) : AX G mX10_hear 2 46 16 [] [] σ Q := by
  unfold fX10_hear_j16 at hz
  refine AX.bipush dX10_hear_16 bp_m2 ?_
  exact AX.ireturn dX10_hear_18 rfl (vp_nar_int _) (kz (P := fun z => Q (some (.int z.1)) z.2) hz hk)
noncomputable def fX10_hear (p0 : Int32) (p1 : Int32) (σ : St) : Option (Int32 × St) :=
  (fX10_isNumber p0).bind fun q1 => if q1 = (0 : Int32) then fX10_hear_j16  σ else (fX10_within p1 (0 : Int32) (3 : Int32)).bind fun q3 => if q3 = (0 : Int32) then fX10_hear_j16  σ else (fX10_addNote p0 p1 (-1 : Int32) σ).bind fun q5 => some (q5.1, q5.2)
theorem wfX10_hear {G : ag_G} (p0 : Int32) (p1 : Int32) (σ : St) {z : Int32 × St} (hz : fX10_hear p0 p1 σ = some z) {Q : Option Value → St → Prop} (hk : Q (some (.int z.1)) z.2) : AX G mX10_hear 2 46 0 [(0, .ref (G.2.2.1 0)), (1, .int p0), (2, .int p1)] [] σ Q := by
  unfold fX10_hear at hz
  refine AX.iload_n dX10_hear_0 1 rfl rfl ?_
  obtain ⟨q1, hq1, hz⟩ := obind hz
  refine AX.callSw (As := [.int p0]) (rest := []) (w := some (.int q1)) (st' := [.int q1]) dX10_hear_1 mlRX10_161 ylX10_isNumber ysX10_isNumber rfl rfl (Nat.le_of_ble_eq_true rfl) ⟨Nat.le_of_ble_eq_true rfl, Nat.le_of_ble_eq_true rfl⟩ (xX10_isNumber p0 σ hq1) rfl ?_
  refine AX.if_eq (tgt := 16) dX10_hear_4 rfl (fun c2 => ?_) (fun c2 => ?_)
  · replace hz := (if_pos c2).symm.trans hz
    exact AX.sub (ls' := []) [] rfl (wfX10_hear_j16  σ hz hk)
  · replace hz := (if_neg c2).symm.trans hz
    refine AX.iload_n dX10_hear_7 2 rfl rfl ?_
    refine AX.iconst dX10_hear_8 ic_0 ?_
    refine AX.iconst dX10_hear_9 ic_3 ?_
    obtain ⟨q3, hq3, hz⟩ := obind hz
    refine AX.callSw (As := [.int p1, .int 0, .int 3]) (rest := []) (w := some (.int q3)) (st' := [.int q3]) dX10_hear_10 mlRX10_94 ylX10_within ysX10_within rfl rfl (Nat.le_of_ble_eq_true rfl) ⟨Nat.le_of_ble_eq_true rfl, Nat.le_of_ble_eq_true rfl⟩ (xX10_within p1 (0 : Int32) (3 : Int32) σ hq3) rfl ?_
    refine AX.if_ne (tgt := 19) dX10_hear_13 rfl (fun c4 => ?_) (fun c4 => ?_)
    · replace hz := (if_neg c4).symm.trans hz
      refine AX.aload_n dX10_hear_19 0 rfl rfl ?_
      refine AX.iload_n dX10_hear_20 1 rfl rfl ?_
      refine AX.iload_n dX10_hear_21 2 rfl rfl ?_
      refine AX.iconst dX10_hear_22 ic_m1 ?_
      obtain ⟨q5, hq5, hz⟩ := obind hz
      refine AX.callVw (r := 0) (As := [.int p0, .int p1, .int (-1)]) (rest := []) (w := some (.int q5.1)) (st' := [.int q5.1]) dX10_hear_23 mlRX10_166 ylX10_addNote yvX10_addNote rfl rfl rfl (Nat.le_of_ble_eq_true rfl) ⟨Nat.le_of_ble_eq_true rfl, Nat.le_of_ble_eq_true rfl⟩ (xX10_addNote p0 p1 (-1 : Int32) σ hq5) rfl ?_
      exact AX.ireturn dX10_hear_26 rfl (vp_nar_int _) (kz (P := fun z => Q (some (.int z.1)) z.2) hz hk)
    · replace hz := (if_pos c4).symm.trans hz
      exact AX.sub (ls' := []) [] rfl (wfX10_hear_j16  σ hz hk)
theorem xX10_hear {G : ag_G} (p0 : Int32) (p1 : Int32) (σ : St) {z : Int32 × St} (hz : fX10_hear p0 p1 σ = some z) : AC G yX10_hear mX10_hear 2 46 [.ref (G.2.2.1 0), .int p0, .int p1] σ (fun v σ1 => v = some (.int z.1) ∧ σ1 = z.2) := AC.of (plainFor_of_name (by decide)) rfl (Nat.le_of_ble_eq_true rfl) (wfX10_hear p0 p1 σ hz ⟨rfl, rfl⟩)
noncomputable def fX10_shown_j17  (σ : St) : Option (Int32 × St) :=
  some ((-2 : Int32), σ)
theorem wfX10_shown_j17 {G : ag_G}  (σ : St) {z : Int32 × St} (hz : fX10_shown_j17  σ = some z) {Q : Option Value → St → Prop} (hk : Q (some (.int z.1)) z.2) : AX G mX10_shown 2 46 17 [] [] σ Q := by
  unfold fX10_shown_j17 at hz
  refine AX.bipush dX10_shown_17 bp_m2 ?_
  exact AX.ireturn dX10_shown_19 rfl (vp_nar_int _) (kz (P := fun z => Q (some (.int z.1)) z.2) hz hk)
noncomputable def fX10_shown (p0 : Int32) (p1 : Int32) (σ : St) : Option (Int32 × St) :=
  (fX10_isNumber p0).bind fun q1 => if q1 = (0 : Int32) then fX10_shown_j17  σ else (fX10_within p1 (0 : Int32) (98 : Int32)).bind fun q3 => if q3 = (0 : Int32) then fX10_shown_j17  σ else (fX10_addNote p0 (-1 : Int32) p1 σ).bind fun q5 => some (q5.1, q5.2)
theorem wfX10_shown {G : ag_G} (p0 : Int32) (p1 : Int32) (σ : St) {z : Int32 × St} (hz : fX10_shown p0 p1 σ = some z) {Q : Option Value → St → Prop} (hk : Q (some (.int z.1)) z.2) : AX G mX10_shown 2 46 0 [(0, .ref (G.2.2.1 0)), (1, .int p0), (2, .int p1)] [] σ Q := by
  unfold fX10_shown at hz
  refine AX.iload_n dX10_shown_0 1 rfl rfl ?_
  obtain ⟨q1, hq1, hz⟩ := obind hz
  refine AX.callSw (As := [.int p0]) (rest := []) (w := some (.int q1)) (st' := [.int q1]) dX10_shown_1 mlRX10_161 ylX10_isNumber ysX10_isNumber rfl rfl (Nat.le_of_ble_eq_true rfl) ⟨Nat.le_of_ble_eq_true rfl, Nat.le_of_ble_eq_true rfl⟩ (xX10_isNumber p0 σ hq1) rfl ?_
  refine AX.if_eq (tgt := 17) dX10_shown_4 rfl (fun c2 => ?_) (fun c2 => ?_)
  · replace hz := (if_pos c2).symm.trans hz
    exact AX.sub (ls' := []) [] rfl (wfX10_shown_j17  σ hz hk)
  · replace hz := (if_neg c2).symm.trans hz
    refine AX.iload_n dX10_shown_7 2 rfl rfl ?_
    refine AX.iconst dX10_shown_8 ic_0 ?_
    refine AX.bipush dX10_shown_9 bp_98 ?_
    obtain ⟨q3, hq3, hz⟩ := obind hz
    refine AX.callSw (As := [.int p1, .int 0, .int 98]) (rest := []) (w := some (.int q3)) (st' := [.int q3]) dX10_shown_11 mlRX10_94 ylX10_within ysX10_within rfl rfl (Nat.le_of_ble_eq_true rfl) ⟨Nat.le_of_ble_eq_true rfl, Nat.le_of_ble_eq_true rfl⟩ (xX10_within p1 (0 : Int32) (98 : Int32) σ hq3) rfl ?_
    refine AX.if_ne (tgt := 20) dX10_shown_14 rfl (fun c4 => ?_) (fun c4 => ?_)
    · replace hz := (if_neg c4).symm.trans hz
      refine AX.aload_n dX10_shown_20 0 rfl rfl ?_
      refine AX.iload_n dX10_shown_21 1 rfl rfl ?_
      refine AX.iconst dX10_shown_22 ic_m1 ?_
      refine AX.iload_n dX10_shown_23 2 rfl rfl ?_
      obtain ⟨q5, hq5, hz⟩ := obind hz
      refine AX.callVw (r := 0) (As := [.int p0, .int (-1), .int p1]) (rest := []) (w := some (.int q5.1)) (st' := [.int q5.1]) dX10_shown_24 mlRX10_166 ylX10_addNote yvX10_addNote rfl rfl rfl (Nat.le_of_ble_eq_true rfl) ⟨Nat.le_of_ble_eq_true rfl, Nat.le_of_ble_eq_true rfl⟩ (xX10_addNote p0 (-1 : Int32) p1 σ hq5) rfl ?_
      exact AX.ireturn dX10_shown_27 rfl (vp_nar_int _) (kz (P := fun z => Q (some (.int z.1)) z.2) hz hk)
    · replace hz := (if_pos c4).symm.trans hz
      exact AX.sub (ls' := []) [] rfl (wfX10_shown_j17  σ hz hk)
theorem xX10_shown {G : ag_G} (p0 : Int32) (p1 : Int32) (σ : St) {z : Int32 × St} (hz : fX10_shown p0 p1 σ = some z) : AC G yX10_shown mX10_shown 2 46 [.ref (G.2.2.1 0), .int p0, .int p1] σ (fun v σ1 => v = some (.int z.1) ∧ σ1 = z.2) := AC.of (plainFor_of_name (by decide)) rfl (Nat.le_of_ble_eq_true rfl) (wfX10_shown p0 p1 σ hz ⟨rfl, rfl⟩)
noncomputable def fX10_forget  (σ : St) : Option (Int32 × St) :=
  ltb (σ.1 15 3) fun x1 => some (x1, (sI (sI σ 15 3 0) 0 11 1))
theorem wfX10_forget {G : ag_G}  (σ : St) {z : Int32 × St} (hz : fX10_forget  σ = some z) {Q : Option Value → St → Prop} (hk : Q (some (.int z.1)) z.2) : AX G mX10_forget 0 0 0 [(0, .ref (G.2.2.1 0))] [] σ Q := by
  unfold fX10_forget at hz
  refine AX.aload_n dX10_forget_0 0 rfl rfl ?_
  refine AX.getR dX10_forget_1 flRX10_36 rfl rfl ?_
  refine AX.getIE (v := σ.1 15 3) dX10_forget_4 flRX10_170 rfl rfl rfl ?_
  obtain ⟨x1, hx1, hz⟩ := ltb_e hz
  refine AX.topI hx1 ?_
  refine AX.istore_n (ls' := [(0, .ref (G.2.2.1 0)), (1, .int x1)]) dX10_forget_7 rfl (Nat.le_of_ble_eq_true rfl) rfl ?_
  refine AX.aload_n dX10_forget_8 0 rfl rfl ?_
  refine AX.getR dX10_forget_9 flRX10_36 rfl rfl ?_
  refine AX.iconst dX10_forget_12 ic_0 ?_
  refine AX.putI dX10_forget_13 fpRX10_170 rfl rfl (vp_nar_int _) rfl ?_
  refine AX.aload_n dX10_forget_16 0 rfl rfl ?_
  refine AX.iconst dX10_forget_17 ic_1 ?_
  refine AX.putI dX10_forget_18 fpRX10_86 rfl rfl nb_1 rfl ?_
  refine AX.iload_n dX10_forget_21 1 rfl rfl ?_
  exact AX.ireturn dX10_forget_22 rfl (vp_nar_int _) (kz (P := fun z => Q (some (.int z.1)) z.2) hz hk)
theorem xX10_forget {G : ag_G}  (σ : St) {z : Int32 × St} (hz : fX10_forget  σ = some z) : AC G yX10_forget mX10_forget 0 0 [.ref (G.2.2.1 0)] σ (fun v σ1 => v = some (.int z.1) ∧ σ1 = z.2) := AC.of (plainFor_of_name (by decide)) rfl (Nat.le_of_ble_eq_true rfl) (wfX10_forget  σ hz ⟨rfl, rfl⟩)
noncomputable def fX10_isPart (p0 : Int32) : Option (Int32) :=
  (fX10_within p0 (0 : Int32) (1 : Int32)).bind fun q1 => if zb q1 = true then some q1 else none
theorem wfX10_isPart {G : ag_G} (p0 : Int32) (σ : St) {z : Int32} (hz : fX10_isPart p0 = some z) {Q : Option Value → St → Prop} (hk : Q (some (.int z)) σ) : AX G mX10_isPart 1 22 0 [(0, .int p0)] [] σ Q := by
  unfold fX10_isPart at hz
  refine AX.iload_n dX10_isPart_0 0 rfl rfl ?_
  refine AX.iconst dX10_isPart_1 ic_0 ?_
  refine AX.iconst dX10_isPart_2 ic_1 ?_
  obtain ⟨q1, hq1, hz⟩ := obind hz
  refine AX.callSw (As := [.int p0, .int 0, .int 1]) (rest := []) (w := some (.int q1)) (st' := [.int q1]) dX10_isPart_3 mlRX10_94 ylX10_within ysX10_within rfl rfl (Nat.le_of_ble_eq_true rfl) ⟨Nat.le_of_ble_eq_true rfl, Nat.le_of_ble_eq_true rfl⟩ (xX10_within p0 (0 : Int32) (1 : Int32) σ hq1) rfl ?_
  obtain ⟨b2, hz⟩ := ite_n hz
  exact AX.ireturn dX10_isPart_6 rfl (zb_nar b2) (kz (P := fun z => Q (some (.int z)) σ) hz hk)
theorem xX10_isPart {G : ag_G} (p0 : Int32) (σ : St) {z : Int32} (hz : fX10_isPart p0 = some z) : AC G yX10_isPart mX10_isPart 1 22 [.int p0] σ (fun v σ1 => v = some (.int z) ∧ σ1 = σ) := AC.of (plainFor_of_name (by decide)) rfl (Nat.le_of_ble_eq_true rfl) (wfX10_isPart p0 σ hz ⟨rfl, rfl⟩)
noncomputable def fX10_refusal (p0 : Int32) : Option (Int64) :=
  some ((-9223372036854775808 : Int64) - p0.toInt64)
theorem wfX10_refusal {G : ag_G} (p0 : Int32) (σ : St) {z : Int64} (hz : fX10_refusal p0 = some z) {Q : Option Value → St → Prop} (hk : Q (some (.long z)) σ) : AX G mX10_refusal 0 0 0 [(0, .int p0)] [] σ Q := by
  unfold fX10_refusal at hz
  refine AX.ldc2 dX10_refusal_0 kcRX10_370 ?_
  refine AX.iload_n dX10_refusal_3 0 rfl rfl ?_
  refine AX.i2l dX10_refusal_4 ?_
  refine AX.lsub dX10_refusal_5 ?_
  exact AX.lreturn dX10_refusal_6 rfl (kz (P := fun z => Q (some (.long z)) σ) hz hk)
theorem xX10_refusal {G : ag_G} (p0 : Int32) (σ : St) {z : Int64} (hz : fX10_refusal p0 = some z) : AC G yX10_refusal mX10_refusal 0 0 [.int p0] σ (fun v σ1 => v = some (.long z) ∧ σ1 = σ) := AC.of (plainFor_of_name (by decide)) rfl (Nat.le_of_ble_eq_true rfl) (wfX10_refusal p0 σ hz ⟨rfl, rfl⟩)
noncomputable def fX10_refreshWays  (σ : St) : Option (St) :=
  if (σ.1 0 11) = (0 : Int32) then some σ else (fX9_find  σ).bind fun q2 => some (sI q2 0 11 0)
theorem wfX10_refreshWays {G : ag_G}  (σ : St) {z : St} (hz : fX10_refreshWays  σ = some z) {Q : Option Value → St → Prop} (hk : Q (none) z) : AX G mX10_refreshWays 4 111 0 [(0, .ref (G.2.2.1 0))] [] σ Q := by
  unfold fX10_refreshWays at hz
  refine AX.aload_n dX10_refreshWays_0 0 rfl rfl ?_
  refine AX.getIE (v := σ.1 0 11) dX10_refreshWays_1 flRX10_86 rfl rfl rfl ?_
  refine AX.if_eq (tgt := 19) dX10_refreshWays_4 rfl (fun c1 => ?_) (fun c1 => ?_)
  · replace hz := (if_pos c1).symm.trans hz
    exact AX.vreturn dX10_refreshWays_19 rfl (kz (P := fun z => Q (none) z) hz hk)
  · replace hz := (if_neg c1).symm.trans hz
    refine AX.aload_n dX10_refreshWays_7 0 rfl rfl ?_
    refine AX.getR dX10_refreshWays_8 flRX10_45 rfl rfl ?_
    obtain ⟨q2, hq2, hz⟩ := obind hz
    refine AX.callVw (r := 19) (As := []) (rest := []) (w := none) (st' := []) dX10_refreshWays_11 mlRX10_374 ylX9_find yvX9_find rfl rfl rfl (Nat.le_of_ble_eq_true rfl) ⟨Nat.le_of_ble_eq_true rfl, Nat.le_of_ble_eq_true rfl⟩ (xX9_find  σ hq2) rfl ?_
    refine AX.aload_n dX10_refreshWays_14 0 rfl rfl ?_
    refine AX.iconst dX10_refreshWays_15 ic_0 ?_
    refine AX.putI dX10_refreshWays_16 fpRX10_86 rfl rfl nb_0 rfl ?_
    exact AX.vreturn dX10_refreshWays_19 rfl (kz (P := fun z => Q (none) z) hz hk)
theorem xX10_refreshWays {G : ag_G}  (σ : St) {z : St} (hz : fX10_refreshWays  σ = some z) : AC G yX10_refreshWays mX10_refreshWays 4 111 [.ref (G.2.2.1 0)] σ (fun v σ1 => v = none ∧ σ1 = z) := AC.of (plainFor_of_name (by decide)) rfl (Nat.le_of_ble_eq_true rfl) (wfX10_refreshWays  σ hz ⟨rfl, rfl⟩)
noncomputable def fX10_greatestCommon_b9 (l4 : Int64) (l6 : Int64) (l8 : Int32) : Option ((Int64 × Int64 × Int32) ⊕ Int64) :=
  if (400 : Int32) ≤ l8 then some (.inr l4) else if l6 = (0 : Int64) then some (.inr l4) else if l6 = 0 then none else ltb (l4 - l4 / l6 * l6) fun x4 => some (.inl (l6, x4, l8 + 1))
theorem wfX10_greatestCommon_b9 {G : ag_G} (l4 : Int64) (l6 : Int64) (l8 : Int32) {σ : St} {z : (Int64 × Int64 × Int32) ⊕ Int64} (hz : fX10_greatestCommon_b9 l4 l6 l8 = some z) {Q : Option Value → St → Prop} (K : ((Int64 × Int64 × Int32) ⊕ Int64) → Prop) (hback : ∀ a : Int64 × Int64 × Int32, K (.inl a) → AX G mX10_greatestCommon 0 0 9 [(4, .long a.1), (6, .long a.2.1), (8, .int a.2.2)] [] σ Q) (hexit0 : ∀ a : Int64, K (.inr a) → AX G mX10_greatestCommon 0 0 45 [(4, .long a)] [] σ Q) (hk : K z) : AX G mX10_greatestCommon 0 0 9 [(4, .long l4), (6, .long l6), (8, .int l8)] [] σ Q := by
  unfold fX10_greatestCommon_b9 at hz
  refine AX.iload dX10_greatestCommon_9 2 rfl ?_
  refine AX.sipush dX10_greatestCommon_11 sp_400 ?_
  refine AX.icmp_ge (tgt := 45) dX10_greatestCommon_14 rfl (fun c1 => ?_) (fun c1 => ?_)
  · replace hz := (if_pos c1).symm.trans hz
    exact AX.sub (ls' := [(4, .long l4)]) [0] rfl (hexit0 l4 (kz (P := K) hz hk))
  · replace hz := (if_neg c1).symm.trans hz
    refine AX.lload dX10_greatestCommon_17 1 rfl ?_
    refine AX.lconst dX10_greatestCommon_19 lc_0 ?_
    refine AX.lcmp_eq (tgt := 45) dX10_greatestCommon_20 dX10_greatestCommon_21 rfl (fun c2 => ?_) (fun c2 => ?_)
    · replace hz := (if_pos c2).symm.trans hz
      exact AX.sub (ls' := [(4, .long l4)]) [0] rfl (hexit0 l4 (kz (P := K) hz hk))
    · replace hz := (if_neg c2).symm.trans hz
      refine AX.lload dX10_greatestCommon_24 0 rfl ?_
      refine AX.lload dX10_greatestCommon_26 1 rfl ?_
      obtain ⟨c3, hz⟩ := ite_m hz
      refine AX.lrem dX10_greatestCommon_28 c3 ?_
      obtain ⟨x4, hx4, hz⟩ := ltb_e hz
      refine AX.topL hx4 ?_
      refine AX.lstore (ls' := [(4, .long l4), (6, .long l6), (8, .int l8), (9, .long x4)]) dX10_greatestCommon_29 (Nat.le_of_ble_eq_true rfl) rfl ?_
      refine AX.lload dX10_greatestCommon_31 1 rfl ?_
      refine AX.lstore (ls' := [(4, .long l6), (6, .long l6), (8, .int l8), (9, .long x4)]) dX10_greatestCommon_33 (Nat.le_of_ble_eq_true rfl) rfl ?_
      refine AX.lload dX10_greatestCommon_35 3 rfl ?_
      refine AX.lstore (ls' := [(4, .long l6), (6, .long x4), (8, .int l8), (9, .long x4)]) dX10_greatestCommon_37 (Nat.le_of_ble_eq_true rfl) rfl ?_
      refine AX.iinc (v := l8 + 1) (ls' := [(4, .long l6), (6, .long x4), (8, .int (l8 + 1)), (9, .long x4)]) 2 dX10_greatestCommon_39 rfl (Nat.le_of_ble_eq_true rfl) (congrArg (l8 + ·) ic_1) rfl ?_
      refine AX.goto (tgt := 9) dX10_greatestCommon_42 rfl ?_
      exact AX.sub (ls' := [(4, .long l6), (6, .long x4), (8, .int (l8 + 1))]) [0, 1, 2] rfl (hback (l6, x4, l8 + 1) (kz (P := K) hz hk))
noncomputable def fX10_greatestCommon (p0 : Int64) (p1 : Int64) : Option (Int64) :=
  (lpc (fun s => fX10_greatestCommon_b9  s.1 s.2.1 s.2.2) (p0, p1, 0)).bind fun r1 => some r1
theorem wfX10_greatestCommon {G : ag_G} (p0 : Int64) (p1 : Int64) (σ : St) {z : Int64} (hz : fX10_greatestCommon p0 p1 = some z) {Q : Option Value → St → Prop} (hk : Q (some (.long z)) σ) : AX G mX10_greatestCommon 0 0 0 [(0, .long p0), (2, .long p1)] [] σ Q := by
  unfold fX10_greatestCommon at hz
  refine AX.lload_n dX10_greatestCommon_0 0 rfl rfl ?_
  refine AX.lstore (ls' := [(0, .long p0), (2, .long p1), (4, .long p0)]) dX10_greatestCommon_1 (Nat.le_of_ble_eq_true rfl) rfl ?_
  refine AX.lload_n dX10_greatestCommon_3 1 rfl rfl ?_
  refine AX.lstore (ls' := [(0, .long p0), (2, .long p1), (4, .long p0), (6, .long p1)]) dX10_greatestCommon_4 (Nat.le_of_ble_eq_true rfl) rfl ?_
  refine AX.iconst dX10_greatestCommon_6 ic_0 ?_
  refine AX.istore (ls' := [(0, .long p0), (2, .long p1), (4, .long p0), (6, .long p1), (8, .int 0)]) dX10_greatestCommon_7 (Nat.le_of_ble_eq_true rfl) rfl ?_
  obtain ⟨r1, hr1, hz⟩ := obind hz
  refine AX.sub (ls' := [(4, .long p0), (6, .long p1), (8, .int 0)]) [2, 3, 4] rfl ?_
  refine lpc_ind (s := (p0, p1, 0)) (r := r1) (fun s => AX G mX10_greatestCommon 0 0 9 [(4, .long s.1), (6, .long s.2.1), (8, .int s.2.2)] [] σ Q) (fun a : Int64 => AX G mX10_greatestCommon 0 0 45 [(4, .long a)] [] σ Q) hr1 (fun s z hb hK => wfX10_greatestCommon_b9  s.1 s.2.1 s.2.2 hb (Sum.elim (fun s => AX G mX10_greatestCommon 0 0 9 [(4, .long s.1), (6, .long s.2.1), (8, .int s.2.2)] [] σ Q) (fun a : Int64 => AX G mX10_greatestCommon 0 0 45 [(4, .long a)] [] σ Q)) (fun _ h9 => h9) (fun _ h9 => h9) hK) ?_
  refine AX.lload dX10_greatestCommon_45 0 rfl ?_
  exact AX.lreturn dX10_greatestCommon_47 rfl (kz (P := fun z => Q (some (.long z)) σ) hz hk)
theorem xX10_greatestCommon {G : ag_G} (p0 : Int64) (p1 : Int64) (σ : St) {z : Int64} (hz : fX10_greatestCommon p0 p1 = some z) : AC G yX10_greatestCommon mX10_greatestCommon 0 0 [.long p0, .long p1] σ (fun v σ1 => v = some (.long z) ∧ σ1 = σ) := AC.of (plainFor_of_name (by decide)) rfl (Nat.le_of_ble_eq_true rfl) (wfX10_greatestCommon p0 p1 σ hz ⟨rfl, rfl⟩)
noncomputable def fX10_told_j17 (l5 : Int64) (t0 : Int64) : Option (Int64) :=
  if l5 = (0 : Int64) then some t0 else if l5 = 0 then none else some (t0 / l5)
theorem wfX10_told_j17 {G : ag_G} (l5 : Int64) (t0 : Int64) {σ : St} {z : Int64} (hz : fX10_told_j17 l5 t0 = some z) {Q : Option Value → St → Prop} (hk : Q (some (.long z)) σ) : AX G mX10_told 1 30 17 [(5, .long l5)] [.long t0] σ Q := by
  unfold fX10_told_j17 at hz
  refine AX.lstore (ls' := [(5, .long l5), (7, .long t0)]) dX10_told_17 (Nat.le_of_ble_eq_true rfl) rfl ?_
  refine AX.lload dX10_told_19 0 rfl ?_
  refine AX.lconst dX10_told_21 lc_0 ?_
  refine AX.lcmp_ne (tgt := 31) dX10_told_22 dX10_told_23 rfl (fun c1 => ?_) (fun c1 => ?_)
  · replace hz := (if_neg c1).symm.trans hz
    refine AX.lload dX10_told_31 1 rfl ?_
    refine AX.lload dX10_told_33 0 rfl ?_
    obtain ⟨c2, hz⟩ := ite_m hz
    refine AX.ldiv dX10_told_35 c2 ?_
    exact AX.lreturn dX10_told_36 rfl (kz (P := fun z => Q (some (.long z)) σ) hz hk)
  · replace hz := (if_pos c1).symm.trans hz
    refine AX.lload dX10_told_26 1 rfl ?_
    refine AX.goto (tgt := 36) dX10_told_28 rfl ?_
    exact AX.lreturn dX10_told_36 rfl (kz (P := fun z => Q (some (.long z)) σ) hz hk)
noncomputable def fX10_told (p0 : Int64) (p1 : Int64) (p2 : Int32) : Option (Int64) :=
  (fX10_greatestCommon p0 p1).bind fun q1 => if p2 = (0 : Int32) then fX10_told_j17 q1 p0 else fX10_told_j17 q1 p1
theorem wfX10_told {G : ag_G} (p0 : Int64) (p1 : Int64) (p2 : Int32) (σ : St) {z : Int64} (hz : fX10_told p0 p1 p2 = some z) {Q : Option Value → St → Prop} (hk : Q (some (.long z)) σ) : AX G mX10_told 1 30 0 [(0, .long p0), (2, .long p1), (4, .int p2)] [] σ Q := by
  unfold fX10_told at hz
  refine AX.lload_n dX10_told_0 0 rfl rfl ?_
  refine AX.lload_n dX10_told_1 1 rfl rfl ?_
  obtain ⟨q1, hq1, hz⟩ := obind hz
  refine AX.callSw (As := [.long p0, .long p1]) (rest := []) (w := some (.long q1)) (st' := [.long q1]) dX10_told_2 mlRX10_385 ylX10_greatestCommon ysX10_greatestCommon rfl rfl (Nat.le_of_ble_eq_true rfl) ⟨Nat.le_of_ble_eq_true rfl, Nat.le_of_ble_eq_true rfl⟩ (xX10_greatestCommon p0 p1 σ hq1) rfl ?_
  refine AX.lstore (ls' := [(0, .long p0), (2, .long p1), (4, .int p2), (5, .long q1)]) dX10_told_5 (Nat.le_of_ble_eq_true rfl) rfl ?_
  refine AX.iload dX10_told_7 2 rfl ?_
  refine AX.if_ne (tgt := 16) dX10_told_9 rfl (fun c2 => ?_) (fun c2 => ?_)
  · replace hz := (if_neg c2).symm.trans hz
    refine AX.lload_n dX10_told_16 1 rfl rfl ?_
    exact AX.sub (ls' := [(5, .long q1)]) [3] rfl (wfX10_told_j17 q1 p1 hz hk)
  · replace hz := (if_pos c2).symm.trans hz
    refine AX.lload_n dX10_told_12 0 rfl rfl ?_
    refine AX.goto (tgt := 17) dX10_told_13 rfl ?_
    exact AX.sub (ls' := [(5, .long q1)]) [3] rfl (wfX10_told_j17 q1 p0 hz hk)
theorem xX10_told {G : ag_G} (p0 : Int64) (p1 : Int64) (p2 : Int32) (σ : St) {z : Int64} (hz : fX10_told p0 p1 p2 = some z) : AC G yX10_told mX10_told 1 30 [.long p0, .long p1, .int p2] σ (fun v σ1 => v = some (.long z) ∧ σ1 = σ) := AC.of (plainFor_of_name (by decide)) rfl (Nat.le_of_ble_eq_true rfl) (wfX10_told p0 p1 p2 σ hz ⟨rfl, rfl⟩)
noncomputable def fX10_where_j25  (σ : St) : Option (Int64 × St) :=
  (fX10_refusal (-2 : Int32)).bind fun q1 => some (q1, σ)
theorem wfX10_where_j25 {G : ag_G}  (σ : St) {z : Int64 × St} (hz : fX10_where_j25  σ = some z) {Q : Option Value → St → Prop} (hk : Q (some (.long z.1)) z.2) : AX G mX10_where 5 131 25 [] [] σ Q := by
  unfold fX10_where_j25 at hz
  refine AX.bipush dX10_where_25 bp_m2 ?_
  obtain ⟨q1, hq1, hz⟩ := obind hz
  refine AX.callSw (As := [.int (-2)]) (rest := []) (w := some (.long q1)) (st' := [.long q1]) dX10_where_27 mlRX10_174 ylX10_refusal ysX10_refusal rfl rfl (Nat.le_of_ble_eq_true rfl) ⟨Nat.le_of_ble_eq_true rfl, Nat.le_of_ble_eq_true rfl⟩ (xX10_refusal (-2 : Int32) σ hq1) rfl ?_
  exact AX.lreturn dX10_where_30 rfl (kz (P := fun z => Q (some (.long z.1)) z.2) hz hk)
noncomputable def fX10_where (p0 : Int32) (p1 : Int32) (p2 : Int32) (σ : St) : Option (Int64 × St) :=
  (fX10_isNumber p0).bind fun q1 => if q1 = (0 : Int32) then fX10_where_j25  σ else (fX4_hasBar p1 σ).bind fun q3 => if q3 = (0 : Int32) then fX10_where_j25  σ else (fX10_isPart p2).bind fun q5 => if q5 = (0 : Int32) then fX10_where_j25  σ else (fX10_refreshWays  σ).bind fun q7 => (fX9_ofAll p0 q7).bind fun q8 => if q8 = (0 : Int64) then (fX10_refusal (-3 : Int32)).bind fun q12 => some (q12, q7) else (fX9_saidIn p0 p1 q7).bind fun q10 => (fX10_told q10 q8 p2).bind fun q11 => some (q11, q7)
theorem wfX10_where {G : ag_G} (p0 : Int32) (p1 : Int32) (p2 : Int32) (σ : St) {z : Int64 × St} (hz : fX10_where p0 p1 p2 σ = some z) {Q : Option Value → St → Prop} (hk : Q (some (.long z.1)) z.2) : AX G mX10_where 5 131 0 [(0, .ref (G.2.2.1 0)), (1, .int p0), (2, .int p1), (3, .int p2)] [] σ Q := by
  unfold fX10_where at hz
  refine AX.iload_n dX10_where_0 1 rfl rfl ?_
  obtain ⟨q1, hq1, hz⟩ := obind hz
  refine AX.callSw (As := [.int p0]) (rest := []) (w := some (.int q1)) (st' := [.int q1]) dX10_where_1 mlRX10_161 ylX10_isNumber ysX10_isNumber rfl rfl (Nat.le_of_ble_eq_true rfl) ⟨Nat.le_of_ble_eq_true rfl, Nat.le_of_ble_eq_true rfl⟩ (xX10_isNumber p0 σ hq1) rfl ?_
  refine AX.if_eq (tgt := 25) dX10_where_4 rfl (fun c2 => ?_) (fun c2 => ?_)
  · replace hz := (if_pos c2).symm.trans hz
    exact AX.sub (ls' := []) [] rfl (wfX10_where_j25  σ hz hk)
  · replace hz := (if_neg c2).symm.trans hz
    refine AX.aload_n dX10_where_7 0 rfl rfl ?_
    refine AX.getR dX10_where_8 flRX10_12 rfl rfl ?_
    refine AX.iload_n dX10_where_11 2 rfl rfl ?_
    obtain ⟨q3, hq3, hz⟩ := obind hz
    refine AX.callVw (r := 1) (As := [.int p1]) (rest := []) (w := some (.int q3)) (st' := [.int q3]) dX10_where_12 mlRX10_112 ylX4_hasBar yvX4_hasBar rfl rfl rfl (Nat.le_of_ble_eq_true rfl) ⟨Nat.le_of_ble_eq_true rfl, Nat.le_of_ble_eq_true rfl⟩ (xX4_hasBar p1 σ hq3) rfl ?_
    refine AX.if_eq (tgt := 25) dX10_where_15 rfl (fun c4 => ?_) (fun c4 => ?_)
    · replace hz := (if_pos c4).symm.trans hz
      exact AX.sub (ls' := []) [] rfl (wfX10_where_j25  σ hz hk)
    · replace hz := (if_neg c4).symm.trans hz
      refine AX.iload_n dX10_where_18 3 rfl rfl ?_
      obtain ⟨q5, hq5, hz⟩ := obind hz
      refine AX.callSw (As := [.int p2]) (rest := []) (w := some (.int q5)) (st' := [.int q5]) dX10_where_19 mlRX10_171 ylX10_isPart ysX10_isPart rfl rfl (Nat.le_of_ble_eq_true rfl) ⟨Nat.le_of_ble_eq_true rfl, Nat.le_of_ble_eq_true rfl⟩ (xX10_isPart p2 σ hq5) rfl ?_
      refine AX.if_ne (tgt := 31) dX10_where_22 rfl (fun c6 => ?_) (fun c6 => ?_)
      · replace hz := (if_neg c6).symm.trans hz
        refine AX.aload_n dX10_where_31 0 rfl rfl ?_
        obtain ⟨q7, hq7, hz⟩ := obind hz
        refine AX.callVw (r := 0) (As := []) (rest := []) (w := none) (st' := []) dX10_where_32 mlRX10_178 ylX10_refreshWays yvX10_refreshWays rfl rfl rfl (Nat.le_of_ble_eq_true rfl) ⟨Nat.le_of_ble_eq_true rfl, Nat.le_of_ble_eq_true rfl⟩ (xX10_refreshWays  σ hq7) rfl ?_
        refine AX.aload_n dX10_where_35 0 rfl rfl ?_
        refine AX.getR dX10_where_36 flRX10_45 rfl rfl ?_
        refine AX.iload_n dX10_where_39 1 rfl rfl ?_
        obtain ⟨q8, hq8, hz⟩ := obind hz
        refine AX.callVw (r := 19) (As := [.int p0]) (rest := []) (w := some (.long q8)) (st' := [.long q8]) dX10_where_40 mlRX10_181 ylX9_ofAll yvX9_ofAll rfl rfl rfl (Nat.le_of_ble_eq_true rfl) ⟨Nat.le_of_ble_eq_true rfl, Nat.le_of_ble_eq_true rfl⟩ (xX9_ofAll p0 q7 hq8) rfl ?_
        refine AX.lstore (ls' := [(0, .ref (G.2.2.1 0)), (1, .int p0), (2, .int p1), (3, .int p2), (4, .long q8)]) dX10_where_43 (Nat.le_of_ble_eq_true rfl) rfl ?_
        refine AX.lload dX10_where_45 4 rfl ?_
        refine AX.lconst dX10_where_47 lc_0 ?_
        refine AX.lcmp_ne (tgt := 60) dX10_where_48 dX10_where_49 rfl (fun c9 => ?_) (fun c9 => ?_)
        · replace hz := (if_neg c9).symm.trans hz
          refine AX.aload_n dX10_where_60 0 rfl rfl ?_
          refine AX.getR dX10_where_61 flRX10_45 rfl rfl ?_
          refine AX.iload_n dX10_where_64 1 rfl rfl ?_
          refine AX.iload_n dX10_where_65 2 rfl rfl ?_
          obtain ⟨q10, hq10, hz⟩ := obind hz
          refine AX.callVw (r := 19) (As := [.int p0, .int p1]) (rest := []) (w := some (.long q10)) (st' := [.long q10]) dX10_where_66 mlRX10_184 ylX9_saidIn yvX9_saidIn rfl rfl rfl (Nat.le_of_ble_eq_true rfl) ⟨Nat.le_of_ble_eq_true rfl, Nat.le_of_ble_eq_true rfl⟩ (xX9_saidIn p0 p1 q7 hq10) rfl ?_
          refine AX.lload dX10_where_69 4 rfl ?_
          refine AX.iload_n dX10_where_71 3 rfl rfl ?_
          obtain ⟨q11, hq11, hz⟩ := obind hz
          refine AX.callSw (As := [.long q10, .long q8, .int p2]) (rest := []) (w := some (.long q11)) (st' := [.long q11]) dX10_where_72 mlRX10_188 ylX10_told ysX10_told rfl rfl (Nat.le_of_ble_eq_true rfl) ⟨Nat.le_of_ble_eq_true rfl, Nat.le_of_ble_eq_true rfl⟩ (xX10_told q10 q8 p2 q7 hq11) rfl ?_
          exact AX.lreturn dX10_where_75 rfl (kz (P := fun z => Q (some (.long z.1)) z.2) hz hk)
        · replace hz := (if_pos c9).symm.trans hz
          refine AX.bipush dX10_where_52 bp_m3 ?_
          obtain ⟨q12, hq12, hz⟩ := obind hz
          refine AX.callSw (As := [.int (-3)]) (rest := []) (w := some (.long q12)) (st' := [.long q12]) dX10_where_54 mlRX10_174 ylX10_refusal ysX10_refusal rfl rfl (Nat.le_of_ble_eq_true rfl) ⟨Nat.le_of_ble_eq_true rfl, Nat.le_of_ble_eq_true rfl⟩ (xX10_refusal (-3 : Int32) q7 hq12) rfl ?_
          refine AX.goto (tgt := 75) dX10_where_57 rfl ?_
          exact AX.lreturn dX10_where_75 rfl (kz (P := fun z => Q (some (.long z.1)) z.2) hz hk)
      · replace hz := (if_pos c6).symm.trans hz
        exact AX.sub (ls' := []) [] rfl (wfX10_where_j25  σ hz hk)
theorem xX10_where {G : ag_G} (p0 : Int32) (p1 : Int32) (p2 : Int32) (σ : St) {z : Int64 × St} (hz : fX10_where p0 p1 p2 σ = some z) : AC G yX10_where mX10_where 5 131 [.ref (G.2.2.1 0), .int p0, .int p1, .int p2] σ (fun v σ1 => v = some (.long z.1) ∧ σ1 = z.2) := AC.of (plainFor_of_name (by decide)) rfl (Nat.le_of_ble_eq_true rfl) (wfX10_where p0 p1 p2 σ hz ⟨rfl, rfl⟩)
noncomputable def fX10_likeliest_j59 (l1 : Int32) (l2 : Int32) (l3 : Int64) (l5 : Int32) (σ : St) : Option ((Int32 × Int64 × Int32) ⊕ Int32) :=
  some (.inl (l2, l3, l5 + 1))
theorem wfX10_likeliest_j59 {G : ag_G} (l1 : Int32) (l2 : Int32) (l3 : Int64) (l5 : Int32) (σ : St) {z : (Int32 × Int64 × Int32) ⊕ Int32} (hz : fX10_likeliest_j59 l1 l2 l3 l5 σ = some z) {Q : Option Value → St → Prop} (K : ((Int32 × Int64 × Int32) ⊕ Int32) → Prop) (hback : ∀ a : Int32 × Int64 × Int32, K (.inl a) → AX G mX10_likeliest 5 131 22 [(0, .ref (G.2.2.1 0)), (1, .int l1), (2, .int a.1), (3, .long a.2.1), (5, .int a.2.2)] [] σ Q) (hk : K z) : AX G mX10_likeliest 5 131 59 [(0, .ref (G.2.2.1 0)), (1, .int l1), (2, .int l2), (3, .long l3), (5, .int l5)] [] σ Q := by
  unfold fX10_likeliest_j59 at hz
  refine AX.iinc (v := l5 + 1) (ls' := [(0, .ref (G.2.2.1 0)), (1, .int l1), (2, .int l2), (3, .long l3), (5, .int (l5 + 1))]) 4 dX10_likeliest_59 rfl (Nat.le_of_ble_eq_true rfl) (congrArg (l5 + ·) ic_1) rfl ?_
  refine AX.goto (tgt := 22) dX10_likeliest_62 rfl ?_
  exact AX.sub (ls' := [(0, .ref (G.2.2.1 0)), (1, .int l1), (2, .int l2), (3, .long l3), (5, .int (l5 + 1))]) [0, 1, 2, 3, 4] rfl (hback (l2, l3, l5 + 1) (kz (P := K) hz hk))
noncomputable def fX10_likeliest_b22 (l1 : Int32) (l2 : Int32) (l3 : Int64) (l5 : Int32) (σ : St) : Option ((Int32 × Int64 × Int32) ⊕ Int32) :=
  if (σ.1 1 6) ≤ l5 then some (.inr l2) else (fX9_saidIn l1 l5 σ).bind fun q2 => if q2 ≤ l3 then fX10_likeliest_j59 l1 l2 l3 l5 σ else fX10_likeliest_j59 l1 l5 q2 l5 σ
theorem wfX10_likeliest_b22 {G : ag_G} (l1 : Int32) (l2 : Int32) (l3 : Int64) (l5 : Int32) (σ : St) {z : (Int32 × Int64 × Int32) ⊕ Int32} (hz : fX10_likeliest_b22 l1 l2 l3 l5 σ = some z) {Q : Option Value → St → Prop} (K : ((Int32 × Int64 × Int32) ⊕ Int32) → Prop) (hback : ∀ a : Int32 × Int64 × Int32, K (.inl a) → AX G mX10_likeliest 5 131 22 [(0, .ref (G.2.2.1 0)), (1, .int l1), (2, .int a.1), (3, .long a.2.1), (5, .int a.2.2)] [] σ Q) (hexit0 : ∀ a : Int32, K (.inr a) → AX G mX10_likeliest 5 131 65 [(2, .int a)] [] σ Q) (hk : K z) : AX G mX10_likeliest 5 131 22 [(0, .ref (G.2.2.1 0)), (1, .int l1), (2, .int l2), (3, .long l3), (5, .int l5)] [] σ Q := by
  unfold fX10_likeliest_b22 at hz
  refine AX.iload dX10_likeliest_22 4 rfl ?_
  refine AX.aload_n dX10_likeliest_24 0 rfl rfl ?_
  refine AX.getR dX10_likeliest_25 flRX10_12 rfl rfl ?_
  refine AX.getIE (v := σ.1 1 6) dX10_likeliest_28 flRX10_192 rfl rfl rfl ?_
  refine AX.icmp_ge (tgt := 65) dX10_likeliest_31 rfl (fun c1 => ?_) (fun c1 => ?_)
  · replace hz := (if_pos c1).symm.trans hz
    exact AX.sub (ls' := [(2, .int l2)]) [2] rfl (hexit0 l2 (kz (P := K) hz hk))
  · replace hz := (if_neg c1).symm.trans hz
    refine AX.aload_n dX10_likeliest_34 0 rfl rfl ?_
    refine AX.getR dX10_likeliest_35 flRX10_45 rfl rfl ?_
    refine AX.iload_n dX10_likeliest_38 1 rfl rfl ?_
    refine AX.iload dX10_likeliest_39 4 rfl ?_
    obtain ⟨q2, hq2, hz⟩ := obind hz
    refine AX.callVw (r := 19) (As := [.int l1, .int l5]) (rest := []) (w := some (.long q2)) (st' := [.long q2]) dX10_likeliest_41 mlRX10_184 ylX9_saidIn yvX9_saidIn rfl rfl rfl (Nat.le_of_ble_eq_true rfl) ⟨Nat.le_of_ble_eq_true rfl, Nat.le_of_ble_eq_true rfl⟩ (xX9_saidIn l1 l5 σ hq2) rfl ?_
    refine AX.lstore (ls' := [(0, .ref (G.2.2.1 0)), (1, .int l1), (2, .int l2), (3, .long l3), (5, .int l5), (6, .long q2)]) dX10_likeliest_44 (Nat.le_of_ble_eq_true rfl) rfl ?_
    refine AX.lload dX10_likeliest_46 5 rfl ?_
    refine AX.lload_n dX10_likeliest_48 3 rfl rfl ?_
    refine AX.lcmp_le (tgt := 59) dX10_likeliest_49 dX10_likeliest_50 rfl (fun c3 => ?_) (fun c3 => ?_)
    · replace hz := (if_pos c3).symm.trans hz
      exact AX.sub (ls' := [(0, .ref (G.2.2.1 0)), (1, .int l1), (2, .int l2), (3, .long l3), (5, .int l5)]) [0, 1, 2, 3, 4] rfl (wfX10_likeliest_j59 l1 l2 l3 l5 σ hz K hback hk)
    · replace hz := (if_neg c3).symm.trans hz
      refine AX.lload dX10_likeliest_53 5 rfl ?_
      refine AX.lstore_n (ls' := [(0, .ref (G.2.2.1 0)), (1, .int l1), (2, .int l2), (3, .long q2), (5, .int l5), (6, .long q2)]) dX10_likeliest_55 rfl (Nat.le_of_ble_eq_true rfl) rfl ?_
      refine AX.iload dX10_likeliest_56 4 rfl ?_
      refine AX.istore_n (ls' := [(0, .ref (G.2.2.1 0)), (1, .int l1), (2, .int l5), (3, .long q2), (5, .int l5), (6, .long q2)]) dX10_likeliest_58 rfl (Nat.le_of_ble_eq_true rfl) rfl ?_
      exact AX.sub (ls' := [(0, .ref (G.2.2.1 0)), (1, .int l1), (2, .int l5), (3, .long q2), (5, .int l5)]) [0, 1, 2, 3, 4] rfl (wfX10_likeliest_j59 l1 l5 q2 l5 σ hz K hback hk)
noncomputable def fX10_likeliest (p0 : Int32) (σ : St) : Option (Int32 × St) :=
  (fX10_isNumber p0).bind fun q1 => if q1 = (0 : Int32) then some ((-2 : Int32), σ) else (fX10_refreshWays  σ).bind fun q3 => (lpc (fun s => fX10_likeliest_b22 p0 s.1 s.2.1 s.2.2 q3) (-3, 0, 0)).bind fun r4 => some (r4, q3)
theorem wfX10_likeliest {G : ag_G} (p0 : Int32) (σ : St) {z : Int32 × St} (hz : fX10_likeliest p0 σ = some z) {Q : Option Value → St → Prop} (hk : Q (some (.int z.1)) z.2) : AX G mX10_likeliest 5 131 0 [(0, .ref (G.2.2.1 0)), (1, .int p0)] [] σ Q := by
  unfold fX10_likeliest at hz
  refine AX.iload_n dX10_likeliest_0 1 rfl rfl ?_
  obtain ⟨q1, hq1, hz⟩ := obind hz
  refine AX.callSw (As := [.int p0]) (rest := []) (w := some (.int q1)) (st' := [.int q1]) dX10_likeliest_1 mlRX10_161 ylX10_isNumber ysX10_isNumber rfl rfl (Nat.le_of_ble_eq_true rfl) ⟨Nat.le_of_ble_eq_true rfl, Nat.le_of_ble_eq_true rfl⟩ (xX10_isNumber p0 σ hq1) rfl ?_
  refine AX.if_ne (tgt := 10) dX10_likeliest_4 rfl (fun c2 => ?_) (fun c2 => ?_)
  · replace hz := (if_neg c2).symm.trans hz
    refine AX.aload_n dX10_likeliest_10 0 rfl rfl ?_
    obtain ⟨q3, hq3, hz⟩ := obind hz
    refine AX.callVw (r := 0) (As := []) (rest := []) (w := none) (st' := []) dX10_likeliest_11 mlRX10_178 ylX10_refreshWays yvX10_refreshWays rfl rfl rfl (Nat.le_of_ble_eq_true rfl) ⟨Nat.le_of_ble_eq_true rfl, Nat.le_of_ble_eq_true rfl⟩ (xX10_refreshWays  σ hq3) rfl ?_
    refine AX.bipush dX10_likeliest_14 bp_m3 ?_
    refine AX.istore_n (ls' := [(0, .ref (G.2.2.1 0)), (1, .int p0), (2, .int (-3))]) dX10_likeliest_16 rfl (Nat.le_of_ble_eq_true rfl) rfl ?_
    refine AX.lconst dX10_likeliest_17 lc_0 ?_
    refine AX.lstore_n (ls' := [(0, .ref (G.2.2.1 0)), (1, .int p0), (2, .int (-3)), (3, .long 0)]) dX10_likeliest_18 rfl (Nat.le_of_ble_eq_true rfl) rfl ?_
    refine AX.iconst dX10_likeliest_19 ic_0 ?_
    refine AX.istore (ls' := [(0, .ref (G.2.2.1 0)), (1, .int p0), (2, .int (-3)), (3, .long 0), (5, .int 0)]) dX10_likeliest_20 (Nat.le_of_ble_eq_true rfl) rfl ?_
    obtain ⟨r4, hr4, hz⟩ := obind hz
    refine AX.sub (ls' := [(0, .ref (G.2.2.1 0)), (1, .int p0), (2, .int (-3)), (3, .long 0), (5, .int 0)]) [0, 1, 2, 3, 4] rfl ?_
    refine lpc_ind (s := (-3, 0, 0)) (r := r4) (fun s => AX G mX10_likeliest 5 131 22 [(0, .ref (G.2.2.1 0)), (1, .int p0), (2, .int s.1), (3, .long s.2.1), (5, .int s.2.2)] [] q3 Q) (fun a : Int32 => AX G mX10_likeliest 5 131 65 [(2, .int a)] [] q3 Q) hr4 (fun s z hb hK => wfX10_likeliest_b22 p0 s.1 s.2.1 s.2.2 q3 hb (Sum.elim (fun s => AX G mX10_likeliest 5 131 22 [(0, .ref (G.2.2.1 0)), (1, .int p0), (2, .int s.1), (3, .long s.2.1), (5, .int s.2.2)] [] q3 Q) (fun a : Int32 => AX G mX10_likeliest 5 131 65 [(2, .int a)] [] q3 Q)) (fun _ h9 => h9) (fun _ h9 => h9) hK) ?_
    refine AX.iload_n dX10_likeliest_65 0 rfl rfl ?_
    exact AX.ireturn dX10_likeliest_66 rfl (vp_nar_int _) (kz (P := fun z => Q (some (.int z.1)) z.2) hz hk)
  · replace hz := (if_pos c2).symm.trans hz
    refine AX.bipush dX10_likeliest_7 bp_m2 ?_
    exact AX.ireturn dX10_likeliest_9 rfl (vp_nar_int _) (kz (P := fun z => Q (some (.int z.1)) z.2) hz hk)
theorem xX10_likeliest {G : ag_G} (p0 : Int32) (σ : St) {z : Int32 × St} (hz : fX10_likeliest p0 σ = some z) : AC G yX10_likeliest mX10_likeliest 5 131 [.ref (G.2.2.1 0), .int p0] σ (fun v σ1 => v = some (.int z.1) ∧ σ1 = z.2) := AC.of (plainFor_of_name (by decide)) rfl (Nat.le_of_ble_eq_true rfl) (wfX10_likeliest p0 σ hz ⟨rfl, rfl⟩)
noncomputable def fX10_costAbove (p0 : Int32) (σ : St) : Option (Int64) :=
  (fX9_saidIn p0 ((σ.1 1 6) - (1 : Int32)) σ).bind fun q1 => (fX6_valueOf (4 : Int32) σ).bind fun q2 => (fX9_ofAll p0 σ).bind fun q3 => some (q2.toInt64 * (q3 - q1))
theorem wfX10_costAbove {G : ag_G} (p0 : Int32) (σ : St) {z : Int64} (hz : fX10_costAbove p0 σ = some z) {Q : Option Value → St → Prop} (hk : Q (some (.long z)) σ) : AX G mX10_costAbove 2 45 0 [(0, .ref (G.2.2.1 0)), (1, .int p0)] [] σ Q := by
  unfold fX10_costAbove at hz
  refine AX.aload_n dX10_costAbove_0 0 rfl rfl ?_
  refine AX.getR dX10_costAbove_1 flRX10_45 rfl rfl ?_
  refine AX.iload_n dX10_costAbove_4 1 rfl rfl ?_
  refine AX.aload_n dX10_costAbove_5 0 rfl rfl ?_
  refine AX.getR dX10_costAbove_6 flRX10_12 rfl rfl ?_
  refine AX.getIE (v := σ.1 1 6) dX10_costAbove_9 flRX10_192 rfl rfl rfl ?_
  refine AX.iconst dX10_costAbove_12 ic_1 ?_
  refine AX.isub dX10_costAbove_13 ?_
  obtain ⟨q1, hq1, hz⟩ := obind hz
  refine AX.callVw (r := 19) (As := [.int p0, .int ((σ.1 1 6) - (1 : Int32))]) (rest := []) (w := some (.long q1)) (st' := [.long q1]) dX10_costAbove_14 mlRX10_184 ylX9_saidIn yvX9_saidIn rfl rfl rfl (Nat.le_of_ble_eq_true rfl) ⟨Nat.le_of_ble_eq_true rfl, Nat.le_of_ble_eq_true rfl⟩ (xX9_saidIn p0 ((σ.1 1 6) - (1 : Int32)) σ hq1) rfl ?_
  refine AX.lstore_n (ls' := [(0, .ref (G.2.2.1 0)), (1, .int p0), (2, .long q1)]) dX10_costAbove_17 rfl (Nat.le_of_ble_eq_true rfl) rfl ?_
  refine AX.aload_n dX10_costAbove_18 0 rfl rfl ?_
  refine AX.getR dX10_costAbove_19 flRX10_19 rfl rfl ?_
  refine AX.iconst dX10_costAbove_22 ic_4 ?_
  obtain ⟨q2, hq2, hz⟩ := obind hz
  refine AX.callVw (r := 7) (As := [.int 4]) (rest := []) (w := some (.int q2)) (st' := [.int q2]) dX10_costAbove_23 mlRX10_138 ylX6_valueOf yvX6_valueOf rfl rfl rfl (Nat.le_of_ble_eq_true rfl) ⟨Nat.le_of_ble_eq_true rfl, Nat.le_of_ble_eq_true rfl⟩ (xX6_valueOf (4 : Int32) σ hq2) rfl ?_
  refine AX.i2l dX10_costAbove_26 ?_
  refine AX.aload_n dX10_costAbove_27 0 rfl rfl ?_
  refine AX.getR dX10_costAbove_28 flRX10_45 rfl rfl ?_
  refine AX.iload_n dX10_costAbove_31 1 rfl rfl ?_
  obtain ⟨q3, hq3, hz⟩ := obind hz
  refine AX.callVw (r := 19) (As := [.int p0]) (rest := [.long q2.toInt64]) (w := some (.long q3)) (st' := [.long q3, .long q2.toInt64]) dX10_costAbove_32 mlRX10_181 ylX9_ofAll yvX9_ofAll rfl rfl rfl (Nat.le_of_ble_eq_true rfl) ⟨Nat.le_of_ble_eq_true rfl, Nat.le_of_ble_eq_true rfl⟩ (xX9_ofAll p0 σ hq3) rfl ?_
  refine AX.lload_n dX10_costAbove_35 2 rfl rfl ?_
  refine AX.lsub dX10_costAbove_36 ?_
  refine AX.lmul dX10_costAbove_37 ?_
  exact AX.lreturn dX10_costAbove_38 rfl (kz (P := fun z => Q (some (.long z)) σ) hz hk)
theorem xX10_costAbove {G : ag_G} (p0 : Int32) (σ : St) {z : Int64} (hz : fX10_costAbove p0 σ = some z) : AC G yX10_costAbove mX10_costAbove 2 45 [.ref (G.2.2.1 0), .int p0] σ (fun v σ1 => v = some (.long z) ∧ σ1 = σ) := AC.of (plainFor_of_name (by decide)) rfl (Nat.le_of_ble_eq_true rfl) (wfX10_costAbove p0 σ hz ⟨rfl, rfl⟩)
noncomputable def fX10_strike_j14  (σ : St) : Option (Int64 × St) :=
  (fX10_refusal (-2 : Int32)).bind fun q1 => some (q1, σ)
theorem wfX10_strike_j14 {G : ag_G}  (σ : St) {z : Int64 × St} (hz : fX10_strike_j14  σ = some z) {Q : Option Value → St → Prop} (hk : Q (some (.long z.1)) z.2) : AX G mX10_strike 5 131 14 [] [] σ Q := by
  unfold fX10_strike_j14 at hz
  refine AX.bipush dX10_strike_14 bp_m2 ?_
  obtain ⟨q1, hq1, hz⟩ := obind hz
  refine AX.callSw (As := [.int (-2)]) (rest := []) (w := some (.long q1)) (st' := [.long q1]) dX10_strike_16 mlRX10_174 ylX10_refusal ysX10_refusal rfl rfl (Nat.le_of_ble_eq_true rfl) ⟨Nat.le_of_ble_eq_true rfl, Nat.le_of_ble_eq_true rfl⟩ (xX10_refusal (-2 : Int32) σ hq1) rfl ?_
  exact AX.lreturn dX10_strike_19 rfl (kz (P := fun z => Q (some (.long z.1)) z.2) hz hk)
noncomputable def fX10_strike (p0 : Int32) (p1 : Int32) (σ : St) : Option (Int64 × St) :=
  (fX10_isNumber p0).bind fun q1 => if q1 = (0 : Int32) then fX10_strike_j14  σ else (fX10_isPart p1).bind fun q3 => if q3 = (0 : Int32) then fX10_strike_j14  σ else (fX10_refreshWays  σ).bind fun q5 => (fX9_ofAll p0 q5).bind fun q6 => if q6 = (0 : Int64) then (fX10_refusal (-3 : Int32)).bind fun q10 => some (q10, q5) else (fX10_costAbove p0 q5).bind fun q8 => (fX10_told q8 q6 p1).bind fun q9 => some (q9, q5)
theorem wfX10_strike {G : ag_G} (p0 : Int32) (p1 : Int32) (σ : St) {z : Int64 × St} (hz : fX10_strike p0 p1 σ = some z) {Q : Option Value → St → Prop} (hk : Q (some (.long z.1)) z.2) : AX G mX10_strike 5 131 0 [(0, .ref (G.2.2.1 0)), (1, .int p0), (2, .int p1)] [] σ Q := by
  unfold fX10_strike at hz
  refine AX.iload_n dX10_strike_0 1 rfl rfl ?_
  obtain ⟨q1, hq1, hz⟩ := obind hz
  refine AX.callSw (As := [.int p0]) (rest := []) (w := some (.int q1)) (st' := [.int q1]) dX10_strike_1 mlRX10_161 ylX10_isNumber ysX10_isNumber rfl rfl (Nat.le_of_ble_eq_true rfl) ⟨Nat.le_of_ble_eq_true rfl, Nat.le_of_ble_eq_true rfl⟩ (xX10_isNumber p0 σ hq1) rfl ?_
  refine AX.if_eq (tgt := 14) dX10_strike_4 rfl (fun c2 => ?_) (fun c2 => ?_)
  · replace hz := (if_pos c2).symm.trans hz
    exact AX.sub (ls' := []) [] rfl (wfX10_strike_j14  σ hz hk)
  · replace hz := (if_neg c2).symm.trans hz
    refine AX.iload_n dX10_strike_7 2 rfl rfl ?_
    obtain ⟨q3, hq3, hz⟩ := obind hz
    refine AX.callSw (As := [.int p1]) (rest := []) (w := some (.int q3)) (st' := [.int q3]) dX10_strike_8 mlRX10_171 ylX10_isPart ysX10_isPart rfl rfl (Nat.le_of_ble_eq_true rfl) ⟨Nat.le_of_ble_eq_true rfl, Nat.le_of_ble_eq_true rfl⟩ (xX10_isPart p1 σ hq3) rfl ?_
    refine AX.if_ne (tgt := 20) dX10_strike_11 rfl (fun c4 => ?_) (fun c4 => ?_)
    · replace hz := (if_neg c4).symm.trans hz
      refine AX.aload_n dX10_strike_20 0 rfl rfl ?_
      obtain ⟨q5, hq5, hz⟩ := obind hz
      refine AX.callVw (r := 0) (As := []) (rest := []) (w := none) (st' := []) dX10_strike_21 mlRX10_178 ylX10_refreshWays yvX10_refreshWays rfl rfl rfl (Nat.le_of_ble_eq_true rfl) ⟨Nat.le_of_ble_eq_true rfl, Nat.le_of_ble_eq_true rfl⟩ (xX10_refreshWays  σ hq5) rfl ?_
      refine AX.aload_n dX10_strike_24 0 rfl rfl ?_
      refine AX.getR dX10_strike_25 flRX10_45 rfl rfl ?_
      refine AX.iload_n dX10_strike_28 1 rfl rfl ?_
      obtain ⟨q6, hq6, hz⟩ := obind hz
      refine AX.callVw (r := 19) (As := [.int p0]) (rest := []) (w := some (.long q6)) (st' := [.long q6]) dX10_strike_29 mlRX10_181 ylX9_ofAll yvX9_ofAll rfl rfl rfl (Nat.le_of_ble_eq_true rfl) ⟨Nat.le_of_ble_eq_true rfl, Nat.le_of_ble_eq_true rfl⟩ (xX9_ofAll p0 q5 hq6) rfl ?_
      refine AX.lstore_n (ls' := [(0, .ref (G.2.2.1 0)), (1, .int p0), (2, .int p1), (3, .long q6)]) dX10_strike_32 rfl (Nat.le_of_ble_eq_true rfl) rfl ?_
      refine AX.lload_n dX10_strike_33 3 rfl rfl ?_
      refine AX.lconst dX10_strike_34 lc_0 ?_
      refine AX.lcmp_ne (tgt := 47) dX10_strike_35 dX10_strike_36 rfl (fun c7 => ?_) (fun c7 => ?_)
      · replace hz := (if_neg c7).symm.trans hz
        refine AX.aload_n dX10_strike_47 0 rfl rfl ?_
        refine AX.iload_n dX10_strike_48 1 rfl rfl ?_
        obtain ⟨q8, hq8, hz⟩ := obind hz
        refine AX.callVw (r := 0) (As := [.int p0]) (rest := []) (w := some (.long q8)) (st' := [.long q8]) dX10_strike_49 mlRX10_195 ylX10_costAbove yvX10_costAbove rfl rfl rfl (Nat.le_of_ble_eq_true rfl) ⟨Nat.le_of_ble_eq_true rfl, Nat.le_of_ble_eq_true rfl⟩ (xX10_costAbove p0 q5 hq8) rfl ?_
        refine AX.lload_n dX10_strike_52 3 rfl rfl ?_
        refine AX.iload_n dX10_strike_53 2 rfl rfl ?_
        obtain ⟨q9, hq9, hz⟩ := obind hz
        refine AX.callSw (As := [.long q8, .long q6, .int p1]) (rest := []) (w := some (.long q9)) (st' := [.long q9]) dX10_strike_54 mlRX10_188 ylX10_told ysX10_told rfl rfl (Nat.le_of_ble_eq_true rfl) ⟨Nat.le_of_ble_eq_true rfl, Nat.le_of_ble_eq_true rfl⟩ (xX10_told q8 q6 p1 q5 hq9) rfl ?_
        exact AX.lreturn dX10_strike_57 rfl (kz (P := fun z => Q (some (.long z.1)) z.2) hz hk)
      · replace hz := (if_pos c7).symm.trans hz
        refine AX.bipush dX10_strike_39 bp_m3 ?_
        obtain ⟨q10, hq10, hz⟩ := obind hz
        refine AX.callSw (As := [.int (-3)]) (rest := []) (w := some (.long q10)) (st' := [.long q10]) dX10_strike_41 mlRX10_174 ylX10_refusal ysX10_refusal rfl rfl (Nat.le_of_ble_eq_true rfl) ⟨Nat.le_of_ble_eq_true rfl, Nat.le_of_ble_eq_true rfl⟩ (xX10_refusal (-3 : Int32) q5 hq10) rfl ?_
        refine AX.goto (tgt := 57) dX10_strike_44 rfl ?_
        exact AX.lreturn dX10_strike_57 rfl (kz (P := fun z => Q (some (.long z.1)) z.2) hz hk)
    · replace hz := (if_pos c4).symm.trans hz
      exact AX.sub (ls' := []) [] rfl (wfX10_strike_j14  σ hz hk)
theorem xX10_strike {G : ag_G} (p0 : Int32) (p1 : Int32) (σ : St) {z : Int64 × St} (hz : fX10_strike p0 p1 σ = some z) : AC G yX10_strike mX10_strike 5 131 [.ref (G.2.2.1 0), .int p0, .int p1] σ (fun v σ1 => v = some (.long z.1) ∧ σ1 = z.2) := AC.of (plainFor_of_name (by decide)) rfl (Nat.le_of_ble_eq_true rfl) (wfX10_strike p0 p1 σ hz ⟨rfl, rfl⟩)
noncomputable def fX10_isLess_b17 (l8 : Int64) (l10 : Int64) (l12 : Int64) (l14 : Int64) (l16 : Int32) : Option ((Int64 × Int64 × Int64 × Int64 × Int32) ⊕ ((Int64 × Int64) ⊕ ((Int64) ⊕ (Unit)))) :=
  if (400 : Int32) ≤ l16 then some (.inr (.inr (.inr ()))) else if l10 = (0 : Int64) then some (.inr (.inr (.inr ()))) else if l14 = (0 : Int64) then some (.inr (.inr (.inr ()))) else if l10 = 0 then none else ltb (l8 / l10) fun x5 => if l14 = 0 then none else ltb (l12 / l14) fun x7 => if x5 = x7 then if l10 = 0 then none else ltb (l8 - l8 / l10 * l10) fun x10 => if l14 = 0 then none else ltb (l12 - l12 / l14 * l14) fun x12 => if x10 = (0 : Int64) then some (.inr (.inr (.inl x12))) else if x12 = (0 : Int64) then some (.inr (.inr (.inl x12))) else some (.inl (l14, x12, l10, x10, l16 + 1)) else some (.inr (.inl (x5, x7)))
theorem wfX10_isLess_b17 {G : ag_G} (l8 : Int64) (l10 : Int64) (l12 : Int64) (l14 : Int64) (l16 : Int32) {σ : St} {z : (Int64 × Int64 × Int64 × Int64 × Int32) ⊕ ((Int64 × Int64) ⊕ ((Int64) ⊕ (Unit)))} (hz : fX10_isLess_b17 l8 l10 l12 l14 l16 = some z) {Q : Option Value → St → Prop} (K : ((Int64 × Int64 × Int64 × Int64 × Int32) ⊕ ((Int64 × Int64) ⊕ ((Int64) ⊕ (Unit)))) → Prop) (hback : ∀ a : Int64 × Int64 × Int64 × Int64 × Int32, K (.inl a) → AX G mX10_isLess 0 0 17 [(8, .long a.1), (10, .long a.2.1), (12, .long a.2.2.1), (14, .long a.2.2.2.1), (16, .int a.2.2.2.2)] [] σ Q) (hexit0 : ∀ a : Int64 × Int64, K (.inr (.inl a)) → AX G mX10_isLess 0 0 61 [(17, .long a.1), (19, .long a.2)] [] σ Q) (hexit1 : ∀ a : Int64, K (.inr (.inr (.inl a))) → AX G mX10_isLess 0 0 103 [(23, .long a)] [] σ Q) (hexit2 : ∀ a : Unit, K (.inr (.inr (.inr a))) → AX G mX10_isLess 0 0 138 [] [] σ Q) (hk : K z) : AX G mX10_isLess 0 0 17 [(8, .long l8), (10, .long l10), (12, .long l12), (14, .long l14), (16, .int l16)] [] σ Q := by
  unfold fX10_isLess_b17 at hz
  refine AX.iload dX10_isLess_17 4 rfl ?_
  refine AX.sipush dX10_isLess_19 sp_400 ?_
  refine AX.icmp_ge (tgt := 138) dX10_isLess_22 rfl (fun c1 => ?_) (fun c1 => ?_)
  · replace hz := (if_pos c1).symm.trans hz
    exact AX.sub (ls' := []) [] rfl (hexit2 () (kz (P := K) hz hk))
  · replace hz := (if_neg c1).symm.trans hz
    refine AX.lload dX10_isLess_25 1 rfl ?_
    refine AX.lconst dX10_isLess_27 lc_0 ?_
    refine AX.lcmp_eq (tgt := 138) dX10_isLess_28 dX10_isLess_29 rfl (fun c2 => ?_) (fun c2 => ?_)
    · replace hz := (if_pos c2).symm.trans hz
      exact AX.sub (ls' := []) [] rfl (hexit2 () (kz (P := K) hz hk))
    · replace hz := (if_neg c2).symm.trans hz
      refine AX.lload dX10_isLess_32 3 rfl ?_
      refine AX.lconst dX10_isLess_34 lc_0 ?_
      refine AX.lcmp_eq (tgt := 138) dX10_isLess_35 dX10_isLess_36 rfl (fun c3 => ?_) (fun c3 => ?_)
      · replace hz := (if_pos c3).symm.trans hz
        exact AX.sub (ls' := []) [] rfl (hexit2 () (kz (P := K) hz hk))
      · replace hz := (if_neg c3).symm.trans hz
        refine AX.lload dX10_isLess_39 0 rfl ?_
        refine AX.lload dX10_isLess_41 1 rfl ?_
        obtain ⟨c4, hz⟩ := ite_m hz
        refine AX.ldiv dX10_isLess_43 c4 ?_
        obtain ⟨x5, hx5, hz⟩ := ltb_e hz
        refine AX.topL hx5 ?_
        refine AX.lstore (ls' := [(8, .long l8), (10, .long l10), (12, .long l12), (14, .long l14), (16, .int l16), (17, .long x5)]) dX10_isLess_44 (Nat.le_of_ble_eq_true rfl) rfl ?_
        refine AX.lload dX10_isLess_46 2 rfl ?_
        refine AX.lload dX10_isLess_48 3 rfl ?_
        obtain ⟨c6, hz⟩ := ite_m hz
        refine AX.ldiv dX10_isLess_50 c6 ?_
        obtain ⟨x7, hx7, hz⟩ := ltb_e hz
        refine AX.topL hx7 ?_
        refine AX.lstore (ls' := [(8, .long l8), (10, .long l10), (12, .long l12), (14, .long l14), (16, .int l16), (17, .long x5), (19, .long x7)]) dX10_isLess_51 (Nat.le_of_ble_eq_true rfl) rfl ?_
        refine AX.lload dX10_isLess_53 5 rfl ?_
        refine AX.lload dX10_isLess_55 6 rfl ?_
        refine AX.lcmp_eq (tgt := 75) dX10_isLess_57 dX10_isLess_58 rfl (fun c8 => ?_) (fun c8 => ?_)
        · replace hz := (if_pos c8).symm.trans hz
          refine AX.lload dX10_isLess_75 0 rfl ?_
          refine AX.lload dX10_isLess_77 1 rfl ?_
          obtain ⟨c9, hz⟩ := ite_m hz
          refine AX.lrem dX10_isLess_79 c9 ?_
          obtain ⟨x10, hx10, hz⟩ := ltb_e hz
          refine AX.topL hx10 ?_
          refine AX.lstore (ls' := [(8, .long l8), (10, .long l10), (12, .long l12), (14, .long l14), (16, .int l16), (17, .long x5), (19, .long x7), (21, .long x10)]) dX10_isLess_80 (Nat.le_of_ble_eq_true rfl) rfl ?_
          refine AX.lload dX10_isLess_82 2 rfl ?_
          refine AX.lload dX10_isLess_84 3 rfl ?_
          obtain ⟨c11, hz⟩ := ite_m hz
          refine AX.lrem dX10_isLess_86 c11 ?_
          obtain ⟨x12, hx12, hz⟩ := ltb_e hz
          refine AX.topL hx12 ?_
          refine AX.lstore (ls' := [(8, .long l8), (10, .long l10), (12, .long l12), (14, .long l14), (16, .int l16), (17, .long x5), (19, .long x7), (21, .long x10), (23, .long x12)]) dX10_isLess_87 (Nat.le_of_ble_eq_true rfl) rfl ?_
          refine AX.lload dX10_isLess_89 7 rfl ?_
          refine AX.lconst dX10_isLess_91 lc_0 ?_
          refine AX.lcmp_eq (tgt := 103) dX10_isLess_92 dX10_isLess_93 rfl (fun c13 => ?_) (fun c13 => ?_)
          · replace hz := (if_pos c13).symm.trans hz
            exact AX.sub (ls' := [(23, .long x12)]) [8] rfl (hexit1 x12 (kz (P := K) hz hk))
          · replace hz := (if_neg c13).symm.trans hz
            refine AX.lload dX10_isLess_96 8 rfl ?_
            refine AX.lconst dX10_isLess_98 lc_0 ?_
            refine AX.lcmp_ne (tgt := 116) dX10_isLess_99 dX10_isLess_100 rfl (fun c14 => ?_) (fun c14 => ?_)
            · replace hz := (if_neg c14).symm.trans hz
              refine AX.lload dX10_isLess_116 3 rfl ?_
              refine AX.lstore (ls' := [(8, .long l14), (10, .long l10), (12, .long l12), (14, .long l14), (16, .int l16), (17, .long x5), (19, .long x7), (21, .long x10), (23, .long x12)]) dX10_isLess_118 (Nat.le_of_ble_eq_true rfl) rfl ?_
              refine AX.lload dX10_isLess_120 1 rfl ?_
              refine AX.lstore (ls' := [(8, .long l14), (10, .long l10), (12, .long l10), (14, .long l14), (16, .int l16), (17, .long x5), (19, .long x7), (21, .long x10), (23, .long x12)]) dX10_isLess_122 (Nat.le_of_ble_eq_true rfl) rfl ?_
              refine AX.lload dX10_isLess_124 8 rfl ?_
              refine AX.lstore (ls' := [(8, .long l14), (10, .long x12), (12, .long l10), (14, .long l14), (16, .int l16), (17, .long x5), (19, .long x7), (21, .long x10), (23, .long x12)]) dX10_isLess_126 (Nat.le_of_ble_eq_true rfl) rfl ?_
              refine AX.lload dX10_isLess_128 7 rfl ?_
              refine AX.lstore (ls' := [(8, .long l14), (10, .long x12), (12, .long l10), (14, .long x10), (16, .int l16), (17, .long x5), (19, .long x7), (21, .long x10), (23, .long x12)]) dX10_isLess_130 (Nat.le_of_ble_eq_true rfl) rfl ?_
              refine AX.iinc (v := l16 + 1) (ls' := [(8, .long l14), (10, .long x12), (12, .long l10), (14, .long x10), (16, .int (l16 + 1)), (17, .long x5), (19, .long x7), (21, .long x10), (23, .long x12)]) 4 dX10_isLess_132 rfl (Nat.le_of_ble_eq_true rfl) (congrArg (l16 + ·) ic_1) rfl ?_
              refine AX.goto (tgt := 17) dX10_isLess_135 rfl ?_
              exact AX.sub (ls' := [(8, .long l14), (10, .long x12), (12, .long l10), (14, .long x10), (16, .int (l16 + 1))]) [0, 1, 2, 3, 4] rfl (hback (l14, x12, l10, x10, l16 + 1) (kz (P := K) hz hk))
            · replace hz := (if_pos c14).symm.trans hz
              exact AX.sub (ls' := [(23, .long x12)]) [8] rfl (hexit1 x12 (kz (P := K) hz hk))
        · replace hz := (if_neg c8).symm.trans hz
          exact AX.sub (ls' := [(17, .long x5), (19, .long x7)]) [5, 6] rfl (hexit0 (x5, x7) (kz (P := K) hz hk))
noncomputable def fX10_isLess (p0 : Int64) (p1 : Int64) (p2 : Int64) (p3 : Int64) : Option (Int32) :=
  (lpc (fun s => fX10_isLess_b17  s.1 s.2.1 s.2.2.1 s.2.2.2.1 s.2.2.2.2) (p0, p1, p2, p3, 0)).bind fun r1 => Sum.elim (fun r1_0 => if r1_0.2 ≤ r1_0.1 then some (0 : Int32) else some (1 : Int32)) (Sum.elim (fun r1_1 => if r1_1 = (0 : Int64) then some (0 : Int32) else some (1 : Int32)) (fun r1_2 => some (0 : Int32))) r1
theorem wfX10_isLess {G : ag_G} (p0 : Int64) (p1 : Int64) (p2 : Int64) (p3 : Int64) (σ : St) {z : Int32} (hz : fX10_isLess p0 p1 p2 p3 = some z) {Q : Option Value → St → Prop} (hk : Q (some (.int z)) σ) : AX G mX10_isLess 0 0 0 [(0, .long p0), (2, .long p1), (4, .long p2), (6, .long p3)] [] σ Q := by
  unfold fX10_isLess at hz
  refine AX.lload_n dX10_isLess_0 0 rfl rfl ?_
  refine AX.lstore (ls' := [(0, .long p0), (2, .long p1), (4, .long p2), (6, .long p3), (8, .long p0)]) dX10_isLess_1 (Nat.le_of_ble_eq_true rfl) rfl ?_
  refine AX.lload_n dX10_isLess_3 1 rfl rfl ?_
  refine AX.lstore (ls' := [(0, .long p0), (2, .long p1), (4, .long p2), (6, .long p3), (8, .long p0), (10, .long p1)]) dX10_isLess_4 (Nat.le_of_ble_eq_true rfl) rfl ?_
  refine AX.lload dX10_isLess_6 2 rfl ?_
  refine AX.lstore (ls' := [(0, .long p0), (2, .long p1), (4, .long p2), (6, .long p3), (8, .long p0), (10, .long p1), (12, .long p2)]) dX10_isLess_8 (Nat.le_of_ble_eq_true rfl) rfl ?_
  refine AX.lload dX10_isLess_10 3 rfl ?_
  refine AX.lstore (ls' := [(0, .long p0), (2, .long p1), (4, .long p2), (6, .long p3), (8, .long p0), (10, .long p1), (12, .long p2), (14, .long p3)]) dX10_isLess_12 (Nat.le_of_ble_eq_true rfl) rfl ?_
  refine AX.iconst dX10_isLess_14 ic_0 ?_
  refine AX.istore (ls' := [(0, .long p0), (2, .long p1), (4, .long p2), (6, .long p3), (8, .long p0), (10, .long p1), (12, .long p2), (14, .long p3), (16, .int 0)]) dX10_isLess_15 (Nat.le_of_ble_eq_true rfl) rfl ?_
  obtain ⟨r1, hr1, hz⟩ := obind hz
  refine AX.sub (ls' := [(8, .long p0), (10, .long p1), (12, .long p2), (14, .long p3), (16, .int 0)]) [4, 5, 6, 7, 8] rfl ?_
  refine lpc_ind (s := (p0, p1, p2, p3, 0)) (r := r1) (fun s => AX G mX10_isLess 0 0 17 [(8, .long s.1), (10, .long s.2.1), (12, .long s.2.2.1), (14, .long s.2.2.2.1), (16, .int s.2.2.2.2)] [] σ Q) (Sum.elim (fun a : Int64 × Int64 => AX G mX10_isLess 0 0 61 [(17, .long a.1), (19, .long a.2)] [] σ Q) (Sum.elim (fun a : Int64 => AX G mX10_isLess 0 0 103 [(23, .long a)] [] σ Q) (fun a : Unit => AX G mX10_isLess 0 0 138 [] [] σ Q))) hr1 (fun s z hb hK => wfX10_isLess_b17  s.1 s.2.1 s.2.2.1 s.2.2.2.1 s.2.2.2.2 hb (Sum.elim (fun s => AX G mX10_isLess 0 0 17 [(8, .long s.1), (10, .long s.2.1), (12, .long s.2.2.1), (14, .long s.2.2.2.1), (16, .int s.2.2.2.2)] [] σ Q) (Sum.elim (fun a : Int64 × Int64 => AX G mX10_isLess 0 0 61 [(17, .long a.1), (19, .long a.2)] [] σ Q) (Sum.elim (fun a : Int64 => AX G mX10_isLess 0 0 103 [(23, .long a)] [] σ Q) (fun a : Unit => AX G mX10_isLess 0 0 138 [] [] σ Q)))) (fun _ h9 => h9) (fun _ h9 => h9) (fun _ h9 => h9) (fun _ h9 => h9) hK) ?_
  rcases r1 with r1_0 | r1_1 | r1_2
  · dsimp only [Sum.elim_inl, Sum.elim_inr] at hz ⊢
    refine AX.lload dX10_isLess_61 0 rfl ?_
    refine AX.lload dX10_isLess_63 1 rfl ?_
    refine AX.lcmp_ge (tgt := 73) dX10_isLess_65 dX10_isLess_66 rfl (fun c2 => ?_) (fun c2 => ?_)
    · replace hz := (if_pos c2).symm.trans hz
      refine AX.iconst dX10_isLess_73 ic_0 ?_
      exact AX.ireturn dX10_isLess_74 rfl nb_0 (kz (P := fun z => Q (some (.int z)) σ) hz hk)
    · replace hz := (if_neg c2).symm.trans hz
      refine AX.iconst dX10_isLess_69 ic_1 ?_
      refine AX.goto (tgt := 74) dX10_isLess_70 rfl ?_
      exact AX.ireturn dX10_isLess_74 rfl nb_1 (kz (P := fun z => Q (some (.int z)) σ) hz hk)
  · dsimp only [Sum.elim_inl, Sum.elim_inr] at hz ⊢
    refine AX.lload dX10_isLess_103 0 rfl ?_
    refine AX.lconst dX10_isLess_105 lc_0 ?_
    refine AX.lcmp_eq (tgt := 114) dX10_isLess_106 dX10_isLess_107 rfl (fun c3 => ?_) (fun c3 => ?_)
    · replace hz := (if_pos c3).symm.trans hz
      refine AX.iconst dX10_isLess_114 ic_0 ?_
      exact AX.ireturn dX10_isLess_115 rfl nb_0 (kz (P := fun z => Q (some (.int z)) σ) hz hk)
    · replace hz := (if_neg c3).symm.trans hz
      refine AX.iconst dX10_isLess_110 ic_1 ?_
      refine AX.goto (tgt := 115) dX10_isLess_111 rfl ?_
      exact AX.ireturn dX10_isLess_115 rfl nb_1 (kz (P := fun z => Q (some (.int z)) σ) hz hk)
  · dsimp only [Sum.elim_inl, Sum.elim_inr] at hz ⊢
    refine AX.iconst dX10_isLess_138 ic_0 ?_
    exact AX.ireturn dX10_isLess_139 rfl nb_0 (kz (P := fun z => Q (some (.int z)) σ) hz hk)
theorem xX10_isLess {G : ag_G} (p0 : Int64) (p1 : Int64) (p2 : Int64) (p3 : Int64) (σ : St) {z : Int32} (hz : fX10_isLess p0 p1 p2 p3 = some z) : AC G yX10_isLess mX10_isLess 0 0 [.long p0, .long p1, .long p2, .long p3] σ (fun v σ1 => v = some (.int z) ∧ σ1 = σ) := AC.of (plainFor_of_name (by decide)) rfl (Nat.le_of_ble_eq_true rfl) (wfX10_isLess p0 p1 p2 p3 σ hz ⟨rfl, rfl⟩)
noncomputable def fX10_line_j78 (l1 : Int32) (l2 : Int64) (l4 : Int64) (l6 : Int32) (σ : St) : Option ((Int32 × Int64 × Int64 × Int32) ⊕ Int32) :=
  some (.inl (l1, l2, l4, l6 + 1))
theorem wfX10_line_j78 {G : ag_G} (l1 : Int32) (l2 : Int64) (l4 : Int64) (l6 : Int32) (σ : St) {z : (Int32 × Int64 × Int64 × Int32) ⊕ Int32} (hz : fX10_line_j78 l1 l2 l4 l6 σ = some z) {Q : Option Value → St → Prop} (K : ((Int32 × Int64 × Int64 × Int32) ⊕ Int32) → Prop) (hback : ∀ a : Int32 × Int64 × Int64 × Int32, K (.inl a) → AX G mX10_line 5 131 22 [(0, .ref (G.2.2.1 0)), (1, .int a.1), (2, .long a.2.1), (4, .long a.2.2.1), (6, .int a.2.2.2)] [] σ Q) (hk : K z) : AX G mX10_line 5 131 78 [(0, .ref (G.2.2.1 0)), (1, .int l1), (2, .long l2), (4, .long l4), (6, .int l6)] [] σ Q := by
  unfold fX10_line_j78 at hz
  refine AX.iinc (v := l6 + 1) (ls' := [(0, .ref (G.2.2.1 0)), (1, .int l1), (2, .long l2), (4, .long l4), (6, .int (l6 + 1))]) 4 dX10_line_78 rfl (Nat.le_of_ble_eq_true rfl) (congrArg (l6 + ·) ic_1) rfl ?_
  refine AX.goto (tgt := 22) dX10_line_81 rfl ?_
  exact AX.sub (ls' := [(0, .ref (G.2.2.1 0)), (1, .int l1), (2, .long l2), (4, .long l4), (6, .int (l6 + 1))]) [0, 1, 2, 3, 4] rfl (hback (l1, l2, l4, l6 + 1) (kz (P := K) hz hk))
noncomputable def fX10_line_b22 (l1 : Int32) (l2 : Int64) (l4 : Int64) (l6 : Int32) (σ : St) : Option ((Int32 × Int64 × Int64 × Int32) ⊕ Int32) :=
  if (110 : Int32) < l6 then some (.inr l1) else (fX9_ofAll l6 σ).bind fun q2 => if q2 = (0 : Int64) then fX10_line_j78 l1 l2 l4 l6 σ else (fX10_costAbove l6 σ).bind fun q4 => (fX10_isLess q4 q2 l2 l4).bind fun q5 => if q5 = (0 : Int32) then fX10_line_j78 l1 l2 l4 l6 σ else (fX10_costAbove l6 σ).bind fun q7 => fX10_line_j78 l6 q7 q2 l6 σ
theorem wfX10_line_b22 {G : ag_G} (l1 : Int32) (l2 : Int64) (l4 : Int64) (l6 : Int32) (σ : St) {z : (Int32 × Int64 × Int64 × Int32) ⊕ Int32} (hz : fX10_line_b22 l1 l2 l4 l6 σ = some z) {Q : Option Value → St → Prop} (K : ((Int32 × Int64 × Int64 × Int32) ⊕ Int32) → Prop) (hback : ∀ a : Int32 × Int64 × Int64 × Int32, K (.inl a) → AX G mX10_line 5 131 22 [(0, .ref (G.2.2.1 0)), (1, .int a.1), (2, .long a.2.1), (4, .long a.2.2.1), (6, .int a.2.2.2)] [] σ Q) (hexit0 : ∀ a : Int32, K (.inr a) → AX G mX10_line 5 131 84 [(1, .int a)] [] σ Q) (hk : K z) : AX G mX10_line 5 131 22 [(0, .ref (G.2.2.1 0)), (1, .int l1), (2, .long l2), (4, .long l4), (6, .int l6)] [] σ Q := by
  unfold fX10_line_b22 at hz
  refine AX.iload dX10_line_22 4 rfl ?_
  refine AX.bipush dX10_line_24 bp_110 ?_
  refine AX.icmp_gt (tgt := 84) dX10_line_26 rfl (fun c1 => ?_) (fun c1 => ?_)
  · replace hz := (if_pos c1).symm.trans hz
    exact AX.sub (ls' := [(1, .int l1)]) [1] rfl (hexit0 l1 (kz (P := K) hz hk))
  · replace hz := (if_neg c1).symm.trans hz
    refine AX.aload_n dX10_line_29 0 rfl rfl ?_
    refine AX.getR dX10_line_30 flRX10_45 rfl rfl ?_
    refine AX.iload dX10_line_33 4 rfl ?_
    obtain ⟨q2, hq2, hz⟩ := obind hz
    refine AX.callVw (r := 19) (As := [.int l6]) (rest := []) (w := some (.long q2)) (st' := [.long q2]) dX10_line_35 mlRX10_181 ylX9_ofAll yvX9_ofAll rfl rfl rfl (Nat.le_of_ble_eq_true rfl) ⟨Nat.le_of_ble_eq_true rfl, Nat.le_of_ble_eq_true rfl⟩ (xX9_ofAll l6 σ hq2) rfl ?_
    refine AX.lstore (ls' := [(0, .ref (G.2.2.1 0)), (1, .int l1), (2, .long l2), (4, .long l4), (6, .int l6), (7, .long q2)]) dX10_line_38 (Nat.le_of_ble_eq_true rfl) rfl ?_
    refine AX.lload dX10_line_40 5 rfl ?_
    refine AX.lconst dX10_line_42 lc_0 ?_
    refine AX.lcmp_eq (tgt := 78) dX10_line_43 dX10_line_44 rfl (fun c3 => ?_) (fun c3 => ?_)
    · replace hz := (if_pos c3).symm.trans hz
      exact AX.sub (ls' := [(0, .ref (G.2.2.1 0)), (1, .int l1), (2, .long l2), (4, .long l4), (6, .int l6)]) [0, 1, 2, 3, 4] rfl (wfX10_line_j78 l1 l2 l4 l6 σ hz K hback hk)
    · replace hz := (if_neg c3).symm.trans hz
      refine AX.aload_n dX10_line_47 0 rfl rfl ?_
      refine AX.iload dX10_line_48 4 rfl ?_
      obtain ⟨q4, hq4, hz⟩ := obind hz
      refine AX.callVw (r := 0) (As := [.int l6]) (rest := []) (w := some (.long q4)) (st' := [.long q4]) dX10_line_50 mlRX10_195 ylX10_costAbove yvX10_costAbove rfl rfl rfl (Nat.le_of_ble_eq_true rfl) ⟨Nat.le_of_ble_eq_true rfl, Nat.le_of_ble_eq_true rfl⟩ (xX10_costAbove l6 σ hq4) rfl ?_
      refine AX.lload dX10_line_53 5 rfl ?_
      refine AX.lload_n dX10_line_55 2 rfl rfl ?_
      refine AX.lload dX10_line_56 3 rfl ?_
      obtain ⟨q5, hq5, hz⟩ := obind hz
      refine AX.callSw (As := [.long q4, .long q2, .long l2, .long l4]) (rest := []) (w := some (.int q5)) (st' := [.int q5]) dX10_line_58 mlRX10_198 ylX10_isLess ysX10_isLess rfl rfl (Nat.le_of_ble_eq_true rfl) ⟨Nat.le_of_ble_eq_true rfl, Nat.le_of_ble_eq_true rfl⟩ (xX10_isLess q4 q2 l2 l4 σ hq5) rfl ?_
      refine AX.if_eq (tgt := 78) dX10_line_61 rfl (fun c6 => ?_) (fun c6 => ?_)
      · replace hz := (if_pos c6).symm.trans hz
        exact AX.sub (ls' := [(0, .ref (G.2.2.1 0)), (1, .int l1), (2, .long l2), (4, .long l4), (6, .int l6)]) [0, 1, 2, 3, 4] rfl (wfX10_line_j78 l1 l2 l4 l6 σ hz K hback hk)
      · replace hz := (if_neg c6).symm.trans hz
        refine AX.iload dX10_line_64 4 rfl ?_
        refine AX.istore_n (ls' := [(0, .ref (G.2.2.1 0)), (1, .int l6), (2, .long l2), (4, .long l4), (6, .int l6), (7, .long q2)]) dX10_line_66 rfl (Nat.le_of_ble_eq_true rfl) rfl ?_
        refine AX.aload_n dX10_line_67 0 rfl rfl ?_
        refine AX.iload dX10_line_68 4 rfl ?_
        obtain ⟨q7, hq7, hz⟩ := obind hz
        refine AX.callVw (r := 0) (As := [.int l6]) (rest := []) (w := some (.long q7)) (st' := [.long q7]) dX10_line_70 mlRX10_195 ylX10_costAbove yvX10_costAbove rfl rfl rfl (Nat.le_of_ble_eq_true rfl) ⟨Nat.le_of_ble_eq_true rfl, Nat.le_of_ble_eq_true rfl⟩ (xX10_costAbove l6 σ hq7) rfl ?_
        refine AX.lstore_n (ls' := [(0, .ref (G.2.2.1 0)), (1, .int l6), (2, .long q7), (4, .long l4), (6, .int l6), (7, .long q2)]) dX10_line_73 rfl (Nat.le_of_ble_eq_true rfl) rfl ?_
        refine AX.lload dX10_line_74 5 rfl ?_
        refine AX.lstore (ls' := [(0, .ref (G.2.2.1 0)), (1, .int l6), (2, .long q7), (4, .long q2), (6, .int l6), (7, .long q2)]) dX10_line_76 (Nat.le_of_ble_eq_true rfl) rfl ?_
        exact AX.sub (ls' := [(0, .ref (G.2.2.1 0)), (1, .int l6), (2, .long q7), (4, .long q2), (6, .int l6)]) [0, 1, 2, 3, 4] rfl (wfX10_line_j78 l6 q7 q2 l6 σ hz K hback hk)
noncomputable def fX10_line  (σ : St) : Option (Int32 × St) :=
  (fX10_refreshWays  σ).bind fun q1 => (fX6_valueOf (5 : Int32) q1).bind fun q2 => ltb q2.toInt64 fun x3 => (lpc (fun s => fX10_line_b22  s.1 s.2.1 s.2.2.1 s.2.2.2 q1) (-1, x3, 1, 1)).bind fun r4 => some (r4, q1)
theorem wfX10_line {G : ag_G}  (σ : St) {z : Int32 × St} (hz : fX10_line  σ = some z) {Q : Option Value → St → Prop} (hk : Q (some (.int z.1)) z.2) : AX G mX10_line 5 131 0 [(0, .ref (G.2.2.1 0))] [] σ Q := by
  unfold fX10_line at hz
  refine AX.aload_n dX10_line_0 0 rfl rfl ?_
  obtain ⟨q1, hq1, hz⟩ := obind hz
  refine AX.callVw (r := 0) (As := []) (rest := []) (w := none) (st' := []) dX10_line_1 mlRX10_178 ylX10_refreshWays yvX10_refreshWays rfl rfl rfl (Nat.le_of_ble_eq_true rfl) ⟨Nat.le_of_ble_eq_true rfl, Nat.le_of_ble_eq_true rfl⟩ (xX10_refreshWays  σ hq1) rfl ?_
  refine AX.iconst dX10_line_4 ic_m1 ?_
  refine AX.istore_n (ls' := [(0, .ref (G.2.2.1 0)), (1, .int (-1))]) dX10_line_5 rfl (Nat.le_of_ble_eq_true rfl) rfl ?_
  refine AX.aload_n dX10_line_6 0 rfl rfl ?_
  refine AX.getR dX10_line_7 flRX10_19 rfl rfl ?_
  refine AX.iconst dX10_line_10 ic_5 ?_
  obtain ⟨q2, hq2, hz⟩ := obind hz
  refine AX.callVw (r := 7) (As := [.int 5]) (rest := []) (w := some (.int q2)) (st' := [.int q2]) dX10_line_11 mlRX10_138 ylX6_valueOf yvX6_valueOf rfl rfl rfl (Nat.le_of_ble_eq_true rfl) ⟨Nat.le_of_ble_eq_true rfl, Nat.le_of_ble_eq_true rfl⟩ (xX6_valueOf (5 : Int32) q1 hq2) rfl ?_
  refine AX.i2l dX10_line_14 ?_
  obtain ⟨x3, hx3, hz⟩ := ltb_e hz
  refine AX.topL hx3 ?_
  refine AX.lstore_n (ls' := [(0, .ref (G.2.2.1 0)), (1, .int (-1)), (2, .long x3)]) dX10_line_15 rfl (Nat.le_of_ble_eq_true rfl) rfl ?_
  refine AX.lconst dX10_line_16 lc_1 ?_
  refine AX.lstore (ls' := [(0, .ref (G.2.2.1 0)), (1, .int (-1)), (2, .long x3), (4, .long 1)]) dX10_line_17 (Nat.le_of_ble_eq_true rfl) rfl ?_
  refine AX.iconst dX10_line_19 ic_1 ?_
  refine AX.istore (ls' := [(0, .ref (G.2.2.1 0)), (1, .int (-1)), (2, .long x3), (4, .long 1), (6, .int 1)]) dX10_line_20 (Nat.le_of_ble_eq_true rfl) rfl ?_
  obtain ⟨r4, hr4, hz⟩ := obind hz
  refine AX.sub (ls' := [(0, .ref (G.2.2.1 0)), (1, .int (-1)), (2, .long x3), (4, .long 1), (6, .int 1)]) [0, 1, 2, 3, 4] rfl ?_
  refine lpc_ind (s := (-1, x3, 1, 1)) (r := r4) (fun s => AX G mX10_line 5 131 22 [(0, .ref (G.2.2.1 0)), (1, .int s.1), (2, .long s.2.1), (4, .long s.2.2.1), (6, .int s.2.2.2)] [] q1 Q) (fun a : Int32 => AX G mX10_line 5 131 84 [(1, .int a)] [] q1 Q) hr4 (fun s z hb hK => wfX10_line_b22  s.1 s.2.1 s.2.2.1 s.2.2.2 q1 hb (Sum.elim (fun s => AX G mX10_line 5 131 22 [(0, .ref (G.2.2.1 0)), (1, .int s.1), (2, .long s.2.1), (4, .long s.2.2.1), (6, .int s.2.2.2)] [] q1 Q) (fun a : Int32 => AX G mX10_line 5 131 84 [(1, .int a)] [] q1 Q)) (fun _ h9 => h9) (fun _ h9 => h9) hK) ?_
  refine AX.iload_n dX10_line_84 0 rfl rfl ?_
  exact AX.ireturn dX10_line_85 rfl (vp_nar_int _) (kz (P := fun z => Q (some (.int z.1)) z.2) hz hk)
theorem xX10_line {G : ag_G}  (σ : St) {z : Int32 × St} (hz : fX10_line  σ = some z) : AC G yX10_line mX10_line 5 131 [.ref (G.2.2.1 0)] σ (fun v σ1 => v = some (.int z.1) ∧ σ1 = z.2) := AC.of (plainFor_of_name (by decide)) rfl (Nat.le_of_ble_eq_true rfl) (wfX10_line  σ hz ⟨rfl, rfl⟩)
noncomputable def fX10_slips_j29  (σ : St) : Option (Int64 × St) :=
  (fX10_refusal (-2 : Int32)).bind fun q1 => some (q1, σ)
theorem wfX10_slips_j29 {G : ag_G}  (σ : St) {z : Int64 × St} (hz : fX10_slips_j29  σ = some z) {Q : Option Value → St → Prop} (hk : Q (some (.long z.1)) z.2) : AX G mX10_slips 3 78 29 [] [] σ Q := by
  unfold fX10_slips_j29 at hz
  refine AX.bipush dX10_slips_29 bp_m2 ?_
  obtain ⟨q1, hq1, hz⟩ := obind hz
  refine AX.callSw (As := [.int (-2)]) (rest := []) (w := some (.long q1)) (st' := [.long q1]) dX10_slips_31 mlRX10_174 ylX10_refusal ysX10_refusal rfl rfl (Nat.le_of_ble_eq_true rfl) ⟨Nat.le_of_ble_eq_true rfl, Nat.le_of_ble_eq_true rfl⟩ (xX10_refusal (-2 : Int32) σ hq1) rfl ?_
  exact AX.lreturn dX10_slips_34 rfl (kz (P := fun z => Q (some (.long z.1)) z.2) hz hk)
noncomputable def fX10_slips (p0 : Int32) (p1 : Int32) (p2 : Int32) (σ : St) : Option (Int64 × St) :=
  (fX4_hasBar p0 σ).bind fun q1 => if q1 = (0 : Int32) then fX10_slips_j29  σ else (fX10_within p1 (-10 : Int32) (10 : Int32)).bind fun q3 => if q3 = (0 : Int32) then fX10_slips_j29  σ else (fX10_isPart p2).bind fun q5 => if q5 = (0 : Int32) then fX10_slips_j29  σ else (fX8_walk 9 p0 (0 : Int32) (0 : Int32) σ).bind fun q7 => (fX8_chanceOf p1 q7).bind fun q8 => (fX10_told q8 (4503599627370496 : Int64) p2).bind fun q9 => some (q9, q7)
theorem wfX10_slips {G : ag_G} (p0 : Int32) (p1 : Int32) (p2 : Int32) (σ : St) {z : Int64 × St} (hz : fX10_slips p0 p1 p2 σ = some z) {Q : Option Value → St → Prop} (hk : Q (some (.long z.1)) z.2) : AX G mX10_slips 3 78 0 [(0, .ref (G.2.2.1 0)), (1, .int p0), (2, .int p1), (3, .int p2)] [] σ Q := by
  unfold fX10_slips at hz
  refine AX.aload_n dX10_slips_0 0 rfl rfl ?_
  refine AX.getR dX10_slips_1 flRX10_12 rfl rfl ?_
  refine AX.iload_n dX10_slips_4 1 rfl rfl ?_
  obtain ⟨q1, hq1, hz⟩ := obind hz
  refine AX.callVw (r := 1) (As := [.int p0]) (rest := []) (w := some (.int q1)) (st' := [.int q1]) dX10_slips_5 mlRX10_112 ylX4_hasBar yvX4_hasBar rfl rfl rfl (Nat.le_of_ble_eq_true rfl) ⟨Nat.le_of_ble_eq_true rfl, Nat.le_of_ble_eq_true rfl⟩ (xX4_hasBar p0 σ hq1) rfl ?_
  refine AX.if_eq (tgt := 29) dX10_slips_8 rfl (fun c2 => ?_) (fun c2 => ?_)
  · replace hz := (if_pos c2).symm.trans hz
    exact AX.sub (ls' := []) [] rfl (wfX10_slips_j29  σ hz hk)
  · replace hz := (if_neg c2).symm.trans hz
    refine AX.iload_n dX10_slips_11 2 rfl rfl ?_
    refine AX.bipush dX10_slips_12 bp_m10 ?_
    refine AX.bipush dX10_slips_14 bp_10 ?_
    obtain ⟨q3, hq3, hz⟩ := obind hz
    refine AX.callSw (As := [.int p1, .int (-10), .int 10]) (rest := []) (w := some (.int q3)) (st' := [.int q3]) dX10_slips_16 mlRX10_94 ylX10_within ysX10_within rfl rfl (Nat.le_of_ble_eq_true rfl) ⟨Nat.le_of_ble_eq_true rfl, Nat.le_of_ble_eq_true rfl⟩ (xX10_within p1 (-10 : Int32) (10 : Int32) σ hq3) rfl ?_
    refine AX.if_eq (tgt := 29) dX10_slips_19 rfl (fun c4 => ?_) (fun c4 => ?_)
    · replace hz := (if_pos c4).symm.trans hz
      exact AX.sub (ls' := []) [] rfl (wfX10_slips_j29  σ hz hk)
    · replace hz := (if_neg c4).symm.trans hz
      refine AX.iload_n dX10_slips_22 3 rfl rfl ?_
      obtain ⟨q5, hq5, hz⟩ := obind hz
      refine AX.callSw (As := [.int p2]) (rest := []) (w := some (.int q5)) (st' := [.int q5]) dX10_slips_23 mlRX10_171 ylX10_isPart ysX10_isPart rfl rfl (Nat.le_of_ble_eq_true rfl) ⟨Nat.le_of_ble_eq_true rfl, Nat.le_of_ble_eq_true rfl⟩ (xX10_isPart p2 σ hq5) rfl ?_
      refine AX.if_ne (tgt := 35) dX10_slips_26 rfl (fun c6 => ?_) (fun c6 => ?_)
      · replace hz := (if_neg c6).symm.trans hz
        refine AX.aload_n dX10_slips_35 0 rfl rfl ?_
        refine AX.getR dX10_slips_36 flRX10_54 rfl rfl ?_
        refine AX.aload_n dX10_slips_39 0 rfl rfl ?_
        refine AX.getR dX10_slips_40 flRX10_26 rfl rfl ?_
        refine AX.iload_n dX10_slips_43 1 rfl rfl ?_
        refine AX.iconst dX10_slips_44 ic_0 ?_
        refine AX.iconst dX10_slips_45 ic_0 ?_
        obtain ⟨q7, hq7, hz⟩ := obind hz
        refine AX.callVw (r := 24) (As := [.ref (G.2.2.1 9), .int p0, .int 0, .int 0]) (rest := []) (w := none) (st' := []) dX10_slips_46 mlRX10_202 ylX8_walk yvX8_walk rfl rfl rfl (Nat.le_of_ble_eq_true rfl) ⟨Nat.le_of_ble_eq_true rfl, Nat.le_of_ble_eq_true rfl⟩ (xX8_walk 9 p0 (0 : Int32) (0 : Int32) σ hq7) rfl ?_
        refine AX.aload_n dX10_slips_49 0 rfl rfl ?_
        refine AX.getR dX10_slips_50 flRX10_54 rfl rfl ?_
        refine AX.iload_n dX10_slips_53 2 rfl rfl ?_
        obtain ⟨q8, hq8, hz⟩ := obind hz
        refine AX.callVw (r := 24) (As := [.int p1]) (rest := []) (w := some (.long q8)) (st' := [.long q8]) dX10_slips_54 mlRX10_206 ylX8_chanceOf yvX8_chanceOf rfl rfl rfl (Nat.le_of_ble_eq_true rfl) ⟨Nat.le_of_ble_eq_true rfl, Nat.le_of_ble_eq_true rfl⟩ (xX8_chanceOf p1 q7 hq8) rfl ?_
        refine AX.ldc2 dX10_slips_57 kcRX10_209 ?_
        refine AX.iload_n dX10_slips_60 3 rfl rfl ?_
        obtain ⟨q9, hq9, hz⟩ := obind hz
        refine AX.callSw (As := [.long q8, .long 4503599627370496, .int p2]) (rest := []) (w := some (.long q9)) (st' := [.long q9]) dX10_slips_61 mlRX10_188 ylX10_told ysX10_told rfl rfl (Nat.le_of_ble_eq_true rfl) ⟨Nat.le_of_ble_eq_true rfl, Nat.le_of_ble_eq_true rfl⟩ (xX10_told q8 (4503599627370496 : Int64) p2 q7 hq9) rfl ?_
        exact AX.lreturn dX10_slips_64 rfl (kz (P := fun z => Q (some (.long z.1)) z.2) hz hk)
      · replace hz := (if_pos c6).symm.trans hz
        exact AX.sub (ls' := []) [] rfl (wfX10_slips_j29  σ hz hk)
theorem xX10_slips {G : ag_G} (p0 : Int32) (p1 : Int32) (p2 : Int32) (σ : St) {z : Int64 × St} (hz : fX10_slips p0 p1 p2 σ = some z) : AC G yX10_slips mX10_slips 3 78 [.ref (G.2.2.1 0), .int p0, .int p1, .int p2] σ (fun v σ1 => v = some (.long z.1) ∧ σ1 = z.2) := AC.of (plainFor_of_name (by decide)) rfl (Nat.le_of_ble_eq_true rfl) (wfX10_slips p0 p1 p2 σ hz ⟨rfl, rfl⟩)
noncomputable def fX10_safety (p0 : Int32) (σ : St) : Option (Int64 × St) :=
  (fX6_valueOf (6 : Int32) σ).bind fun q1 => (fX8_walk 9 ((σ.1 1 6) - (1 : Int32)) p0 q1 σ).bind fun q2 => (fX8_chanceOf (0 : Int32) q2).bind fun q3 => some (q3, q2)
theorem wfX10_safety {G : ag_G} (p0 : Int32) (σ : St) {z : Int64 × St} (hz : fX10_safety p0 σ = some z) {Q : Option Value → St → Prop} (hk : Q (some (.long z.1)) z.2) : AX G mX10_safety 3 78 0 [(0, .ref (G.2.2.1 0)), (1, .int p0)] [] σ Q := by
  unfold fX10_safety at hz
  refine AX.aload_n dX10_safety_0 0 rfl rfl ?_
  refine AX.getR dX10_safety_1 flRX10_54 rfl rfl ?_
  refine AX.aload_n dX10_safety_4 0 rfl rfl ?_
  refine AX.getR dX10_safety_5 flRX10_26 rfl rfl ?_
  refine AX.aload_n dX10_safety_8 0 rfl rfl ?_
  refine AX.getR dX10_safety_9 flRX10_12 rfl rfl ?_
  refine AX.getIE (v := σ.1 1 6) dX10_safety_12 flRX10_192 rfl rfl rfl ?_
  refine AX.iconst dX10_safety_15 ic_1 ?_
  refine AX.isub dX10_safety_16 ?_
  refine AX.iload_n dX10_safety_17 1 rfl rfl ?_
  refine AX.aload_n dX10_safety_18 0 rfl rfl ?_
  refine AX.getR dX10_safety_19 flRX10_19 rfl rfl ?_
  refine AX.bipush dX10_safety_22 bp_6 ?_
  obtain ⟨q1, hq1, hz⟩ := obind hz
  refine AX.callVw (r := 7) (As := [.int 6]) (rest := [.int p0, .int ((σ.1 1 6) - (1 : Int32)), .ref (G.2.2.1 9), .ref (G.2.2.1 24)]) (w := some (.int q1)) (st' := [.int q1, .int p0, .int ((σ.1 1 6) - (1 : Int32)), .ref (G.2.2.1 9), .ref (G.2.2.1 24)]) dX10_safety_24 mlRX10_138 ylX6_valueOf yvX6_valueOf rfl rfl rfl (Nat.le_of_ble_eq_true rfl) ⟨Nat.le_of_ble_eq_true rfl, Nat.le_of_ble_eq_true rfl⟩ (xX6_valueOf (6 : Int32) σ hq1) rfl ?_
  obtain ⟨q2, hq2, hz⟩ := obind hz
  refine AX.callVw (r := 24) (As := [.ref (G.2.2.1 9), .int ((σ.1 1 6) - (1 : Int32)), .int p0, .int q1]) (rest := []) (w := none) (st' := []) dX10_safety_27 mlRX10_202 ylX8_walk yvX8_walk rfl rfl rfl (Nat.le_of_ble_eq_true rfl) ⟨Nat.le_of_ble_eq_true rfl, Nat.le_of_ble_eq_true rfl⟩ (xX8_walk 9 ((σ.1 1 6) - (1 : Int32)) p0 q1 σ hq2) rfl ?_
  refine AX.aload_n dX10_safety_30 0 rfl rfl ?_
  refine AX.getR dX10_safety_31 flRX10_54 rfl rfl ?_
  refine AX.iconst dX10_safety_34 ic_0 ?_
  obtain ⟨q3, hq3, hz⟩ := obind hz
  refine AX.callVw (r := 24) (As := [.int 0]) (rest := []) (w := some (.long q3)) (st' := [.long q3]) dX10_safety_35 mlRX10_206 ylX8_chanceOf yvX8_chanceOf rfl rfl rfl (Nat.le_of_ble_eq_true rfl) ⟨Nat.le_of_ble_eq_true rfl, Nat.le_of_ble_eq_true rfl⟩ (xX8_chanceOf (0 : Int32) q2 hq3) rfl ?_
  exact AX.lreturn dX10_safety_38 rfl (kz (P := fun z => Q (some (.long z.1)) z.2) hz hk)
theorem xX10_safety {G : ag_G} (p0 : Int32) (σ : St) {z : Int64 × St} (hz : fX10_safety p0 σ = some z) : AC G yX10_safety mX10_safety 3 78 [.ref (G.2.2.1 0), .int p0] σ (fun v σ1 => v = some (.long z.1) ∧ σ1 = z.2) := AC.of (plainFor_of_name (by decide)) rfl (Nat.le_of_ble_eq_true rfl) (wfX10_safety p0 σ hz ⟨rfl, rfl⟩)
noncomputable def fX10_safe_j17  (σ : St) : Option (Int64 × St) :=
  (fX10_refusal (-2 : Int32)).bind fun q1 => some (q1, σ)
theorem wfX10_safe_j17 {G : ag_G}  (σ : St) {z : Int64 × St} (hz : fX10_safe_j17  σ = some z) {Q : Option Value → St → Prop} (hk : Q (some (.long z.1)) z.2) : AX G mX10_safe 4 99 17 [] [] σ Q := by
  unfold fX10_safe_j17 at hz
  refine AX.bipush dX10_safe_17 bp_m2 ?_
  obtain ⟨q1, hq1, hz⟩ := obind hz
  refine AX.callSw (As := [.int (-2)]) (rest := []) (w := some (.long q1)) (st' := [.long q1]) dX10_safe_19 mlRX10_174 ylX10_refusal ysX10_refusal rfl rfl (Nat.le_of_ble_eq_true rfl) ⟨Nat.le_of_ble_eq_true rfl, Nat.le_of_ble_eq_true rfl⟩ (xX10_refusal (-2 : Int32) σ hq1) rfl ?_
  exact AX.lreturn dX10_safe_22 rfl (kz (P := fun z => Q (some (.long z.1)) z.2) hz hk)
noncomputable def fX10_safe (p0 : Int32) (p1 : Int32) (σ : St) : Option (Int64 × St) :=
  (fX10_within p0 (0 : Int32) (63 : Int32)).bind fun q1 => if q1 = (0 : Int32) then fX10_safe_j17  σ else (fX10_isPart p1).bind fun q3 => if q3 = (0 : Int32) then fX10_safe_j17  σ else ltb (p0 &&& (((1 : Int32) <<< ((σ.1 1 8) &&& 31)) - (1 : Int32))) fun x5 => (fJ6_bitCount_0f7a4 x5).bind fun q6 => if q6 ≤ (3 : Int32) then if (σ.1 1 6) = (0 : Int32) then (fX10_refusal (-3 : Int32)).bind fun q11 => some (q11, σ) else (fX10_safety x5 σ).bind fun q9 => (fX10_told q9.1 (4503599627370496 : Int64) p1).bind fun q10 => some (q10, q9.2) else (fX10_refusal (-2 : Int32)).bind fun q12 => some (q12, σ)
theorem wfX10_safe {G : ag_G} (p0 : Int32) (p1 : Int32) (σ : St) {z : Int64 × St} (hz : fX10_safe p0 p1 σ = some z) {Q : Option Value → St → Prop} (hk : Q (some (.long z.1)) z.2) : AX G mX10_safe 4 99 0 [(0, .ref (G.2.2.1 0)), (1, .int p0), (2, .int p1)] [] σ Q := by
  unfold fX10_safe at hz
  refine AX.iload_n dX10_safe_0 1 rfl rfl ?_
  refine AX.iconst dX10_safe_1 ic_0 ?_
  refine AX.bipush dX10_safe_2 bp_63 ?_
  obtain ⟨q1, hq1, hz⟩ := obind hz
  refine AX.callSw (As := [.int p0, .int 0, .int 63]) (rest := []) (w := some (.int q1)) (st' := [.int q1]) dX10_safe_4 mlRX10_94 ylX10_within ysX10_within rfl rfl (Nat.le_of_ble_eq_true rfl) ⟨Nat.le_of_ble_eq_true rfl, Nat.le_of_ble_eq_true rfl⟩ (xX10_within p0 (0 : Int32) (63 : Int32) σ hq1) rfl ?_
  refine AX.if_eq (tgt := 17) dX10_safe_7 rfl (fun c2 => ?_) (fun c2 => ?_)
  · replace hz := (if_pos c2).symm.trans hz
    exact AX.sub (ls' := []) [] rfl (wfX10_safe_j17  σ hz hk)
  · replace hz := (if_neg c2).symm.trans hz
    refine AX.iload_n dX10_safe_10 2 rfl rfl ?_
    obtain ⟨q3, hq3, hz⟩ := obind hz
    refine AX.callSw (As := [.int p1]) (rest := []) (w := some (.int q3)) (st' := [.int q3]) dX10_safe_11 mlRX10_171 ylX10_isPart ysX10_isPart rfl rfl (Nat.le_of_ble_eq_true rfl) ⟨Nat.le_of_ble_eq_true rfl, Nat.le_of_ble_eq_true rfl⟩ (xX10_isPart p1 σ hq3) rfl ?_
    refine AX.if_ne (tgt := 23) dX10_safe_14 rfl (fun c4 => ?_) (fun c4 => ?_)
    · replace hz := (if_neg c4).symm.trans hz
      refine AX.iload_n dX10_safe_23 1 rfl rfl ?_
      refine AX.iconst dX10_safe_24 ic_1 ?_
      refine AX.aload_n dX10_safe_25 0 rfl rfl ?_
      refine AX.getR dX10_safe_26 flRX10_12 rfl rfl ?_
      refine AX.getIE (v := σ.1 1 8) dX10_safe_29 flRX10_211 rfl rfl rfl ?_
      refine AX.ishl dX10_safe_32 ?_
      refine AX.iconst dX10_safe_33 ic_1 ?_
      refine AX.isub dX10_safe_34 ?_
      refine AX.iand dX10_safe_35 ?_
      obtain ⟨x5, hx5, hz⟩ := ltb_e hz
      refine AX.topI hx5 ?_
      refine AX.istore_n (ls' := [(0, .ref (G.2.2.1 0)), (1, .int p0), (2, .int p1), (3, .int x5)]) dX10_safe_36 rfl (Nat.le_of_ble_eq_true rfl) rfl ?_
      refine AX.iload_n dX10_safe_37 3 rfl rfl ?_
      obtain ⟨q6, hq6, hz⟩ := obind hz
      refine AX.callSw (As := [.int x5]) (rest := []) (w := some (.int q6)) (st' := [.int q6]) dX10_safe_38 mlRX10_214 ylJ6_bitCount_0f7a4 ysJ6_bitCount_0f7a4 rfl rfl (Nat.le_of_ble_eq_true rfl) ⟨Nat.le_of_ble_eq_true rfl, Nat.le_of_ble_eq_true rfl⟩ (xJ6_bitCount_0f7a4 x5 σ hq6) rfl ?_
      refine AX.iconst dX10_safe_41 ic_3 ?_
      refine AX.icmp_le (tgt := 51) dX10_safe_42 rfl (fun c7 => ?_) (fun c7 => ?_)
      · replace hz := (if_pos c7).symm.trans hz
        refine AX.aload_n dX10_safe_51 0 rfl rfl ?_
        refine AX.getR dX10_safe_52 flRX10_12 rfl rfl ?_
        refine AX.getIE (v := σ.1 1 6) dX10_safe_55 flRX10_192 rfl rfl rfl ?_
        refine AX.if_ne (tgt := 67) dX10_safe_58 rfl (fun c8 => ?_) (fun c8 => ?_)
        · replace hz := (if_neg c8).symm.trans hz
          refine AX.aload_n dX10_safe_67 0 rfl rfl ?_
          refine AX.iload_n dX10_safe_68 3 rfl rfl ?_
          obtain ⟨q9, hq9, hz⟩ := obind hz
          refine AX.callVw (r := 0) (As := [.int x5]) (rest := []) (w := some (.long q9.1)) (st' := [.long q9.1]) dX10_safe_69 mlRX10_219 ylX10_safety yvX10_safety rfl rfl rfl (Nat.le_of_ble_eq_true rfl) ⟨Nat.le_of_ble_eq_true rfl, Nat.le_of_ble_eq_true rfl⟩ (xX10_safety x5 σ hq9) rfl ?_
          refine AX.ldc2 dX10_safe_72 kcRX10_209 ?_
          refine AX.iload_n dX10_safe_75 2 rfl rfl ?_
          obtain ⟨q10, hq10, hz⟩ := obind hz
          refine AX.callSw (As := [.long q9.1, .long 4503599627370496, .int p1]) (rest := []) (w := some (.long q10)) (st' := [.long q10]) dX10_safe_76 mlRX10_188 ylX10_told ysX10_told rfl rfl (Nat.le_of_ble_eq_true rfl) ⟨Nat.le_of_ble_eq_true rfl, Nat.le_of_ble_eq_true rfl⟩ (xX10_told q9.1 (4503599627370496 : Int64) p1 q9.2 hq10) rfl ?_
          exact AX.lreturn dX10_safe_79 rfl (kz (P := fun z => Q (some (.long z.1)) z.2) hz hk)
        · replace hz := (if_pos c8).symm.trans hz
          refine AX.bipush dX10_safe_61 bp_m3 ?_
          obtain ⟨q11, hq11, hz⟩ := obind hz
          refine AX.callSw (As := [.int (-3)]) (rest := []) (w := some (.long q11)) (st' := [.long q11]) dX10_safe_63 mlRX10_174 ylX10_refusal ysX10_refusal rfl rfl (Nat.le_of_ble_eq_true rfl) ⟨Nat.le_of_ble_eq_true rfl, Nat.le_of_ble_eq_true rfl⟩ (xX10_refusal (-3 : Int32) σ hq11) rfl ?_
          exact AX.lreturn dX10_safe_66 rfl (kz (P := fun z => Q (some (.long z.1)) z.2) hz hk)
      · replace hz := (if_neg c7).symm.trans hz
        refine AX.bipush dX10_safe_45 bp_m2 ?_
        obtain ⟨q12, hq12, hz⟩ := obind hz
        refine AX.callSw (As := [.int (-2)]) (rest := []) (w := some (.long q12)) (st' := [.long q12]) dX10_safe_47 mlRX10_174 ylX10_refusal ysX10_refusal rfl rfl (Nat.le_of_ble_eq_true rfl) ⟨Nat.le_of_ble_eq_true rfl, Nat.le_of_ble_eq_true rfl⟩ (xX10_refusal (-2 : Int32) σ hq12) rfl ?_
        exact AX.lreturn dX10_safe_50 rfl (kz (P := fun z => Q (some (.long z.1)) z.2) hz hk)
    · replace hz := (if_pos c4).symm.trans hz
      exact AX.sub (ls' := []) [] rfl (wfX10_safe_j17  σ hz hk)
theorem xX10_safe {G : ag_G} (p0 : Int32) (p1 : Int32) (σ : St) {z : Int64 × St} (hz : fX10_safe p0 p1 σ = some z) : AC G yX10_safe mX10_safe 4 99 [.ref (G.2.2.1 0), .int p0, .int p1] σ (fun v σ1 => v = some (.long z.1) ∧ σ1 = z.2) := AC.of (plainFor_of_name (by decide)) rfl (Nat.le_of_ble_eq_true rfl) (wfX10_safe p0 p1 σ hz ⟨rfl, rfl⟩)
noncomputable def fX10_write_j88 (l1 : Int32) (l2 : Int32) (l3 : Int64) (l5 : Int32) (σ : St) : Option ((Int32 × Int64 × Int32 × St) ⊕ (Int32 × St)) :=
  some (.inl (l2, l3, l5 + 1, σ))
theorem wfX10_write_j88 {G : ag_G} (l1 : Int32) (l2 : Int32) (l3 : Int64) (l5 : Int32) (σ : St) {z : (Int32 × Int64 × Int32 × St) ⊕ (Int32 × St)} (hz : fX10_write_j88 l1 l2 l3 l5 σ = some z) {Q : Option Value → St → Prop} (K : ((Int32 × Int64 × Int32 × St) ⊕ (Int32 × St)) → Prop) (hback : ∀ a : Int32 × Int64 × Int32 × St, K (.inl a) → AX G mX10_write 4 99 44 [(0, .ref (G.2.2.1 0)), (1, .int l1), (2, .int a.1), (3, .long a.2.1), (5, .int a.2.2.1)] [] a.2.2.2 Q) (hk : K z) : AX G mX10_write 4 99 88 [(0, .ref (G.2.2.1 0)), (1, .int l1), (2, .int l2), (3, .long l3), (5, .int l5)] [] σ Q := by
  unfold fX10_write_j88 at hz
  refine AX.iinc (v := l5 + 1) (ls' := [(0, .ref (G.2.2.1 0)), (1, .int l1), (2, .int l2), (3, .long l3), (5, .int (l5 + 1))]) 4 dX10_write_88 rfl (Nat.le_of_ble_eq_true rfl) (congrArg (l5 + ·) ic_1) rfl ?_
  refine AX.goto (tgt := 44) dX10_write_91 rfl ?_
  exact AX.sub (ls' := [(0, .ref (G.2.2.1 0)), (1, .int l1), (2, .int l2), (3, .long l3), (5, .int (l5 + 1))]) [0, 1, 2, 3, 4] rfl (hback (l2, l3, l5 + 1, σ) (kz (P := K) hz hk))
noncomputable def fX10_write_b44 (l1 : Int32) (l2 : Int32) (l3 : Int64) (l5 : Int32) (σ : St) : Option ((Int32 × Int64 × Int32 × St) ⊕ (Int32 × St)) :=
  if ((1 : Int32) <<< ((σ.1 1 8) &&& 31)) ≤ l5 then some (.inr (l2, σ)) else (fJ6_bitCount_0f7a4 l5).bind fun q2 => if q2 = l1 then (fX10_safety l5 σ).bind fun q4 => if q4.1 ≤ l3 then fX10_write_j88 l1 l2 l3 l5 q4.2 else fX10_write_j88 l1 l5 q4.1 l5 q4.2 else fX10_write_j88 l1 l2 l3 l5 σ
theorem wfX10_write_b44 {G : ag_G} (l1 : Int32) (l2 : Int32) (l3 : Int64) (l5 : Int32) (σ : St) {z : (Int32 × Int64 × Int32 × St) ⊕ (Int32 × St)} (hz : fX10_write_b44 l1 l2 l3 l5 σ = some z) {Q : Option Value → St → Prop} (K : ((Int32 × Int64 × Int32 × St) ⊕ (Int32 × St)) → Prop) (hback : ∀ a : Int32 × Int64 × Int32 × St, K (.inl a) → AX G mX10_write 4 99 44 [(0, .ref (G.2.2.1 0)), (1, .int l1), (2, .int a.1), (3, .long a.2.1), (5, .int a.2.2.1)] [] a.2.2.2 Q) (hexit0 : ∀ a : Int32 × St, K (.inr a) → AX G mX10_write 4 99 94 [(2, .int a.1)] [] a.2 Q) (hk : K z) : AX G mX10_write 4 99 44 [(0, .ref (G.2.2.1 0)), (1, .int l1), (2, .int l2), (3, .long l3), (5, .int l5)] [] σ Q := by
  unfold fX10_write_b44 at hz
  refine AX.iload dX10_write_44 4 rfl ?_
  refine AX.iconst dX10_write_46 ic_1 ?_
  refine AX.aload_n dX10_write_47 0 rfl rfl ?_
  refine AX.getR dX10_write_48 flRX10_12 rfl rfl ?_
  refine AX.getIE (v := σ.1 1 8) dX10_write_51 flRX10_211 rfl rfl rfl ?_
  refine AX.ishl dX10_write_54 ?_
  refine AX.icmp_ge (tgt := 94) dX10_write_55 rfl (fun c1 => ?_) (fun c1 => ?_)
  · replace hz := (if_pos c1).symm.trans hz
    exact AX.sub (ls' := [(2, .int l2)]) [2] rfl (hexit0 (l2, σ) (kz (P := K) hz hk))
  · replace hz := (if_neg c1).symm.trans hz
    refine AX.iload dX10_write_58 4 rfl ?_
    obtain ⟨q2, hq2, hz⟩ := obind hz
    refine AX.callSw (As := [.int l5]) (rest := []) (w := some (.int q2)) (st' := [.int q2]) dX10_write_60 mlRX10_214 ylJ6_bitCount_0f7a4 ysJ6_bitCount_0f7a4 rfl rfl (Nat.le_of_ble_eq_true rfl) ⟨Nat.le_of_ble_eq_true rfl, Nat.le_of_ble_eq_true rfl⟩ (xJ6_bitCount_0f7a4 l5 σ hq2) rfl ?_
    refine AX.iload_n dX10_write_63 1 rfl rfl ?_
    refine AX.icmp_ne (tgt := 88) dX10_write_64 rfl (fun c3 => ?_) (fun c3 => ?_)
    · replace hz := (if_neg c3).symm.trans hz
      exact AX.sub (ls' := [(0, .ref (G.2.2.1 0)), (1, .int l1), (2, .int l2), (3, .long l3), (5, .int l5)]) [0, 1, 2, 3, 4] rfl (wfX10_write_j88 l1 l2 l3 l5 σ hz K hback hk)
    · replace hz := (if_pos c3).symm.trans hz
      refine AX.aload_n dX10_write_67 0 rfl rfl ?_
      refine AX.iload dX10_write_68 4 rfl ?_
      obtain ⟨q4, hq4, hz⟩ := obind hz
      refine AX.callVw (r := 0) (As := [.int l5]) (rest := []) (w := some (.long q4.1)) (st' := [.long q4.1]) dX10_write_70 mlRX10_219 ylX10_safety yvX10_safety rfl rfl rfl (Nat.le_of_ble_eq_true rfl) ⟨Nat.le_of_ble_eq_true rfl, Nat.le_of_ble_eq_true rfl⟩ (xX10_safety l5 σ hq4) rfl ?_
      refine AX.lstore (ls' := [(0, .ref (G.2.2.1 0)), (1, .int l1), (2, .int l2), (3, .long l3), (5, .int l5), (6, .long q4.1)]) dX10_write_73 (Nat.le_of_ble_eq_true rfl) rfl ?_
      refine AX.lload dX10_write_75 5 rfl ?_
      refine AX.lload_n dX10_write_77 3 rfl rfl ?_
      refine AX.lcmp_le (tgt := 88) dX10_write_78 dX10_write_79 rfl (fun c5 => ?_) (fun c5 => ?_)
      · replace hz := (if_pos c5).symm.trans hz
        exact AX.sub (ls' := [(0, .ref (G.2.2.1 0)), (1, .int l1), (2, .int l2), (3, .long l3), (5, .int l5)]) [0, 1, 2, 3, 4] rfl (wfX10_write_j88 l1 l2 l3 l5 q4.2 hz K hback hk)
      · replace hz := (if_neg c5).symm.trans hz
        refine AX.lload dX10_write_82 5 rfl ?_
        refine AX.lstore_n (ls' := [(0, .ref (G.2.2.1 0)), (1, .int l1), (2, .int l2), (3, .long q4.1), (5, .int l5), (6, .long q4.1)]) dX10_write_84 rfl (Nat.le_of_ble_eq_true rfl) rfl ?_
        refine AX.iload dX10_write_85 4 rfl ?_
        refine AX.istore_n (ls' := [(0, .ref (G.2.2.1 0)), (1, .int l1), (2, .int l5), (3, .long q4.1), (5, .int l5), (6, .long q4.1)]) dX10_write_87 rfl (Nat.le_of_ble_eq_true rfl) rfl ?_
        exact AX.sub (ls' := [(0, .ref (G.2.2.1 0)), (1, .int l1), (2, .int l5), (3, .long q4.1), (5, .int l5)]) [0, 1, 2, 3, 4] rfl (wfX10_write_j88 l1 l5 q4.1 l5 q4.2 hz K hback hk)
noncomputable def fX10_write (p0 : Int32) (σ : St) : Option (Int32 × St) :=
  (fJ9_min_7cf53 (3 : Int32) (σ.1 1 8)).bind fun q1 => (fX10_within p0 (0 : Int32) q1).bind fun q2 => if q2 = (0 : Int32) then some ((-2 : Int32), σ) else if (σ.1 1 6) = (0 : Int32) then some ((-3 : Int32), σ) else (lpc (fun s => fX10_write_b44 p0 s.1 s.2.1 s.2.2.1 s.2.2.2) (0, -1, 0, σ)).bind fun r5 => some (r5.1, r5.2)
theorem wfX10_write {G : ag_G} (p0 : Int32) (σ : St) {z : Int32 × St} (hz : fX10_write p0 σ = some z) {Q : Option Value → St → Prop} (hk : Q (some (.int z.1)) z.2) : AX G mX10_write 4 99 0 [(0, .ref (G.2.2.1 0)), (1, .int p0)] [] σ Q := by
  unfold fX10_write at hz
  refine AX.iload_n dX10_write_0 1 rfl rfl ?_
  refine AX.iconst dX10_write_1 ic_0 ?_
  refine AX.iconst dX10_write_2 ic_3 ?_
  refine AX.aload_n dX10_write_3 0 rfl rfl ?_
  refine AX.getR dX10_write_4 flRX10_12 rfl rfl ?_
  refine AX.getIE (v := σ.1 1 8) dX10_write_7 flRX10_211 rfl rfl rfl ?_
  obtain ⟨q1, hq1, hz⟩ := obind hz
  refine AX.callSw (As := [.int 3, .int (σ.1 1 8)]) (rest := [.int 0, .int p0]) (w := some (.int q1)) (st' := [.int q1, .int 0, .int p0]) dX10_write_10 mlRX10_222 ylJ9_min_7cf53 ysJ9_min_7cf53 rfl rfl (Nat.le_of_ble_eq_true rfl) ⟨Nat.le_of_ble_eq_true rfl, Nat.le_of_ble_eq_true rfl⟩ (xJ9_min_7cf53 (3 : Int32) (σ.1 1 8) σ hq1) rfl ?_
  obtain ⟨q2, hq2, hz⟩ := obind hz
  refine AX.callSw (As := [.int p0, .int 0, .int q1]) (rest := []) (w := some (.int q2)) (st' := [.int q2]) dX10_write_13 mlRX10_94 ylX10_within ysX10_within rfl rfl (Nat.le_of_ble_eq_true rfl) ⟨Nat.le_of_ble_eq_true rfl, Nat.le_of_ble_eq_true rfl⟩ (xX10_within p0 (0 : Int32) q1 σ hq2) rfl ?_
  refine AX.if_ne (tgt := 22) dX10_write_16 rfl (fun c3 => ?_) (fun c3 => ?_)
  · replace hz := (if_neg c3).symm.trans hz
    refine AX.aload_n dX10_write_22 0 rfl rfl ?_
    refine AX.getR dX10_write_23 flRX10_12 rfl rfl ?_
    refine AX.getIE (v := σ.1 1 6) dX10_write_26 flRX10_192 rfl rfl rfl ?_
    refine AX.if_ne (tgt := 35) dX10_write_29 rfl (fun c4 => ?_) (fun c4 => ?_)
    · replace hz := (if_neg c4).symm.trans hz
      refine AX.iconst dX10_write_35 ic_0 ?_
      refine AX.istore_n (ls' := [(0, .ref (G.2.2.1 0)), (1, .int p0), (2, .int 0)]) dX10_write_36 rfl (Nat.le_of_ble_eq_true rfl) rfl ?_
      refine AX.ldc2 dX10_write_37 kcRX10_228 ?_
      refine AX.lstore_n (ls' := [(0, .ref (G.2.2.1 0)), (1, .int p0), (2, .int 0), (3, .long (-1))]) dX10_write_40 rfl (Nat.le_of_ble_eq_true rfl) rfl ?_
      refine AX.iconst dX10_write_41 ic_0 ?_
      refine AX.istore (ls' := [(0, .ref (G.2.2.1 0)), (1, .int p0), (2, .int 0), (3, .long (-1)), (5, .int 0)]) dX10_write_42 (Nat.le_of_ble_eq_true rfl) rfl ?_
      obtain ⟨r5, hr5, hz⟩ := obind hz
      refine AX.sub (ls' := [(0, .ref (G.2.2.1 0)), (1, .int p0), (2, .int 0), (3, .long (-1)), (5, .int 0)]) [0, 1, 2, 3, 4] rfl ?_
      refine lpc_ind (s := (0, -1, 0, σ)) (r := r5) (fun s => AX G mX10_write 4 99 44 [(0, .ref (G.2.2.1 0)), (1, .int p0), (2, .int s.1), (3, .long s.2.1), (5, .int s.2.2.1)] [] s.2.2.2 Q) (fun a : Int32 × St => AX G mX10_write 4 99 94 [(2, .int a.1)] [] a.2 Q) hr5 (fun s z hb hK => wfX10_write_b44 p0 s.1 s.2.1 s.2.2.1 s.2.2.2 hb (Sum.elim (fun s => AX G mX10_write 4 99 44 [(0, .ref (G.2.2.1 0)), (1, .int p0), (2, .int s.1), (3, .long s.2.1), (5, .int s.2.2.1)] [] s.2.2.2 Q) (fun a : Int32 × St => AX G mX10_write 4 99 94 [(2, .int a.1)] [] a.2 Q)) (fun _ h9 => h9) (fun _ h9 => h9) hK) ?_
      refine AX.iload_n dX10_write_94 0 rfl rfl ?_
      exact AX.ireturn dX10_write_95 rfl (vp_nar_int _) (kz (P := fun z => Q (some (.int z.1)) z.2) hz hk)
    · replace hz := (if_pos c4).symm.trans hz
      refine AX.bipush dX10_write_32 bp_m3 ?_
      exact AX.ireturn dX10_write_34 rfl (vp_nar_int _) (kz (P := fun z => Q (some (.int z.1)) z.2) hz hk)
  · replace hz := (if_pos c3).symm.trans hz
    refine AX.bipush dX10_write_19 bp_m2 ?_
    exact AX.ireturn dX10_write_21 rfl (vp_nar_int _) (kz (P := fun z => Q (some (.int z.1)) z.2) hz hk)
theorem xX10_write {G : ag_G} (p0 : Int32) (σ : St) {z : Int32 × St} (hz : fX10_write p0 σ = some z) : AC G yX10_write mX10_write 4 99 [.ref (G.2.2.1 0), .int p0] σ (fun v σ1 => v = some (.int z.1) ∧ σ1 = z.2) := AC.of (plainFor_of_name (by decide)) rfl (Nat.le_of_ble_eq_true rfl) (wfX10_write p0 σ hz ⟨rfl, rfl⟩)
noncomputable def fX10_few_j83 (l2 : Int64) (l4 : Int32) (l5 : Int32) (σ : St) : Option ((Int32 × St) ⊕ ((Int32 × St) ⊕ (St))) :=
  some (.inl (l5 + 1, σ))
theorem wfX10_few_j83 {G : ag_G} (l2 : Int64) (l4 : Int32) (l5 : Int32) (σ : St) {z : (Int32 × St) ⊕ ((Int32 × St) ⊕ (St))} (hz : fX10_few_j83 l2 l4 l5 σ = some z) {Q : Option Value → St → Prop} (K : ((Int32 × St) ⊕ ((Int32 × St) ⊕ (St))) → Prop) (hback : ∀ a : Int32 × St, K (.inl a) → AX G mX10_few 4 99 45 [(0, .ref (G.2.2.1 0)), (2, .long l2), (4, .int l4), (5, .int a.1)] [] a.2 Q) (hk : K z) : AX G mX10_few 4 99 83 [(0, .ref (G.2.2.1 0)), (2, .long l2), (4, .int l4), (5, .int l5)] [] σ Q := by
  unfold fX10_few_j83 at hz
  refine AX.iinc (v := l5 + 1) (ls' := [(0, .ref (G.2.2.1 0)), (2, .long l2), (4, .int l4), (5, .int (l5 + 1))]) 3 dX10_few_83 rfl (Nat.le_of_ble_eq_true rfl) (congrArg (l5 + ·) ic_1) rfl ?_
  refine AX.goto (tgt := 45) dX10_few_86 rfl ?_
  exact AX.sub (ls' := [(0, .ref (G.2.2.1 0)), (2, .long l2), (4, .int l4), (5, .int (l5 + 1))]) [0, 1, 2, 3] rfl (hback (l5 + 1, σ) (kz (P := K) hz hk))
noncomputable def fX10_few_b45 (l2 : Int64) (l4 : Int32) (l5 : Int32) (σ : St) : Option ((Int32 × St) ⊕ ((Int32 × St) ⊕ (St))) :=
  if ((1 : Int32) <<< ((σ.1 1 8) &&& 31)) ≤ l5 then some (.inr (.inr σ)) else (fJ6_bitCount_0f7a4 l5).bind fun q2 => if q2 = l4 then (fX10_safety l5 σ).bind fun q4 => if q4.1 < l2 then fX10_few_j83 l2 l4 l5 q4.2 else some (.inr (.inl (l5, q4.2))) else fX10_few_j83 l2 l4 l5 σ
theorem wfX10_few_b45 {G : ag_G} (l2 : Int64) (l4 : Int32) (l5 : Int32) (σ : St) {z : (Int32 × St) ⊕ ((Int32 × St) ⊕ (St))} (hz : fX10_few_b45 l2 l4 l5 σ = some z) {Q : Option Value → St → Prop} (K : ((Int32 × St) ⊕ ((Int32 × St) ⊕ (St))) → Prop) (hback : ∀ a : Int32 × St, K (.inl a) → AX G mX10_few 4 99 45 [(0, .ref (G.2.2.1 0)), (2, .long l2), (4, .int l4), (5, .int a.1)] [] a.2 Q) (hexit0 : ∀ a : Int32 × St, K (.inr (.inl a)) → AX G mX10_few 4 99 80 [(5, .int a.1)] [] a.2 Q) (hexit1 : ∀ a : St, K (.inr (.inr a)) → AX G mX10_few 4 99 89 [(0, .ref (G.2.2.1 0)), (2, .long l2), (4, .int l4)] [] a Q) (hk : K z) : AX G mX10_few 4 99 45 [(0, .ref (G.2.2.1 0)), (2, .long l2), (4, .int l4), (5, .int l5)] [] σ Q := by
  unfold fX10_few_b45 at hz
  refine AX.iload dX10_few_45 3 rfl ?_
  refine AX.iconst dX10_few_47 ic_1 ?_
  refine AX.aload_n dX10_few_48 0 rfl rfl ?_
  refine AX.getR dX10_few_49 flRX10_12 rfl rfl ?_
  refine AX.getIE (v := σ.1 1 8) dX10_few_52 flRX10_211 rfl rfl rfl ?_
  refine AX.ishl dX10_few_55 ?_
  refine AX.icmp_ge (tgt := 89) dX10_few_56 rfl (fun c1 => ?_) (fun c1 => ?_)
  · replace hz := (if_pos c1).symm.trans hz
    exact AX.sub (ls' := [(0, .ref (G.2.2.1 0)), (2, .long l2), (4, .int l4)]) [0, 1, 2] rfl (hexit1 σ (kz (P := K) hz hk))
  · replace hz := (if_neg c1).symm.trans hz
    refine AX.iload dX10_few_59 3 rfl ?_
    obtain ⟨q2, hq2, hz⟩ := obind hz
    refine AX.callSw (As := [.int l5]) (rest := []) (w := some (.int q2)) (st' := [.int q2]) dX10_few_61 mlRX10_214 ylJ6_bitCount_0f7a4 ysJ6_bitCount_0f7a4 rfl rfl (Nat.le_of_ble_eq_true rfl) ⟨Nat.le_of_ble_eq_true rfl, Nat.le_of_ble_eq_true rfl⟩ (xJ6_bitCount_0f7a4 l5 σ hq2) rfl ?_
    refine AX.iload dX10_few_64 2 rfl ?_
    refine AX.icmp_ne (tgt := 83) dX10_few_66 rfl (fun c3 => ?_) (fun c3 => ?_)
    · replace hz := (if_neg c3).symm.trans hz
      exact AX.sub (ls' := [(0, .ref (G.2.2.1 0)), (2, .long l2), (4, .int l4), (5, .int l5)]) [0, 1, 2, 3] rfl (wfX10_few_j83 l2 l4 l5 σ hz K hback hk)
    · replace hz := (if_pos c3).symm.trans hz
      refine AX.aload_n dX10_few_69 0 rfl rfl ?_
      refine AX.iload dX10_few_70 3 rfl ?_
      obtain ⟨q4, hq4, hz⟩ := obind hz
      refine AX.callVw (r := 0) (As := [.int l5]) (rest := []) (w := some (.long q4.1)) (st' := [.long q4.1]) dX10_few_72 mlRX10_219 ylX10_safety yvX10_safety rfl rfl rfl (Nat.le_of_ble_eq_true rfl) ⟨Nat.le_of_ble_eq_true rfl, Nat.le_of_ble_eq_true rfl⟩ (xX10_safety l5 σ hq4) rfl ?_
      refine AX.lload_n dX10_few_75 1 rfl rfl ?_
      refine AX.lcmp_lt (tgt := 83) dX10_few_76 dX10_few_77 rfl (fun c5 => ?_) (fun c5 => ?_)
      · replace hz := (if_pos c5).symm.trans hz
        exact AX.sub (ls' := [(0, .ref (G.2.2.1 0)), (2, .long l2), (4, .int l4), (5, .int l5)]) [0, 1, 2, 3] rfl (wfX10_few_j83 l2 l4 l5 q4.2 hz K hback hk)
      · replace hz := (if_neg c5).symm.trans hz
        exact AX.sub (ls' := [(5, .int l5)]) [3] rfl (hexit0 (l5, q4.2) (kz (P := K) hz hk))
noncomputable def fX10_few_b36 (l2 : Int64) (l4 : Int32) (σ : St) : Option ((Int32 × St) ⊕ ((Int32 × St) ⊕ (St))) :=
  if (3 : Int32) < l4 then some (.inr (.inr σ)) else (lpc (fun s => fX10_few_b45 l2 l4 s.1 s.2) (0, σ)).bind fun r2 => Sum.elim (fun r2_0 => some (.inr (.inl (r2_0.1, r2_0.2)))) (fun r2_1 => some (.inl (l4 + 1, r2_1))) r2
theorem wfX10_few_b36 {G : ag_G} (l2 : Int64) (l4 : Int32) (σ : St) {z : (Int32 × St) ⊕ ((Int32 × St) ⊕ (St))} (hz : fX10_few_b36 l2 l4 σ = some z) {Q : Option Value → St → Prop} (K : ((Int32 × St) ⊕ ((Int32 × St) ⊕ (St))) → Prop) (hback : ∀ a : Int32 × St, K (.inl a) → AX G mX10_few 4 99 36 [(0, .ref (G.2.2.1 0)), (2, .long l2), (4, .int a.1)] [] a.2 Q) (hexit0 : ∀ a : Int32 × St, K (.inr (.inl a)) → AX G mX10_few 4 99 80 [(5, .int a.1)] [] a.2 Q) (hexit1 : ∀ a : St, K (.inr (.inr a)) → AX G mX10_few 4 99 95 [] [] a Q) (hk : K z) : AX G mX10_few 4 99 36 [(0, .ref (G.2.2.1 0)), (2, .long l2), (4, .int l4)] [] σ Q := by
  unfold fX10_few_b36 at hz
  refine AX.iload dX10_few_36 2 rfl ?_
  refine AX.iconst dX10_few_38 ic_3 ?_
  refine AX.icmp_gt (tgt := 95) dX10_few_39 rfl (fun c1 => ?_) (fun c1 => ?_)
  · replace hz := (if_pos c1).symm.trans hz
    exact AX.sub (ls' := []) [] rfl (hexit1 σ (kz (P := K) hz hk))
  · replace hz := (if_neg c1).symm.trans hz
    refine AX.iconst dX10_few_42 ic_0 ?_
    refine AX.istore (ls' := [(0, .ref (G.2.2.1 0)), (2, .long l2), (4, .int l4), (5, .int 0)]) dX10_few_43 (Nat.le_of_ble_eq_true rfl) rfl ?_
    obtain ⟨r2, hr2, hz⟩ := obind hz
    refine AX.sub (ls' := [(0, .ref (G.2.2.1 0)), (2, .long l2), (4, .int l4), (5, .int 0)]) [0, 1, 2, 3] rfl ?_
    refine lpc_ind (s := (0, σ)) (r := r2) (fun s => AX G mX10_few 4 99 45 [(0, .ref (G.2.2.1 0)), (2, .long l2), (4, .int l4), (5, .int s.1)] [] s.2 Q) (Sum.elim (fun a : Int32 × St => AX G mX10_few 4 99 80 [(5, .int a.1)] [] a.2 Q) (fun a : St => AX G mX10_few 4 99 89 [(0, .ref (G.2.2.1 0)), (2, .long l2), (4, .int l4)] [] a Q)) hr2 (fun s z hb hK => wfX10_few_b45 l2 l4 s.1 s.2 hb (Sum.elim (fun s => AX G mX10_few 4 99 45 [(0, .ref (G.2.2.1 0)), (2, .long l2), (4, .int l4), (5, .int s.1)] [] s.2 Q) (Sum.elim (fun a : Int32 × St => AX G mX10_few 4 99 80 [(5, .int a.1)] [] a.2 Q) (fun a : St => AX G mX10_few 4 99 89 [(0, .ref (G.2.2.1 0)), (2, .long l2), (4, .int l4)] [] a Q))) (fun _ h9 => h9) (fun _ h9 => h9) (fun _ h9 => h9) hK) ?_
    rcases r2 with r2_0 | r2_1
    · dsimp only [Sum.elim_inl, Sum.elim_inr] at hz ⊢
      exact AX.sub (ls' := [(5, .int r2_0.1)]) [0] rfl (hexit0 (r2_0.1, r2_0.2) (kz (P := K) hz hk))
    · dsimp only [Sum.elim_inl, Sum.elim_inr] at hz ⊢
      refine AX.iinc (v := l4 + 1) (ls' := [(0, .ref (G.2.2.1 0)), (2, .long l2), (4, .int (l4 + 1))]) 2 dX10_few_89 rfl (Nat.le_of_ble_eq_true rfl) (congrArg (l4 + ·) ic_1) rfl ?_
      refine AX.goto (tgt := 36) dX10_few_92 rfl ?_
      exact AX.sub (ls' := [(0, .ref (G.2.2.1 0)), (2, .long l2), (4, .int (l4 + 1))]) [0, 1, 2] rfl (hback (l4 + 1, r2_1) (kz (P := K) hz hk))
noncomputable def fX10_few (p0 : Int32) (σ : St) : Option (Int32 × St) :=
  (fX10_within p0 (0 : Int32) (16 : Int32)).bind fun q1 => if q1 = (0 : Int32) then some ((-2 : Int32), σ) else if (σ.1 1 6) = (0 : Int32) then some ((-3 : Int32), σ) else ltb ((281474976710656 : Int64) * p0.toInt64) fun x4 => (lpc (fun s => fX10_few_b36 x4 s.1 s.2) (0, σ)).bind fun r5 => Sum.elim (fun r5_0 => some (r5_0.1, r5_0.2)) (fun r5_1 => some ((-1 : Int32), r5_1)) r5
theorem wfX10_few {G : ag_G} (p0 : Int32) (σ : St) {z : Int32 × St} (hz : fX10_few p0 σ = some z) {Q : Option Value → St → Prop} (hk : Q (some (.int z.1)) z.2) : AX G mX10_few 4 99 0 [(0, .ref (G.2.2.1 0)), (1, .int p0)] [] σ Q := by
  unfold fX10_few at hz
  refine AX.iload_n dX10_few_0 1 rfl rfl ?_
  refine AX.iconst dX10_few_1 ic_0 ?_
  refine AX.bipush dX10_few_2 bp_16 ?_
  obtain ⟨q1, hq1, hz⟩ := obind hz
  refine AX.callSw (As := [.int p0, .int 0, .int 16]) (rest := []) (w := some (.int q1)) (st' := [.int q1]) dX10_few_4 mlRX10_94 ylX10_within ysX10_within rfl rfl (Nat.le_of_ble_eq_true rfl) ⟨Nat.le_of_ble_eq_true rfl, Nat.le_of_ble_eq_true rfl⟩ (xX10_within p0 (0 : Int32) (16 : Int32) σ hq1) rfl ?_
  refine AX.if_ne (tgt := 13) dX10_few_7 rfl (fun c2 => ?_) (fun c2 => ?_)
  · replace hz := (if_neg c2).symm.trans hz
    refine AX.aload_n dX10_few_13 0 rfl rfl ?_
    refine AX.getR dX10_few_14 flRX10_12 rfl rfl ?_
    refine AX.getIE (v := σ.1 1 6) dX10_few_17 flRX10_192 rfl rfl rfl ?_
    refine AX.if_ne (tgt := 26) dX10_few_20 rfl (fun c3 => ?_) (fun c3 => ?_)
    · replace hz := (if_neg c3).symm.trans hz
      refine AX.ldc2 dX10_few_26 kcRX10_230 ?_
      refine AX.iload_n dX10_few_29 1 rfl rfl ?_
      refine AX.i2l dX10_few_30 ?_
      refine AX.lmul dX10_few_31 ?_
      obtain ⟨x4, hx4, hz⟩ := ltb_e hz
      refine AX.topL hx4 ?_
      refine AX.lstore_n (ls' := [(0, .ref (G.2.2.1 0)), (1, .int p0), (2, .long x4)]) dX10_few_32 rfl (Nat.le_of_ble_eq_true rfl) rfl ?_
      refine AX.iconst dX10_few_33 ic_0 ?_
      refine AX.istore (ls' := [(0, .ref (G.2.2.1 0)), (1, .int p0), (2, .long x4), (4, .int 0)]) dX10_few_34 (Nat.le_of_ble_eq_true rfl) rfl ?_
      obtain ⟨r5, hr5, hz⟩ := obind hz
      refine AX.sub (ls' := [(0, .ref (G.2.2.1 0)), (2, .long x4), (4, .int 0)]) [0, 2, 3] rfl ?_
      refine lpc_ind (s := (0, σ)) (r := r5) (fun s => AX G mX10_few 4 99 36 [(0, .ref (G.2.2.1 0)), (2, .long x4), (4, .int s.1)] [] s.2 Q) (Sum.elim (fun a : Int32 × St => AX G mX10_few 4 99 80 [(5, .int a.1)] [] a.2 Q) (fun a : St => AX G mX10_few 4 99 95 [] [] a Q)) hr5 (fun s z hb hK => wfX10_few_b36 x4 s.1 s.2 hb (Sum.elim (fun s => AX G mX10_few 4 99 36 [(0, .ref (G.2.2.1 0)), (2, .long x4), (4, .int s.1)] [] s.2 Q) (Sum.elim (fun a : Int32 × St => AX G mX10_few 4 99 80 [(5, .int a.1)] [] a.2 Q) (fun a : St => AX G mX10_few 4 99 95 [] [] a Q))) (fun _ h9 => h9) (fun _ h9 => h9) (fun _ h9 => h9) hK) ?_
      rcases r5 with r5_0 | r5_1
      · dsimp only [Sum.elim_inl, Sum.elim_inr] at hz ⊢
        refine AX.iload dX10_few_80 0 rfl ?_
        exact AX.ireturn dX10_few_82 rfl (vp_nar_int _) (kz (P := fun z => Q (some (.int z.1)) z.2) hz hk)
      · dsimp only [Sum.elim_inl, Sum.elim_inr] at hz ⊢
        refine AX.iconst dX10_few_95 ic_m1 ?_
        exact AX.ireturn dX10_few_96 rfl (vp_nar_int _) (kz (P := fun z => Q (some (.int z.1)) z.2) hz hk)
    · replace hz := (if_pos c3).symm.trans hz
      refine AX.bipush dX10_few_23 bp_m3 ?_
      exact AX.ireturn dX10_few_25 rfl (vp_nar_int _) (kz (P := fun z => Q (some (.int z.1)) z.2) hz hk)
  · replace hz := (if_pos c2).symm.trans hz
    refine AX.bipush dX10_few_10 bp_m2 ?_
    exact AX.ireturn dX10_few_12 rfl (vp_nar_int _) (kz (P := fun z => Q (some (.int z.1)) z.2) hz hk)
theorem xX10_few {G : ag_G} (p0 : Int32) (σ : St) {z : Int32 × St} (hz : fX10_few p0 σ = some z) : AC G yX10_few mX10_few 4 99 [.ref (G.2.2.1 0), .int p0] σ (fun v σ1 => v = some (.int z.1) ∧ σ1 = z.2) := AC.of (plainFor_of_name (by decide)) rfl (Nat.le_of_ble_eq_true rfl) (wfX10_few p0 σ hz ⟨rfl, rfl⟩)
noncomputable def fX10_anew_j111 (l2 : Int32) (l3 : Int64) (l7 : Int32) (t0 : Int64) (t1 : Int64) (σ : St) : Option ((Int64 × Int32) ⊕ Int64) :=
  ltb (t0 + t1) fun x1 => some (.inl (x1, l7 + 1))
theorem wfX10_anew_j111 {G : ag_G} (l2 : Int32) (l3 : Int64) (l7 : Int32) (t0 : Int64) (t1 : Int64) (σ : St) {z : (Int64 × Int32) ⊕ Int64} (hz : fX10_anew_j111 l2 l3 l7 t0 t1 σ = some z) {Q : Option Value → St → Prop} (K : ((Int64 × Int32) ⊕ Int64) → Prop) (hback : ∀ a : Int64 × Int32, K (.inl a) → AX G mX10_anew 3 78 45 [(0, .ref (G.2.2.1 0)), (2, .int l2), (3, .long l3), (5, .long a.1), (7, .int a.2)] [] σ Q) (hk : K z) : AX G mX10_anew 3 78 111 [(0, .ref (G.2.2.1 0)), (2, .int l2), (3, .long l3), (7, .int l7)] [.long t1, .long t0] σ Q := by
  unfold fX10_anew_j111 at hz
  refine AX.ladd dX10_anew_111 ?_
  obtain ⟨x1, hx1, hz⟩ := ltb_e hz
  refine AX.topL hx1 ?_
  refine AX.lstore (ls' := [(0, .ref (G.2.2.1 0)), (2, .int l2), (3, .long l3), (5, .long x1), (7, .int l7)]) dX10_anew_112 (Nat.le_of_ble_eq_true rfl) rfl ?_
  refine AX.iinc (v := l7 + 1) (ls' := [(0, .ref (G.2.2.1 0)), (2, .int l2), (3, .long l3), (5, .long x1), (7, .int (l7 + 1))]) 4 dX10_anew_114 rfl (Nat.le_of_ble_eq_true rfl) (congrArg (l7 + ·) ic_1) rfl ?_
  refine AX.goto (tgt := 45) dX10_anew_117 rfl ?_
  exact AX.sub (ls' := [(0, .ref (G.2.2.1 0)), (2, .int l2), (3, .long l3), (5, .long x1), (7, .int (l7 + 1))]) [0, 1, 2, 3, 4] rfl (hback (x1, l7 + 1) (kz (P := K) hz hk))
noncomputable def fX10_anew_j89 (l2 : Int32) (l3 : Int64) (l5 : Int64) (l7 : Int32) (t0 : Int32) (σ : St) : Option ((Int64 × Int32) ⊕ Int64) :=
  if t0 = (0 : Int32) then (fX6_valueOf (1 : Int32) σ).bind fun q2 => fX10_anew_j111 l2 l3 l7 l5 q2.toInt64 σ else fX10_anew_j111 l2 l3 l7 l5 l3 σ
theorem wfX10_anew_j89 {G : ag_G} (l2 : Int32) (l3 : Int64) (l5 : Int64) (l7 : Int32) (t0 : Int32) (σ : St) {z : (Int64 × Int32) ⊕ Int64} (hz : fX10_anew_j89 l2 l3 l5 l7 t0 σ = some z) {Q : Option Value → St → Prop} (K : ((Int64 × Int32) ⊕ Int64) → Prop) (hback : ∀ a : Int64 × Int32, K (.inl a) → AX G mX10_anew 3 78 45 [(0, .ref (G.2.2.1 0)), (2, .int l2), (3, .long l3), (5, .long a.1), (7, .int a.2)] [] σ Q) (hk : K z) : AX G mX10_anew 3 78 89 [(0, .ref (G.2.2.1 0)), (2, .int l2), (3, .long l3), (5, .long l5), (7, .int l7)] [.int t0] σ Q := by
  unfold fX10_anew_j89 at hz
  refine AX.istore (ls' := [(0, .ref (G.2.2.1 0)), (2, .int l2), (3, .long l3), (5, .long l5), (7, .int l7), (8, .int t0)]) dX10_anew_89 (Nat.le_of_ble_eq_true rfl) rfl ?_
  refine AX.lload dX10_anew_91 3 rfl ?_
  refine AX.iload dX10_anew_93 5 rfl ?_
  refine AX.if_eq (tgt := 102) dX10_anew_95 rfl (fun c1 => ?_) (fun c1 => ?_)
  · replace hz := (if_pos c1).symm.trans hz
    refine AX.aload_n dX10_anew_102 0 rfl rfl ?_
    refine AX.getR dX10_anew_103 flRX10_19 rfl rfl ?_
    refine AX.iconst dX10_anew_106 ic_1 ?_
    obtain ⟨q2, hq2, hz⟩ := obind hz
    refine AX.callVw (r := 7) (As := [.int 1]) (rest := [.long l5]) (w := some (.int q2)) (st' := [.int q2, .long l5]) dX10_anew_107 mlRX10_138 ylX6_valueOf yvX6_valueOf rfl rfl rfl (Nat.le_of_ble_eq_true rfl) ⟨Nat.le_of_ble_eq_true rfl, Nat.le_of_ble_eq_true rfl⟩ (xX6_valueOf (1 : Int32) σ hq2) rfl ?_
    refine AX.i2l dX10_anew_110 ?_
    exact AX.sub (ls' := [(0, .ref (G.2.2.1 0)), (2, .int l2), (3, .long l3), (7, .int l7)]) [0, 1, 2, 4] rfl (wfX10_anew_j111 l2 l3 l7 l5 q2.toInt64 σ hz K hback hk)
  · replace hz := (if_neg c1).symm.trans hz
    refine AX.lload_n dX10_anew_98 2 rfl rfl ?_
    refine AX.goto (tgt := 111) dX10_anew_99 rfl ?_
    exact AX.sub (ls' := [(0, .ref (G.2.2.1 0)), (2, .int l2), (3, .long l3), (7, .int l7)]) [0, 1, 2, 4] rfl (wfX10_anew_j111 l2 l3 l7 l5 l3 σ hz K hback hk)
noncomputable def fX10_anew_b45 (l2 : Int32) (l3 : Int64) (l5 : Int64) (l7 : Int32) (σ : St) : Option ((Int64 × Int32) ⊕ Int64) :=
  if (σ.1 1 8) ≤ l7 then some (.inr l5) else (fX4_barOf l7 σ).bind fun q2 => (fX4_tuneOf q2 σ).bind fun q3 => (fX4_tuneOf l2 σ).bind fun q4 => if q3 = q4 then fX10_anew_j89 l2 l3 l5 l7 1 σ else fX10_anew_j89 l2 l3 l5 l7 0 σ
theorem wfX10_anew_b45 {G : ag_G} (l2 : Int32) (l3 : Int64) (l5 : Int64) (l7 : Int32) (σ : St) {z : (Int64 × Int32) ⊕ Int64} (hz : fX10_anew_b45 l2 l3 l5 l7 σ = some z) {Q : Option Value → St → Prop} (K : ((Int64 × Int32) ⊕ Int64) → Prop) (hback : ∀ a : Int64 × Int32, K (.inl a) → AX G mX10_anew 3 78 45 [(0, .ref (G.2.2.1 0)), (2, .int l2), (3, .long l3), (5, .long a.1), (7, .int a.2)] [] σ Q) (hexit0 : ∀ a : Int64, K (.inr a) → AX G mX10_anew 3 78 120 [(0, .ref (G.2.2.1 0)), (2, .int l2), (3, .long l3), (5, .long a)] [] σ Q) (hk : K z) : AX G mX10_anew 3 78 45 [(0, .ref (G.2.2.1 0)), (2, .int l2), (3, .long l3), (5, .long l5), (7, .int l7)] [] σ Q := by
  unfold fX10_anew_b45 at hz
  refine AX.iload dX10_anew_45 4 rfl ?_
  refine AX.aload_n dX10_anew_47 0 rfl rfl ?_
  refine AX.getR dX10_anew_48 flRX10_12 rfl rfl ?_
  refine AX.getIE (v := σ.1 1 8) dX10_anew_51 flRX10_211 rfl rfl rfl ?_
  refine AX.icmp_ge (tgt := 120) dX10_anew_54 rfl (fun c1 => ?_) (fun c1 => ?_)
  · replace hz := (if_pos c1).symm.trans hz
    exact AX.sub (ls' := [(0, .ref (G.2.2.1 0)), (2, .int l2), (3, .long l3), (5, .long l5)]) [0, 1, 2, 3] rfl (hexit0 l5 (kz (P := K) hz hk))
  · replace hz := (if_neg c1).symm.trans hz
    refine AX.aload_n dX10_anew_57 0 rfl rfl ?_
    refine AX.getR dX10_anew_58 flRX10_12 rfl rfl ?_
    refine AX.aload_n dX10_anew_61 0 rfl rfl ?_
    refine AX.getR dX10_anew_62 flRX10_12 rfl rfl ?_
    refine AX.iload dX10_anew_65 4 rfl ?_
    obtain ⟨q2, hq2, hz⟩ := obind hz
    refine AX.callVw (r := 1) (As := [.int l7]) (rest := [.ref (G.2.2.1 1)]) (w := some (.int q2)) (st' := [.int q2, .ref (G.2.2.1 1)]) dX10_anew_67 mlRX10_232 ylX4_barOf yvX4_barOf rfl rfl rfl (Nat.le_of_ble_eq_true rfl) ⟨Nat.le_of_ble_eq_true rfl, Nat.le_of_ble_eq_true rfl⟩ (xX4_barOf l7 σ hq2) rfl ?_
    obtain ⟨q3, hq3, hz⟩ := obind hz
    refine AX.callVw (r := 1) (As := [.int q2]) (rest := []) (w := some (.int q3)) (st' := [.int q3]) dX10_anew_70 mlRX10_119 ylX4_tuneOf yvX4_tuneOf rfl rfl rfl (Nat.le_of_ble_eq_true rfl) ⟨Nat.le_of_ble_eq_true rfl, Nat.le_of_ble_eq_true rfl⟩ (xX4_tuneOf q2 σ hq3) rfl ?_
    refine AX.aload_n dX10_anew_73 0 rfl rfl ?_
    refine AX.getR dX10_anew_74 flRX10_12 rfl rfl ?_
    refine AX.iload_n dX10_anew_77 1 rfl rfl ?_
    obtain ⟨q4, hq4, hz⟩ := obind hz
    refine AX.callVw (r := 1) (As := [.int l2]) (rest := [.int q3]) (w := some (.int q4)) (st' := [.int q4, .int q3]) dX10_anew_78 mlRX10_119 ylX4_tuneOf yvX4_tuneOf rfl rfl rfl (Nat.le_of_ble_eq_true rfl) ⟨Nat.le_of_ble_eq_true rfl, Nat.le_of_ble_eq_true rfl⟩ (xX4_tuneOf l2 σ hq4) rfl ?_
    refine AX.icmp_ne (tgt := 88) dX10_anew_81 rfl (fun c5 => ?_) (fun c5 => ?_)
    · replace hz := (if_neg c5).symm.trans hz
      refine AX.iconst dX10_anew_88 ic_0 ?_
      exact AX.sub (ls' := [(0, .ref (G.2.2.1 0)), (2, .int l2), (3, .long l3), (5, .long l5), (7, .int l7)]) [0, 1, 2, 3, 4] rfl (wfX10_anew_j89 l2 l3 l5 l7 0 σ hz K hback hk)
    · replace hz := (if_pos c5).symm.trans hz
      refine AX.iconst dX10_anew_84 ic_1 ?_
      refine AX.goto (tgt := 89) dX10_anew_85 rfl ?_
      exact AX.sub (ls' := [(0, .ref (G.2.2.1 0)), (2, .int l2), (3, .long l3), (5, .long l5), (7, .int l7)]) [0, 1, 2, 3, 4] rfl (wfX10_anew_j89 l2 l3 l5 l7 1 σ hz K hback hk)
noncomputable def fX10_anew (p0 : Int32) (σ : St) : Option (Int32 × St) :=
  (fX10_within p0 (0 : Int32) ((σ.1 1 8) - (1 : Int32))).bind fun q1 => if q1 = (0 : Int32) then some ((-2 : Int32), σ) else (fX4_barOf p0 σ).bind fun q3 => (fX6_valueOf (0 : Int32) σ).bind fun q4 => ltb q4.toInt64 fun x5 => (lpc (fun s => fX10_anew_b45 q3 x5 s.1 s.2 σ) (0, 0)).bind fun r6 => (fX8_walk 9 q3 (0 : Int32) (0 : Int32) σ).bind fun q7 => (fX8_chanceOf (0 : Int32) q7).bind fun q8 => if (x5 * (4503599627370496 : Int64)) ≤ (q8 * r6) then some ((0 : Int32), q7) else some ((1 : Int32), q7)
theorem wfX10_anew {G : ag_G} (p0 : Int32) (σ : St) {z : Int32 × St} (hz : fX10_anew p0 σ = some z) {Q : Option Value → St → Prop} (hk : Q (some (.int z.1)) z.2) : AX G mX10_anew 3 78 0 [(0, .ref (G.2.2.1 0)), (1, .int p0)] [] σ Q := by
  unfold fX10_anew at hz
  refine AX.iload_n dX10_anew_0 1 rfl rfl ?_
  refine AX.iconst dX10_anew_1 ic_0 ?_
  refine AX.aload_n dX10_anew_2 0 rfl rfl ?_
  refine AX.getR dX10_anew_3 flRX10_12 rfl rfl ?_
  refine AX.getIE (v := σ.1 1 8) dX10_anew_6 flRX10_211 rfl rfl rfl ?_
  refine AX.iconst dX10_anew_9 ic_1 ?_
  refine AX.isub dX10_anew_10 ?_
  obtain ⟨q1, hq1, hz⟩ := obind hz
  refine AX.callSw (As := [.int p0, .int 0, .int ((σ.1 1 8) - (1 : Int32))]) (rest := []) (w := some (.int q1)) (st' := [.int q1]) dX10_anew_11 mlRX10_94 ylX10_within ysX10_within rfl rfl (Nat.le_of_ble_eq_true rfl) ⟨Nat.le_of_ble_eq_true rfl, Nat.le_of_ble_eq_true rfl⟩ (xX10_within p0 (0 : Int32) ((σ.1 1 8) - (1 : Int32)) σ hq1) rfl ?_
  refine AX.if_ne (tgt := 20) dX10_anew_14 rfl (fun c2 => ?_) (fun c2 => ?_)
  · replace hz := (if_neg c2).symm.trans hz
    refine AX.aload_n dX10_anew_20 0 rfl rfl ?_
    refine AX.getR dX10_anew_21 flRX10_12 rfl rfl ?_
    refine AX.iload_n dX10_anew_24 1 rfl rfl ?_
    obtain ⟨q3, hq3, hz⟩ := obind hz
    refine AX.callVw (r := 1) (As := [.int p0]) (rest := []) (w := some (.int q3)) (st' := [.int q3]) dX10_anew_25 mlRX10_232 ylX4_barOf yvX4_barOf rfl rfl rfl (Nat.le_of_ble_eq_true rfl) ⟨Nat.le_of_ble_eq_true rfl, Nat.le_of_ble_eq_true rfl⟩ (xX4_barOf p0 σ hq3) rfl ?_
    refine AX.istore_n (ls' := [(0, .ref (G.2.2.1 0)), (1, .int p0), (2, .int q3)]) dX10_anew_28 rfl (Nat.le_of_ble_eq_true rfl) rfl ?_
    refine AX.aload_n dX10_anew_29 0 rfl rfl ?_
    refine AX.getR dX10_anew_30 flRX10_19 rfl rfl ?_
    refine AX.iconst dX10_anew_33 ic_0 ?_
    obtain ⟨q4, hq4, hz⟩ := obind hz
    refine AX.callVw (r := 7) (As := [.int 0]) (rest := []) (w := some (.int q4)) (st' := [.int q4]) dX10_anew_34 mlRX10_138 ylX6_valueOf yvX6_valueOf rfl rfl rfl (Nat.le_of_ble_eq_true rfl) ⟨Nat.le_of_ble_eq_true rfl, Nat.le_of_ble_eq_true rfl⟩ (xX6_valueOf (0 : Int32) σ hq4) rfl ?_
    refine AX.i2l dX10_anew_37 ?_
    obtain ⟨x5, hx5, hz⟩ := ltb_e hz
    refine AX.topL hx5 ?_
    refine AX.lstore_n (ls' := [(0, .ref (G.2.2.1 0)), (1, .int p0), (2, .int q3), (3, .long x5)]) dX10_anew_38 rfl (Nat.le_of_ble_eq_true rfl) rfl ?_
    refine AX.lconst dX10_anew_39 lc_0 ?_
    refine AX.lstore (ls' := [(0, .ref (G.2.2.1 0)), (1, .int p0), (2, .int q3), (3, .long x5), (5, .long 0)]) dX10_anew_40 (Nat.le_of_ble_eq_true rfl) rfl ?_
    refine AX.iconst dX10_anew_42 ic_0 ?_
    refine AX.istore (ls' := [(0, .ref (G.2.2.1 0)), (1, .int p0), (2, .int q3), (3, .long x5), (5, .long 0), (7, .int 0)]) dX10_anew_43 (Nat.le_of_ble_eq_true rfl) rfl ?_
    obtain ⟨r6, hr6, hz⟩ := obind hz
    refine AX.sub (ls' := [(0, .ref (G.2.2.1 0)), (2, .int q3), (3, .long x5), (5, .long 0), (7, .int 0)]) [0, 2, 3, 4, 5] rfl ?_
    refine lpc_ind (s := (0, 0)) (r := r6) (fun s => AX G mX10_anew 3 78 45 [(0, .ref (G.2.2.1 0)), (2, .int q3), (3, .long x5), (5, .long s.1), (7, .int s.2)] [] σ Q) (fun a : Int64 => AX G mX10_anew 3 78 120 [(0, .ref (G.2.2.1 0)), (2, .int q3), (3, .long x5), (5, .long a)] [] σ Q) hr6 (fun s z hb hK => wfX10_anew_b45 q3 x5 s.1 s.2 σ hb (Sum.elim (fun s => AX G mX10_anew 3 78 45 [(0, .ref (G.2.2.1 0)), (2, .int q3), (3, .long x5), (5, .long s.1), (7, .int s.2)] [] σ Q) (fun a : Int64 => AX G mX10_anew 3 78 120 [(0, .ref (G.2.2.1 0)), (2, .int q3), (3, .long x5), (5, .long a)] [] σ Q)) (fun _ h9 => h9) (fun _ h9 => h9) hK) ?_
    refine AX.aload_n dX10_anew_120 0 rfl rfl ?_
    refine AX.getR dX10_anew_121 flRX10_54 rfl rfl ?_
    refine AX.aload_n dX10_anew_124 0 rfl rfl ?_
    refine AX.getR dX10_anew_125 flRX10_26 rfl rfl ?_
    refine AX.iload_n dX10_anew_128 1 rfl rfl ?_
    refine AX.iconst dX10_anew_129 ic_0 ?_
    refine AX.iconst dX10_anew_130 ic_0 ?_
    obtain ⟨q7, hq7, hz⟩ := obind hz
    refine AX.callVw (r := 24) (As := [.ref (G.2.2.1 9), .int q3, .int 0, .int 0]) (rest := []) (w := none) (st' := []) dX10_anew_131 mlRX10_202 ylX8_walk yvX8_walk rfl rfl rfl (Nat.le_of_ble_eq_true rfl) ⟨Nat.le_of_ble_eq_true rfl, Nat.le_of_ble_eq_true rfl⟩ (xX8_walk 9 q3 (0 : Int32) (0 : Int32) σ hq7) rfl ?_
    refine AX.lload_n dX10_anew_134 2 rfl rfl ?_
    refine AX.ldc2 dX10_anew_135 kcRX10_209 ?_
    refine AX.lmul dX10_anew_138 ?_
    refine AX.aload_n dX10_anew_139 0 rfl rfl ?_
    refine AX.getR dX10_anew_140 flRX10_54 rfl rfl ?_
    refine AX.iconst dX10_anew_143 ic_0 ?_
    obtain ⟨q8, hq8, hz⟩ := obind hz
    refine AX.callVw (r := 24) (As := [.int 0]) (rest := [.long (x5 * (4503599627370496 : Int64))]) (w := some (.long q8)) (st' := [.long q8, .long (x5 * (4503599627370496 : Int64))]) dX10_anew_144 mlRX10_206 ylX8_chanceOf yvX8_chanceOf rfl rfl rfl (Nat.le_of_ble_eq_true rfl) ⟨Nat.le_of_ble_eq_true rfl, Nat.le_of_ble_eq_true rfl⟩ (xX8_chanceOf (0 : Int32) q7 hq8) rfl ?_
    refine AX.lload dX10_anew_147 3 rfl ?_
    refine AX.lmul dX10_anew_149 ?_
    refine AX.lcmp_le (tgt := 158) dX10_anew_150 dX10_anew_151 rfl (fun c9 => ?_) (fun c9 => ?_)
    · replace hz := (if_pos c9).symm.trans hz
      refine AX.iconst dX10_anew_158 ic_0 ?_
      exact AX.ireturn dX10_anew_159 rfl (vp_nar_int _) (kz (P := fun z => Q (some (.int z.1)) z.2) hz hk)
    · replace hz := (if_neg c9).symm.trans hz
      refine AX.iconst dX10_anew_154 ic_1 ?_
      refine AX.goto (tgt := 159) dX10_anew_155 rfl ?_
      exact AX.ireturn dX10_anew_159 rfl (vp_nar_int _) (kz (P := fun z => Q (some (.int z.1)) z.2) hz hk)
  · replace hz := (if_pos c2).symm.trans hz
    refine AX.bipush dX10_anew_17 bp_m2 ?_
    exact AX.ireturn dX10_anew_19 rfl (vp_nar_int _) (kz (P := fun z => Q (some (.int z.1)) z.2) hz hk)
theorem xX10_anew {G : ag_G} (p0 : Int32) (σ : St) {z : Int32 × St} (hz : fX10_anew p0 σ = some z) : AC G yX10_anew mX10_anew 3 78 [.ref (G.2.2.1 0), .int p0] σ (fun v σ1 => v = some (.int z.1) ∧ σ1 = z.2) := AC.of (plainFor_of_name (by decide)) rfl (Nat.le_of_ble_eq_true rfl) (wfX10_anew p0 σ hz ⟨rfl, rfl⟩)
noncomputable def fX10_joint_j27  : Option (Int64) :=
  (fX10_refusal (-2 : Int32)).bind fun q1 => some q1
theorem wfX10_joint_j27 {G : ag_G}  {σ : St} {z : Int64} (hz : fX10_joint_j27  = some z) {Q : Option Value → St → Prop} (hk : Q (some (.long z)) σ) : AX G mX10_joint 2 58 27 [] [] σ Q := by
  unfold fX10_joint_j27 at hz
  refine AX.bipush dX10_joint_27 bp_m2 ?_
  obtain ⟨q1, hq1, hz⟩ := obind hz
  refine AX.callSw (As := [.int (-2)]) (rest := []) (w := some (.long q1)) (st' := [.long q1]) dX10_joint_29 mlRX10_174 ylX10_refusal ysX10_refusal rfl rfl (Nat.le_of_ble_eq_true rfl) ⟨Nat.le_of_ble_eq_true rfl, Nat.le_of_ble_eq_true rfl⟩ (xX10_refusal (-2 : Int32) σ hq1) rfl ?_
  exact AX.lreturn dX10_joint_32 rfl (kz (P := fun z => Q (some (.long z)) σ) hz hk)
noncomputable def fX10_joint (p0 : Int32) (p1 : Int32) (p2 : Int32) : Option (Int64) :=
  (fX10_within p0 (0 : Int32) (16 : Int32)).bind fun q1 => if q1 = (0 : Int32) then fX10_joint_j27  else (fX10_within p1 (0 : Int32) (16 : Int32)).bind fun q3 => if q3 = (0 : Int32) then fX10_joint_j27  else (fX10_isPart p2).bind fun q5 => if q5 = (0 : Int32) then fX10_joint_j27  else ltb (p0 * p1) fun x7 => ltb (x7 + (((16 : Int32) - p0) * ((16 : Int32) - p1))) fun x8 => if x8 = (0 : Int32) then (fX10_refusal (-3 : Int32)).bind fun q11 => some q11 else (fX10_told x7.toInt64 x8.toInt64 p2).bind fun q10 => some q10
theorem wfX10_joint {G : ag_G} (p0 : Int32) (p1 : Int32) (p2 : Int32) (σ : St) {z : Int64} (hz : fX10_joint p0 p1 p2 = some z) {Q : Option Value → St → Prop} (hk : Q (some (.long z)) σ) : AX G mX10_joint 2 58 0 [(0, .ref (G.2.2.1 0)), (1, .int p0), (2, .int p1), (3, .int p2)] [] σ Q := by
  unfold fX10_joint at hz
  refine AX.iload_n dX10_joint_0 1 rfl rfl ?_
  refine AX.iconst dX10_joint_1 ic_0 ?_
  refine AX.bipush dX10_joint_2 bp_16 ?_
  obtain ⟨q1, hq1, hz⟩ := obind hz
  refine AX.callSw (As := [.int p0, .int 0, .int 16]) (rest := []) (w := some (.int q1)) (st' := [.int q1]) dX10_joint_4 mlRX10_94 ylX10_within ysX10_within rfl rfl (Nat.le_of_ble_eq_true rfl) ⟨Nat.le_of_ble_eq_true rfl, Nat.le_of_ble_eq_true rfl⟩ (xX10_within p0 (0 : Int32) (16 : Int32) σ hq1) rfl ?_
  refine AX.if_eq (tgt := 27) dX10_joint_7 rfl (fun c2 => ?_) (fun c2 => ?_)
  · replace hz := (if_pos c2).symm.trans hz
    exact AX.sub (ls' := []) [] rfl (wfX10_joint_j27  hz hk)
  · replace hz := (if_neg c2).symm.trans hz
    refine AX.iload_n dX10_joint_10 2 rfl rfl ?_
    refine AX.iconst dX10_joint_11 ic_0 ?_
    refine AX.bipush dX10_joint_12 bp_16 ?_
    obtain ⟨q3, hq3, hz⟩ := obind hz
    refine AX.callSw (As := [.int p1, .int 0, .int 16]) (rest := []) (w := some (.int q3)) (st' := [.int q3]) dX10_joint_14 mlRX10_94 ylX10_within ysX10_within rfl rfl (Nat.le_of_ble_eq_true rfl) ⟨Nat.le_of_ble_eq_true rfl, Nat.le_of_ble_eq_true rfl⟩ (xX10_within p1 (0 : Int32) (16 : Int32) σ hq3) rfl ?_
    refine AX.if_eq (tgt := 27) dX10_joint_17 rfl (fun c4 => ?_) (fun c4 => ?_)
    · replace hz := (if_pos c4).symm.trans hz
      exact AX.sub (ls' := []) [] rfl (wfX10_joint_j27  hz hk)
    · replace hz := (if_neg c4).symm.trans hz
      refine AX.iload_n dX10_joint_20 3 rfl rfl ?_
      obtain ⟨q5, hq5, hz⟩ := obind hz
      refine AX.callSw (As := [.int p2]) (rest := []) (w := some (.int q5)) (st' := [.int q5]) dX10_joint_21 mlRX10_171 ylX10_isPart ysX10_isPart rfl rfl (Nat.le_of_ble_eq_true rfl) ⟨Nat.le_of_ble_eq_true rfl, Nat.le_of_ble_eq_true rfl⟩ (xX10_isPart p2 σ hq5) rfl ?_
      refine AX.if_ne (tgt := 33) dX10_joint_24 rfl (fun c6 => ?_) (fun c6 => ?_)
      · replace hz := (if_neg c6).symm.trans hz
        refine AX.iload_n dX10_joint_33 1 rfl rfl ?_
        refine AX.iload_n dX10_joint_34 2 rfl rfl ?_
        refine AX.imul dX10_joint_35 ?_
        obtain ⟨x7, hx7, hz⟩ := ltb_e hz
        refine AX.topI hx7 ?_
        refine AX.istore (ls' := [(0, .ref (G.2.2.1 0)), (1, .int p0), (2, .int p1), (3, .int p2), (4, .int x7)]) dX10_joint_36 (Nat.le_of_ble_eq_true rfl) rfl ?_
        refine AX.iload dX10_joint_38 4 rfl ?_
        refine AX.bipush dX10_joint_40 bp_16 ?_
        refine AX.iload_n dX10_joint_42 1 rfl rfl ?_
        refine AX.isub dX10_joint_43 ?_
        refine AX.bipush dX10_joint_44 bp_16 ?_
        refine AX.iload_n dX10_joint_46 2 rfl rfl ?_
        refine AX.isub dX10_joint_47 ?_
        refine AX.imul dX10_joint_48 ?_
        refine AX.iadd dX10_joint_49 ?_
        obtain ⟨x8, hx8, hz⟩ := ltb_e hz
        refine AX.topI hx8 ?_
        refine AX.istore (ls' := [(0, .ref (G.2.2.1 0)), (1, .int p0), (2, .int p1), (3, .int p2), (4, .int x7), (5, .int x8)]) dX10_joint_50 (Nat.le_of_ble_eq_true rfl) rfl ?_
        refine AX.iload dX10_joint_52 5 rfl ?_
        refine AX.if_ne (tgt := 65) dX10_joint_54 rfl (fun c9 => ?_) (fun c9 => ?_)
        · replace hz := (if_neg c9).symm.trans hz
          refine AX.iload dX10_joint_65 4 rfl ?_
          refine AX.i2l dX10_joint_67 ?_
          refine AX.iload dX10_joint_68 5 rfl ?_
          refine AX.i2l dX10_joint_70 ?_
          refine AX.iload_n dX10_joint_71 3 rfl rfl ?_
          obtain ⟨q10, hq10, hz⟩ := obind hz
          refine AX.callSw (As := [.long x7.toInt64, .long x8.toInt64, .int p2]) (rest := []) (w := some (.long q10)) (st' := [.long q10]) dX10_joint_72 mlRX10_188 ylX10_told ysX10_told rfl rfl (Nat.le_of_ble_eq_true rfl) ⟨Nat.le_of_ble_eq_true rfl, Nat.le_of_ble_eq_true rfl⟩ (xX10_told x7.toInt64 x8.toInt64 p2 σ hq10) rfl ?_
          exact AX.lreturn dX10_joint_75 rfl (kz (P := fun z => Q (some (.long z)) σ) hz hk)
        · replace hz := (if_pos c9).symm.trans hz
          refine AX.bipush dX10_joint_57 bp_m3 ?_
          obtain ⟨q11, hq11, hz⟩ := obind hz
          refine AX.callSw (As := [.int (-3)]) (rest := []) (w := some (.long q11)) (st' := [.long q11]) dX10_joint_59 mlRX10_174 ylX10_refusal ysX10_refusal rfl rfl (Nat.le_of_ble_eq_true rfl) ⟨Nat.le_of_ble_eq_true rfl, Nat.le_of_ble_eq_true rfl⟩ (xX10_refusal (-3 : Int32) σ hq11) rfl ?_
          refine AX.goto (tgt := 75) dX10_joint_62 rfl ?_
          exact AX.lreturn dX10_joint_75 rfl (kz (P := fun z => Q (some (.long z)) σ) hz hk)
      · replace hz := (if_pos c6).symm.trans hz
        exact AX.sub (ls' := []) [] rfl (wfX10_joint_j27  hz hk)
theorem xX10_joint {G : ag_G} (p0 : Int32) (p1 : Int32) (p2 : Int32) (σ : St) {z : Int64} (hz : fX10_joint p0 p1 p2 = some z) : AC G yX10_joint mX10_joint 2 58 [.ref (G.2.2.1 0), .int p0, .int p1, .int p2] σ (fun v σ1 => v = some (.long z) ∧ σ1 = σ) := AC.of (plainFor_of_name (by decide)) rfl (Nat.le_of_ble_eq_true rfl) (wfX10_joint p0 p1 p2 σ hz ⟨rfl, rfl⟩)
noncomputable def fX10_comeTo_j121 (l3 : Int32) (l4 : Int32) (l5 : Int32) (l6 : Int32) (l7 : Int32) (t0 : Int32) (σ : St) : Option ((Int32 × Int32 × St) ⊕ (Int32 × St)) :=
  (fX3_become 12 l5 l7 l6 σ).bind fun q1 => some (.inl (t0, l5 + 1, q1))
theorem wfX10_comeTo_j121 {G : ag_G} (l3 : Int32) (l4 : Int32) (l5 : Int32) (l6 : Int32) (l7 : Int32) (t0 : Int32) (σ : St) {z : (Int32 × Int32 × St) ⊕ (Int32 × St)} (hz : fX10_comeTo_j121 l3 l4 l5 l6 l7 t0 σ = some z) {Q : Option Value → St → Prop} (K : ((Int32 × Int32 × St) ⊕ (Int32 × St)) → Prop) (hback : ∀ a : Int32 × Int32 × St, K (.inl a) → AX G mX10_comeTo 2 42 35 [(0, .ref (G.2.2.1 0)), (2, .int a.1), (3, .int l3), (4, .int l4), (5, .int a.2.1)] [] a.2.2 Q) (hk : K z) : AX G mX10_comeTo 2 42 121 [(0, .ref (G.2.2.1 0)), (3, .int l3), (4, .int l4), (5, .int l5), (6, .int l6), (7, .int l7)] [.int t0] σ Q := by
  unfold fX10_comeTo_j121 at hz
  refine AX.istore_n (ls' := [(0, .ref (G.2.2.1 0)), (2, .int t0), (3, .int l3), (4, .int l4), (5, .int l5), (6, .int l6), (7, .int l7)]) dX10_comeTo_121 rfl (Nat.le_of_ble_eq_true rfl) rfl ?_
  refine AX.aload_n dX10_comeTo_122 0 rfl rfl ?_
  refine AX.getR dX10_comeTo_123 flRX10_30 rfl rfl ?_
  refine AX.iload dX10_comeTo_126 4 rfl ?_
  refine AX.iload dX10_comeTo_128 6 rfl ?_
  refine AX.iload dX10_comeTo_130 5 rfl ?_
  obtain ⟨q1, hq1, hz⟩ := obind hz
  refine AX.callVw (r := 12) (As := [.int l5, .int l7, .int l6]) (rest := []) (w := none) (st' := []) dX10_comeTo_132 mlRX10_131 ylX3_become yvX3_become rfl rfl rfl (Nat.le_of_ble_eq_true rfl) ⟨Nat.le_of_ble_eq_true rfl, Nat.le_of_ble_eq_true rfl⟩ (xX3_become 12 l5 l7 l6 σ hq1) rfl ?_
  refine AX.iinc (v := l5 + 1) (ls' := [(0, .ref (G.2.2.1 0)), (2, .int t0), (3, .int l3), (4, .int l4), (5, .int (l5 + 1)), (6, .int l6), (7, .int l7)]) 4 dX10_comeTo_135 rfl (Nat.le_of_ble_eq_true rfl) (congrArg (l5 + ·) ic_1) rfl ?_
  refine AX.goto (tgt := 35) dX10_comeTo_138 rfl ?_
  exact AX.sub (ls' := [(0, .ref (G.2.2.1 0)), (2, .int t0), (3, .int l3), (4, .int l4), (5, .int (l5 + 1))]) [0, 1, 2, 3, 4] rfl (hback (t0, l5 + 1, q1) (kz (P := K) hz hk))
noncomputable def fX10_comeTo_j116 (l3 : Int32) (l4 : Int32) (l5 : Int32) (l6 : Int32) (l7 : Int32) (σ : St) : Option ((Int32 × Int32 × St) ⊕ (Int32 × St)) :=
  fX10_comeTo_j121 l3 l4 l5 l6 l7 1 σ
theorem wfX10_comeTo_j116 {G : ag_G} (l3 : Int32) (l4 : Int32) (l5 : Int32) (l6 : Int32) (l7 : Int32) (σ : St) {z : (Int32 × Int32 × St) ⊕ (Int32 × St)} (hz : fX10_comeTo_j116 l3 l4 l5 l6 l7 σ = some z) {Q : Option Value → St → Prop} (K : ((Int32 × Int32 × St) ⊕ (Int32 × St)) → Prop) (hback : ∀ a : Int32 × Int32 × St, K (.inl a) → AX G mX10_comeTo 2 42 35 [(0, .ref (G.2.2.1 0)), (2, .int a.1), (3, .int l3), (4, .int l4), (5, .int a.2.1)] [] a.2.2 Q) (hk : K z) : AX G mX10_comeTo 2 42 116 [(0, .ref (G.2.2.1 0)), (3, .int l3), (4, .int l4), (5, .int l5), (6, .int l6), (7, .int l7)] [] σ Q := by
  unfold fX10_comeTo_j116 at hz
  refine AX.iconst dX10_comeTo_116 ic_1 ?_
  refine AX.goto (tgt := 121) dX10_comeTo_117 rfl ?_
  exact AX.sub (ls' := [(0, .ref (G.2.2.1 0)), (3, .int l3), (4, .int l4), (5, .int l5), (6, .int l6), (7, .int l7)]) [0, 1, 2, 3, 4, 5] rfl (wfX10_comeTo_j121 l3 l4 l5 l6 l7 1 σ hz K hback hk)
noncomputable def fX10_comeTo_b35 (l3 : Int32) (l4 : Int32) (l2 : Int32) (l5 : Int32) (σ : St) : Option ((Int32 × Int32 × St) ⊕ (Int32 × St)) :=
  if (2 : Int32) < l5 then some (.inr (l2, σ)) else (fX3_doubledOf 9 l5 σ).bind fun q2 => (fX3_missedOf 9 l5 σ).bind fun q3 => (fJ9_max_7cf53 (0 : Int32) (q3 - l3)).bind fun q4 => ltb (q4 + l4) fun x5 => (fJ9_min_7cf53 x5 ((16 : Int32) - q2)).bind fun q6 => if l2 = (0 : Int32) then (fX3_missedOf 12 l5 σ).bind fun q8 => if q6 = q8 then (fX3_doubledOf 12 l5 σ).bind fun q10 => if q2 = q10 then fX10_comeTo_j121 l3 l4 l5 q2 q6 0 σ else fX10_comeTo_j116 l3 l4 l5 q2 q6 σ else fX10_comeTo_j116 l3 l4 l5 q2 q6 σ else fX10_comeTo_j116 l3 l4 l5 q2 q6 σ
theorem wfX10_comeTo_b35 {G : ag_G} (l3 : Int32) (l4 : Int32) (l2 : Int32) (l5 : Int32) (σ : St) {z : (Int32 × Int32 × St) ⊕ (Int32 × St)} (hz : fX10_comeTo_b35 l3 l4 l2 l5 σ = some z) {Q : Option Value → St → Prop} (K : ((Int32 × Int32 × St) ⊕ (Int32 × St)) → Prop) (hback : ∀ a : Int32 × Int32 × St, K (.inl a) → AX G mX10_comeTo 2 42 35 [(0, .ref (G.2.2.1 0)), (2, .int a.1), (3, .int l3), (4, .int l4), (5, .int a.2.1)] [] a.2.2 Q) (hexit0 : ∀ a : Int32 × St, K (.inr a) → AX G mX10_comeTo 2 42 141 [(2, .int a.1)] [] a.2 Q) (hk : K z) : AX G mX10_comeTo 2 42 35 [(0, .ref (G.2.2.1 0)), (2, .int l2), (3, .int l3), (4, .int l4), (5, .int l5)] [] σ Q := by
  unfold fX10_comeTo_b35 at hz
  refine AX.iload dX10_comeTo_35 4 rfl ?_
  refine AX.iconst dX10_comeTo_37 ic_2 ?_
  refine AX.icmp_gt (tgt := 141) dX10_comeTo_38 rfl (fun c1 => ?_) (fun c1 => ?_)
  · replace hz := (if_pos c1).symm.trans hz
    exact AX.sub (ls' := [(2, .int l2)]) [1] rfl (hexit0 (l2, σ) (kz (P := K) hz hk))
  · replace hz := (if_neg c1).symm.trans hz
    refine AX.aload_n dX10_comeTo_41 0 rfl rfl ?_
    refine AX.getR dX10_comeTo_42 flRX10_26 rfl rfl ?_
    refine AX.iload dX10_comeTo_45 4 rfl ?_
    obtain ⟨q2, hq2, hz⟩ := obind hz
    refine AX.callVw (r := 9) (As := [.int l5]) (rest := []) (w := some (.int q2)) (st' := [.int q2]) dX10_comeTo_47 mlRX10_128 ylX3_doubledOf yvX3_doubledOf rfl rfl rfl (Nat.le_of_ble_eq_true rfl) ⟨Nat.le_of_ble_eq_true rfl, Nat.le_of_ble_eq_true rfl⟩ (xX3_doubledOf 9 l5 σ hq2) rfl ?_
    refine AX.istore (ls' := [(0, .ref (G.2.2.1 0)), (2, .int l2), (3, .int l3), (4, .int l4), (5, .int l5), (6, .int q2)]) dX10_comeTo_50 (Nat.le_of_ble_eq_true rfl) rfl ?_
    refine AX.iconst dX10_comeTo_52 ic_0 ?_
    refine AX.aload_n dX10_comeTo_53 0 rfl rfl ?_
    refine AX.getR dX10_comeTo_54 flRX10_26 rfl rfl ?_
    refine AX.iload dX10_comeTo_57 4 rfl ?_
    obtain ⟨q3, hq3, hz⟩ := obind hz
    refine AX.callVw (r := 9) (As := [.int l5]) (rest := [.int 0]) (w := some (.int q3)) (st' := [.int q3, .int 0]) dX10_comeTo_59 mlRX10_125 ylX3_missedOf yvX3_missedOf rfl rfl rfl (Nat.le_of_ble_eq_true rfl) ⟨Nat.le_of_ble_eq_true rfl, Nat.le_of_ble_eq_true rfl⟩ (xX3_missedOf 9 l5 σ hq3) rfl ?_
    refine AX.iload_n dX10_comeTo_62 2 rfl rfl ?_
    refine AX.isub dX10_comeTo_63 ?_
    obtain ⟨q4, hq4, hz⟩ := obind hz
    refine AX.callSw (As := [.int 0, .int (q3 - l3)]) (rest := []) (w := some (.int q4)) (st' := [.int q4]) dX10_comeTo_64 mlRX10_377 ylJ9_max_7cf53 ysJ9_max_7cf53 rfl rfl (Nat.le_of_ble_eq_true rfl) ⟨Nat.le_of_ble_eq_true rfl, Nat.le_of_ble_eq_true rfl⟩ (xJ9_max_7cf53 (0 : Int32) (q3 - l3) σ hq4) rfl ?_
    refine AX.iload dX10_comeTo_67 3 rfl ?_
    refine AX.iadd dX10_comeTo_69 ?_
    obtain ⟨x5, hx5, hz⟩ := ltb_e hz
    refine AX.topI hx5 ?_
    refine AX.istore (ls' := [(0, .ref (G.2.2.1 0)), (2, .int l2), (3, .int l3), (4, .int l4), (5, .int l5), (6, .int q2), (7, .int x5)]) dX10_comeTo_70 (Nat.le_of_ble_eq_true rfl) rfl ?_
    refine AX.iload dX10_comeTo_72 6 rfl ?_
    refine AX.bipush dX10_comeTo_74 bp_16 ?_
    refine AX.iload dX10_comeTo_76 5 rfl ?_
    refine AX.isub dX10_comeTo_78 ?_
    obtain ⟨q6, hq6, hz⟩ := obind hz
    refine AX.callSw (As := [.int x5, .int ((16 : Int32) - q2)]) (rest := []) (w := some (.int q6)) (st' := [.int q6]) dX10_comeTo_79 mlRX10_222 ylJ9_min_7cf53 ysJ9_min_7cf53 rfl rfl (Nat.le_of_ble_eq_true rfl) ⟨Nat.le_of_ble_eq_true rfl, Nat.le_of_ble_eq_true rfl⟩ (xJ9_min_7cf53 x5 ((16 : Int32) - q2) σ hq6) rfl ?_
    refine AX.istore (ls' := [(0, .ref (G.2.2.1 0)), (2, .int l2), (3, .int l3), (4, .int l4), (5, .int l5), (6, .int q2), (7, .int q6)]) dX10_comeTo_82 (Nat.le_of_ble_eq_true rfl) rfl ?_
    refine AX.iload_n dX10_comeTo_84 1 rfl rfl ?_
    refine AX.if_ne (tgt := 116) dX10_comeTo_85 rfl (fun c7 => ?_) (fun c7 => ?_)
    · replace hz := (if_neg c7).symm.trans hz
      exact AX.sub (ls' := [(0, .ref (G.2.2.1 0)), (3, .int l3), (4, .int l4), (5, .int l5), (6, .int q2), (7, .int q6)]) [0, 2, 3, 4, 5, 6] rfl (wfX10_comeTo_j116 l3 l4 l5 q2 q6 σ hz K hback hk)
    · replace hz := (if_pos c7).symm.trans hz
      refine AX.iload dX10_comeTo_88 6 rfl ?_
      refine AX.aload_n dX10_comeTo_90 0 rfl rfl ?_
      refine AX.getR dX10_comeTo_91 flRX10_30 rfl rfl ?_
      refine AX.iload dX10_comeTo_94 4 rfl ?_
      obtain ⟨q8, hq8, hz⟩ := obind hz
      refine AX.callVw (r := 12) (As := [.int l5]) (rest := [.int q6]) (w := some (.int q8)) (st' := [.int q8, .int q6]) dX10_comeTo_96 mlRX10_125 ylX3_missedOf yvX3_missedOf rfl rfl rfl (Nat.le_of_ble_eq_true rfl) ⟨Nat.le_of_ble_eq_true rfl, Nat.le_of_ble_eq_true rfl⟩ (xX3_missedOf 12 l5 σ hq8) rfl ?_
      refine AX.icmp_ne (tgt := 116) dX10_comeTo_99 rfl (fun c9 => ?_) (fun c9 => ?_)
      · replace hz := (if_neg c9).symm.trans hz
        exact AX.sub (ls' := [(0, .ref (G.2.2.1 0)), (3, .int l3), (4, .int l4), (5, .int l5), (6, .int q2), (7, .int q6)]) [0, 2, 3, 4, 5, 6] rfl (wfX10_comeTo_j116 l3 l4 l5 q2 q6 σ hz K hback hk)
      · replace hz := (if_pos c9).symm.trans hz
        refine AX.iload dX10_comeTo_102 5 rfl ?_
        refine AX.aload_n dX10_comeTo_104 0 rfl rfl ?_
        refine AX.getR dX10_comeTo_105 flRX10_30 rfl rfl ?_
        refine AX.iload dX10_comeTo_108 4 rfl ?_
        obtain ⟨q10, hq10, hz⟩ := obind hz
        refine AX.callVw (r := 12) (As := [.int l5]) (rest := [.int q2]) (w := some (.int q10)) (st' := [.int q10, .int q2]) dX10_comeTo_110 mlRX10_128 ylX3_doubledOf yvX3_doubledOf rfl rfl rfl (Nat.le_of_ble_eq_true rfl) ⟨Nat.le_of_ble_eq_true rfl, Nat.le_of_ble_eq_true rfl⟩ (xX3_doubledOf 12 l5 σ hq10) rfl ?_
        refine AX.icmp_eq (tgt := 120) dX10_comeTo_113 rfl (fun c11 => ?_) (fun c11 => ?_)
        · replace hz := (if_pos c11).symm.trans hz
          refine AX.iconst dX10_comeTo_120 ic_0 ?_
          exact AX.sub (ls' := [(0, .ref (G.2.2.1 0)), (3, .int l3), (4, .int l4), (5, .int l5), (6, .int q2), (7, .int q6)]) [0, 2, 3, 4, 5, 6] rfl (wfX10_comeTo_j121 l3 l4 l5 q2 q6 0 σ hz K hback hk)
        · replace hz := (if_neg c11).symm.trans hz
          exact AX.sub (ls' := [(0, .ref (G.2.2.1 0)), (3, .int l3), (4, .int l4), (5, .int l5), (6, .int q2), (7, .int q6)]) [0, 2, 3, 4, 5, 6] rfl (wfX10_comeTo_j116 l3 l4 l5 q2 q6 σ hz K hback hk)
noncomputable def fX10_comeTo (p0 : Int32) (σ : St) : Option (Int32 × St) :=
  (fX6_valueOf (7 : Int32) σ).bind fun q1 => ltb ((p0 * q1) / (4 : Int32)) fun x2 => (fX6_valueOf (8 : Int32) σ).bind fun q3 => ltb ((p0 * q3) / (8 : Int32)) fun x4 => (lpc (fun s => fX10_comeTo_b35 x2 x4 s.1 s.2.1 s.2.2) (0, 0, σ)).bind fun r5 => if zb r5.1 = true then some (r5.1, r5.2) else none
theorem wfX10_comeTo {G : ag_G} (p0 : Int32) (σ : St) {z : Int32 × St} (hz : fX10_comeTo p0 σ = some z) {Q : Option Value → St → Prop} (hk : Q (some (.int z.1)) z.2) : AX G mX10_comeTo 2 42 0 [(0, .ref (G.2.2.1 0)), (1, .int p0)] [] σ Q := by
  unfold fX10_comeTo at hz
  refine AX.iconst dX10_comeTo_0 ic_0 ?_
  refine AX.istore_n (ls' := [(0, .ref (G.2.2.1 0)), (1, .int p0), (2, .int 0)]) dX10_comeTo_1 rfl (Nat.le_of_ble_eq_true rfl) rfl ?_
  refine AX.iload_n dX10_comeTo_2 1 rfl rfl ?_
  refine AX.aload_n dX10_comeTo_3 0 rfl rfl ?_
  refine AX.getR dX10_comeTo_4 flRX10_19 rfl rfl ?_
  refine AX.bipush dX10_comeTo_7 bp_7 ?_
  obtain ⟨q1, hq1, hz⟩ := obind hz
  refine AX.callVw (r := 7) (As := [.int 7]) (rest := [.int p0]) (w := some (.int q1)) (st' := [.int q1, .int p0]) dX10_comeTo_9 mlRX10_138 ylX6_valueOf yvX6_valueOf rfl rfl rfl (Nat.le_of_ble_eq_true rfl) ⟨Nat.le_of_ble_eq_true rfl, Nat.le_of_ble_eq_true rfl⟩ (xX6_valueOf (7 : Int32) σ hq1) rfl ?_
  refine AX.imul dX10_comeTo_12 ?_
  refine AX.iconst dX10_comeTo_13 ic_4 ?_
  refine AX.idiv dX10_comeTo_14 (by decide) ?_
  obtain ⟨x2, hx2, hz⟩ := ltb_e hz
  refine AX.topI hx2 ?_
  refine AX.istore_n (ls' := [(0, .ref (G.2.2.1 0)), (1, .int p0), (2, .int 0), (3, .int x2)]) dX10_comeTo_15 rfl (Nat.le_of_ble_eq_true rfl) rfl ?_
  refine AX.iload_n dX10_comeTo_16 1 rfl rfl ?_
  refine AX.aload_n dX10_comeTo_17 0 rfl rfl ?_
  refine AX.getR dX10_comeTo_18 flRX10_19 rfl rfl ?_
  refine AX.bipush dX10_comeTo_21 bp_8 ?_
  obtain ⟨q3, hq3, hz⟩ := obind hz
  refine AX.callVw (r := 7) (As := [.int 8]) (rest := [.int p0]) (w := some (.int q3)) (st' := [.int q3, .int p0]) dX10_comeTo_23 mlRX10_138 ylX6_valueOf yvX6_valueOf rfl rfl rfl (Nat.le_of_ble_eq_true rfl) ⟨Nat.le_of_ble_eq_true rfl, Nat.le_of_ble_eq_true rfl⟩ (xX6_valueOf (8 : Int32) σ hq3) rfl ?_
  refine AX.imul dX10_comeTo_26 ?_
  refine AX.bipush dX10_comeTo_27 bp_8 ?_
  refine AX.idiv dX10_comeTo_29 (by decide) ?_
  obtain ⟨x4, hx4, hz⟩ := ltb_e hz
  refine AX.topI hx4 ?_
  refine AX.istore (ls' := [(0, .ref (G.2.2.1 0)), (1, .int p0), (2, .int 0), (3, .int x2), (4, .int x4)]) dX10_comeTo_30 (Nat.le_of_ble_eq_true rfl) rfl ?_
  refine AX.iconst dX10_comeTo_32 ic_0 ?_
  refine AX.istore (ls' := [(0, .ref (G.2.2.1 0)), (1, .int p0), (2, .int 0), (3, .int x2), (4, .int x4), (5, .int 0)]) dX10_comeTo_33 (Nat.le_of_ble_eq_true rfl) rfl ?_
  obtain ⟨r5, hr5, hz⟩ := obind hz
  refine AX.sub (ls' := [(0, .ref (G.2.2.1 0)), (2, .int 0), (3, .int x2), (4, .int x4), (5, .int 0)]) [0, 2, 3, 4, 5] rfl ?_
  refine lpc_ind (s := (0, 0, σ)) (r := r5) (fun s => AX G mX10_comeTo 2 42 35 [(0, .ref (G.2.2.1 0)), (2, .int s.1), (3, .int x2), (4, .int x4), (5, .int s.2.1)] [] s.2.2 Q) (fun a : Int32 × St => AX G mX10_comeTo 2 42 141 [(2, .int a.1)] [] a.2 Q) hr5 (fun s z hb hK => wfX10_comeTo_b35 x2 x4 s.1 s.2.1 s.2.2 hb (Sum.elim (fun s => AX G mX10_comeTo 2 42 35 [(0, .ref (G.2.2.1 0)), (2, .int s.1), (3, .int x2), (4, .int x4), (5, .int s.2.1)] [] s.2.2 Q) (fun a : Int32 × St => AX G mX10_comeTo 2 42 141 [(2, .int a.1)] [] a.2 Q)) (fun _ h9 => h9) (fun _ h9 => h9) hK) ?_
  refine AX.iload_n dX10_comeTo_141 0 rfl rfl ?_
  obtain ⟨b6, hz⟩ := ite_n hz
  exact AX.ireturn dX10_comeTo_142 rfl (zb_nar b6) (kz (P := fun z => Q (some (.int z.1)) z.2) hz hk)
theorem xX10_comeTo {G : ag_G} (p0 : Int32) (σ : St) {z : Int32 × St} (hz : fX10_comeTo p0 σ = some z) : AC G yX10_comeTo mX10_comeTo 2 42 [.ref (G.2.2.1 0), .int p0] σ (fun v σ1 => v = some (.int z.1) ∧ σ1 = z.2) := AC.of (plainFor_of_name (by decide)) rfl (Nat.le_of_ble_eq_true rfl) (wfX10_comeTo p0 σ hz ⟨rfl, rfl⟩)
noncomputable def fX10_trueLater  (σ : St) : Option (Int64 × St) :=
  (fX8_walk 12 ((σ.1 1 6) - (1 : Int32)) (0 : Int32) (0 : Int32) σ).bind fun q1 => (fX8_chanceOf (0 : Int32) q1).bind fun q2 => some (q2, q1)
theorem wfX10_trueLater {G : ag_G}  (σ : St) {z : Int64 × St} (hz : fX10_trueLater  σ = some z) {Q : Option Value → St → Prop} (hk : Q (some (.long z.1)) z.2) : AX G mX10_trueLater 3 78 0 [(0, .ref (G.2.2.1 0))] [] σ Q := by
  unfold fX10_trueLater at hz
  refine AX.aload_n dX10_trueLater_0 0 rfl rfl ?_
  refine AX.getR dX10_trueLater_1 flRX10_54 rfl rfl ?_
  refine AX.aload_n dX10_trueLater_4 0 rfl rfl ?_
  refine AX.getR dX10_trueLater_5 flRX10_30 rfl rfl ?_
  refine AX.aload_n dX10_trueLater_8 0 rfl rfl ?_
  refine AX.getR dX10_trueLater_9 flRX10_12 rfl rfl ?_
  refine AX.getIE (v := σ.1 1 6) dX10_trueLater_12 flRX10_192 rfl rfl rfl ?_
  refine AX.iconst dX10_trueLater_15 ic_1 ?_
  refine AX.isub dX10_trueLater_16 ?_
  refine AX.iconst dX10_trueLater_17 ic_0 ?_
  refine AX.iconst dX10_trueLater_18 ic_0 ?_
  obtain ⟨q1, hq1, hz⟩ := obind hz
  refine AX.callVw (r := 24) (As := [.ref (G.2.2.1 12), .int ((σ.1 1 6) - (1 : Int32)), .int 0, .int 0]) (rest := []) (w := none) (st' := []) dX10_trueLater_19 mlRX10_202 ylX8_walk yvX8_walk rfl rfl rfl (Nat.le_of_ble_eq_true rfl) ⟨Nat.le_of_ble_eq_true rfl, Nat.le_of_ble_eq_true rfl⟩ (xX8_walk 12 ((σ.1 1 6) - (1 : Int32)) (0 : Int32) (0 : Int32) σ hq1) rfl ?_
  refine AX.aload_n dX10_trueLater_22 0 rfl rfl ?_
  refine AX.getR dX10_trueLater_23 flRX10_54 rfl rfl ?_
  refine AX.iconst dX10_trueLater_26 ic_0 ?_
  obtain ⟨q2, hq2, hz⟩ := obind hz
  refine AX.callVw (r := 24) (As := [.int 0]) (rest := []) (w := some (.long q2)) (st' := [.long q2]) dX10_trueLater_27 mlRX10_206 ylX8_chanceOf yvX8_chanceOf rfl rfl rfl (Nat.le_of_ble_eq_true rfl) ⟨Nat.le_of_ble_eq_true rfl, Nat.le_of_ble_eq_true rfl⟩ (xX8_chanceOf (0 : Int32) q1 hq2) rfl ?_
  exact AX.lreturn dX10_trueLater_30 rfl (kz (P := fun z => Q (some (.long z.1)) z.2) hz hk)
theorem xX10_trueLater {G : ag_G}  (σ : St) {z : Int64 × St} (hz : fX10_trueLater  σ = some z) : AC G yX10_trueLater mX10_trueLater 3 78 [.ref (G.2.2.1 0)] σ (fun v σ1 => v = some (.long z.1) ∧ σ1 = z.2) := AC.of (plainFor_of_name (by decide)) rfl (Nat.le_of_ble_eq_true rfl) (wfX10_trueLater  σ hz ⟨rfl, rfl⟩)
noncomputable def fX10_evening_j17  (σ : St) : Option (Int64 × St) :=
  (fX10_refusal (-2 : Int32)).bind fun q1 => some (q1, σ)
theorem wfX10_evening_j17 {G : ag_G}  (σ : St) {z : Int64 × St} (hz : fX10_evening_j17  σ = some z) {Q : Option Value → St → Prop} (hk : Q (some (.long z.1)) z.2) : AX G mX10_evening 4 98 17 [] [] σ Q := by
  unfold fX10_evening_j17 at hz
  refine AX.bipush dX10_evening_17 bp_m2 ?_
  obtain ⟨q1, hq1, hz⟩ := obind hz
  refine AX.callSw (As := [.int (-2)]) (rest := []) (w := some (.long q1)) (st' := [.long q1]) dX10_evening_19 mlRX10_174 ylX10_refusal ysX10_refusal rfl rfl (Nat.le_of_ble_eq_true rfl) ⟨Nat.le_of_ble_eq_true rfl, Nat.le_of_ble_eq_true rfl⟩ (xX10_refusal (-2 : Int32) σ hq1) rfl ?_
  exact AX.lreturn dX10_evening_22 rfl (kz (P := fun z => Q (some (.long z.1)) z.2) hz hk)
noncomputable def fX10_evening (p0 : Int32) (p1 : Int32) (σ : St) : Option (Int64 × St) :=
  (fX10_within p0 (0 : Int32) (59 : Int32)).bind fun q1 => if q1 = (0 : Int32) then fX10_evening_j17  σ else (fX10_isPart p1).bind fun q3 => if q3 = (0 : Int32) then fX10_evening_j17  σ else if (σ.1 1 6) = (0 : Int32) then (fX10_refusal (-3 : Int32)).bind fun q9 => some (q9, σ) else (fX10_comeTo p0 σ).bind fun q6 => (fX10_trueLater  q6.2).bind fun q7 => (fX10_told q7.1 (4503599627370496 : Int64) p1).bind fun q8 => some (q8, q7.2)
theorem wfX10_evening {G : ag_G} (p0 : Int32) (p1 : Int32) (σ : St) {z : Int64 × St} (hz : fX10_evening p0 p1 σ = some z) {Q : Option Value → St → Prop} (hk : Q (some (.long z.1)) z.2) : AX G mX10_evening 4 98 0 [(0, .ref (G.2.2.1 0)), (1, .int p0), (2, .int p1)] [] σ Q := by
  unfold fX10_evening at hz
  refine AX.iload_n dX10_evening_0 1 rfl rfl ?_
  refine AX.iconst dX10_evening_1 ic_0 ?_
  refine AX.bipush dX10_evening_2 bp_59 ?_
  obtain ⟨q1, hq1, hz⟩ := obind hz
  refine AX.callSw (As := [.int p0, .int 0, .int 59]) (rest := []) (w := some (.int q1)) (st' := [.int q1]) dX10_evening_4 mlRX10_94 ylX10_within ysX10_within rfl rfl (Nat.le_of_ble_eq_true rfl) ⟨Nat.le_of_ble_eq_true rfl, Nat.le_of_ble_eq_true rfl⟩ (xX10_within p0 (0 : Int32) (59 : Int32) σ hq1) rfl ?_
  refine AX.if_eq (tgt := 17) dX10_evening_7 rfl (fun c2 => ?_) (fun c2 => ?_)
  · replace hz := (if_pos c2).symm.trans hz
    exact AX.sub (ls' := []) [] rfl (wfX10_evening_j17  σ hz hk)
  · replace hz := (if_neg c2).symm.trans hz
    refine AX.iload_n dX10_evening_10 2 rfl rfl ?_
    obtain ⟨q3, hq3, hz⟩ := obind hz
    refine AX.callSw (As := [.int p1]) (rest := []) (w := some (.int q3)) (st' := [.int q3]) dX10_evening_11 mlRX10_171 ylX10_isPart ysX10_isPart rfl rfl (Nat.le_of_ble_eq_true rfl) ⟨Nat.le_of_ble_eq_true rfl, Nat.le_of_ble_eq_true rfl⟩ (xX10_isPart p1 σ hq3) rfl ?_
    refine AX.if_ne (tgt := 23) dX10_evening_14 rfl (fun c4 => ?_) (fun c4 => ?_)
    · replace hz := (if_neg c4).symm.trans hz
      refine AX.aload_n dX10_evening_23 0 rfl rfl ?_
      refine AX.getR dX10_evening_24 flRX10_12 rfl rfl ?_
      refine AX.getIE (v := σ.1 1 6) dX10_evening_27 flRX10_192 rfl rfl rfl ?_
      refine AX.if_ne (tgt := 39) dX10_evening_30 rfl (fun c5 => ?_) (fun c5 => ?_)
      · replace hz := (if_neg c5).symm.trans hz
        refine AX.aload_n dX10_evening_39 0 rfl rfl ?_
        refine AX.iload_n dX10_evening_40 1 rfl rfl ?_
        obtain ⟨q6, hq6, hz⟩ := obind hz
        refine AX.callVw (r := 0) (As := [.int p0]) (rest := []) (w := some (.int q6.1)) (st' := [.int q6.1]) dX10_evening_41 mlRX10_235 ylX10_comeTo yvX10_comeTo rfl rfl rfl (Nat.le_of_ble_eq_true rfl) ⟨Nat.le_of_ble_eq_true rfl, Nat.le_of_ble_eq_true rfl⟩ (xX10_comeTo p0 σ hq6) rfl ?_
        refine AX.pop dX10_evening_44 rfl ?_
        refine AX.aload_n dX10_evening_45 0 rfl rfl ?_
        obtain ⟨q7, hq7, hz⟩ := obind hz
        refine AX.callVw (r := 0) (As := []) (rest := []) (w := some (.long q7.1)) (st' := [.long q7.1]) dX10_evening_46 mlRX10_238 ylX10_trueLater yvX10_trueLater rfl rfl rfl (Nat.le_of_ble_eq_true rfl) ⟨Nat.le_of_ble_eq_true rfl, Nat.le_of_ble_eq_true rfl⟩ (xX10_trueLater  q6.2 hq7) rfl ?_
        refine AX.ldc2 dX10_evening_49 kcRX10_209 ?_
        refine AX.iload_n dX10_evening_52 2 rfl rfl ?_
        obtain ⟨q8, hq8, hz⟩ := obind hz
        refine AX.callSw (As := [.long q7.1, .long 4503599627370496, .int p1]) (rest := []) (w := some (.long q8)) (st' := [.long q8]) dX10_evening_53 mlRX10_188 ylX10_told ysX10_told rfl rfl (Nat.le_of_ble_eq_true rfl) ⟨Nat.le_of_ble_eq_true rfl, Nat.le_of_ble_eq_true rfl⟩ (xX10_told q7.1 (4503599627370496 : Int64) p1 q7.2 hq8) rfl ?_
        exact AX.lreturn dX10_evening_56 rfl (kz (P := fun z => Q (some (.long z.1)) z.2) hz hk)
      · replace hz := (if_pos c5).symm.trans hz
        refine AX.bipush dX10_evening_33 bp_m3 ?_
        obtain ⟨q9, hq9, hz⟩ := obind hz
        refine AX.callSw (As := [.int (-3)]) (rest := []) (w := some (.long q9)) (st' := [.long q9]) dX10_evening_35 mlRX10_174 ylX10_refusal ysX10_refusal rfl rfl (Nat.le_of_ble_eq_true rfl) ⟨Nat.le_of_ble_eq_true rfl, Nat.le_of_ble_eq_true rfl⟩ (xX10_refusal (-3 : Int32) σ hq9) rfl ?_
        exact AX.lreturn dX10_evening_38 rfl (kz (P := fun z => Q (some (.long z.1)) z.2) hz hk)
    · replace hz := (if_pos c4).symm.trans hz
      exact AX.sub (ls' := []) [] rfl (wfX10_evening_j17  σ hz hk)
theorem xX10_evening {G : ag_G} (p0 : Int32) (p1 : Int32) (σ : St) {z : Int64 × St} (hz : fX10_evening p0 p1 σ = some z) : AC G yX10_evening mX10_evening 4 98 [.ref (G.2.2.1 0), .int p0, .int p1] σ (fun v σ1 => v = some (.long z.1) ∧ σ1 = z.2) := AC.of (plainFor_of_name (by decide)) rfl (Nat.le_of_ble_eq_true rfl) (wfX10_evening p0 p1 σ hz ⟨rfl, rfl⟩)
noncomputable def fX10_prime_j106 (l1 : Int32) (l2 : Int32) (l3 : Int32) (l4 : Int64) (l6 : Int64) (l8 : Int32) (σ : St) : Option ((Int32 × Int32 × Int64 × Int64 × Int32 × St) ⊕ (Int32 × Int32 × St)) :=
  some (.inl (l2, l3, l4, l6, l8 + 1, σ))
theorem wfX10_prime_j106 {G : ag_G} (l1 : Int32) (l2 : Int32) (l3 : Int32) (l4 : Int64) (l6 : Int64) (l8 : Int32) (σ : St) {z : (Int32 × Int32 × Int64 × Int64 × Int32 × St) ⊕ (Int32 × Int32 × St)} (hz : fX10_prime_j106 l1 l2 l3 l4 l6 l8 σ = some z) {Q : Option Value → St → Prop} (K : ((Int32 × Int32 × Int64 × Int64 × Int32 × St) ⊕ (Int32 × Int32 × St)) → Prop) (hback : ∀ a : Int32 × Int32 × Int64 × Int64 × Int32 × St, K (.inl a) → AX G mX10_prime 4 98 40 [(0, .ref (G.2.2.1 0)), (1, .int l1), (2, .int a.1), (3, .int a.2.1), (4, .long a.2.2.1), (6, .long a.2.2.2.1), (8, .int a.2.2.2.2.1)] [] a.2.2.2.2.2 Q) (hk : K z) : AX G mX10_prime 4 98 106 [(0, .ref (G.2.2.1 0)), (1, .int l1), (2, .int l2), (3, .int l3), (4, .long l4), (6, .long l6), (8, .int l8)] [] σ Q := by
  unfold fX10_prime_j106 at hz
  refine AX.iinc (v := l8 + 1) (ls' := [(0, .ref (G.2.2.1 0)), (1, .int l1), (2, .int l2), (3, .int l3), (4, .long l4), (6, .long l6), (8, .int (l8 + 1))]) 6 dX10_prime_106 rfl (Nat.le_of_ble_eq_true rfl) (congrArg (l8 + ·) ic_1) rfl ?_
  refine AX.goto (tgt := 40) dX10_prime_109 rfl ?_
  exact AX.sub (ls' := [(0, .ref (G.2.2.1 0)), (1, .int l1), (2, .int l2), (3, .int l3), (4, .long l4), (6, .long l6), (8, .int (l8 + 1))]) [0, 1, 2, 3, 4, 5, 6] rfl (hback (l2, l3, l4, l6, l8 + 1, σ) (kz (P := K) hz hk))
noncomputable def fX10_prime_j67 (l1 : Int32) (l2 : Int32) (l3 : Int32) (l4 : Int64) (l6 : Int64) (l8 : Int32) (σ : St) : Option ((Int32 × Int32 × Int64 × Int64 × Int32 × St) ⊕ (Int32 × Int32 × St)) :=
  if l6 ≤ l4 then if l6 = l4 then if (l2 + l3) = l8 then fX10_prime_j106 l1 l2 (l3 + 1) l4 l6 l8 σ else fX10_prime_j106 l1 l2 l3 l4 l6 l8 σ else fX10_prime_j106 l1 l2 l3 l4 l6 l8 σ else fX10_prime_j106 l1 l8 1 l6 l6 l8 σ
theorem wfX10_prime_j67 {G : ag_G} (l1 : Int32) (l2 : Int32) (l3 : Int32) (l4 : Int64) (l6 : Int64) (l8 : Int32) (σ : St) {z : (Int32 × Int32 × Int64 × Int64 × Int32 × St) ⊕ (Int32 × Int32 × St)} (hz : fX10_prime_j67 l1 l2 l3 l4 l6 l8 σ = some z) {Q : Option Value → St → Prop} (K : ((Int32 × Int32 × Int64 × Int64 × Int32 × St) ⊕ (Int32 × Int32 × St)) → Prop) (hback : ∀ a : Int32 × Int32 × Int64 × Int64 × Int32 × St, K (.inl a) → AX G mX10_prime 4 98 40 [(0, .ref (G.2.2.1 0)), (1, .int l1), (2, .int a.1), (3, .int a.2.1), (4, .long a.2.2.1), (6, .long a.2.2.2.1), (8, .int a.2.2.2.2.1)] [] a.2.2.2.2.2 Q) (hk : K z) : AX G mX10_prime 4 98 67 [(0, .ref (G.2.2.1 0)), (1, .int l1), (2, .int l2), (3, .int l3), (4, .long l4), (6, .long l6), (8, .int l8)] [] σ Q := by
  unfold fX10_prime_j67 at hz
  refine AX.lload dX10_prime_67 5 rfl ?_
  refine AX.lload dX10_prime_69 4 rfl ?_
  refine AX.lcmp_le (tgt := 87) dX10_prime_71 dX10_prime_72 rfl (fun c1 => ?_) (fun c1 => ?_)
  · replace hz := (if_pos c1).symm.trans hz
    refine AX.lload dX10_prime_87 5 rfl ?_
    refine AX.lload dX10_prime_89 4 rfl ?_
    refine AX.lcmp_ne (tgt := 106) dX10_prime_91 dX10_prime_92 rfl (fun c2 => ?_) (fun c2 => ?_)
    · replace hz := (if_neg c2).symm.trans hz
      exact AX.sub (ls' := [(0, .ref (G.2.2.1 0)), (1, .int l1), (2, .int l2), (3, .int l3), (4, .long l4), (6, .long l6), (8, .int l8)]) [0, 1, 2, 3, 4, 5, 6] rfl (wfX10_prime_j106 l1 l2 l3 l4 l6 l8 σ hz K hback hk)
    · replace hz := (if_pos c2).symm.trans hz
      refine AX.iload_n dX10_prime_95 2 rfl rfl ?_
      refine AX.iload_n dX10_prime_96 3 rfl rfl ?_
      refine AX.iadd dX10_prime_97 ?_
      refine AX.iload dX10_prime_98 6 rfl ?_
      refine AX.icmp_ne (tgt := 106) dX10_prime_100 rfl (fun c3 => ?_) (fun c3 => ?_)
      · replace hz := (if_neg c3).symm.trans hz
        exact AX.sub (ls' := [(0, .ref (G.2.2.1 0)), (1, .int l1), (2, .int l2), (3, .int l3), (4, .long l4), (6, .long l6), (8, .int l8)]) [0, 1, 2, 3, 4, 5, 6] rfl (wfX10_prime_j106 l1 l2 l3 l4 l6 l8 σ hz K hback hk)
      · replace hz := (if_pos c3).symm.trans hz
        refine AX.iinc (v := l3 + 1) (ls' := [(0, .ref (G.2.2.1 0)), (1, .int l1), (2, .int l2), (3, .int (l3 + 1)), (4, .long l4), (6, .long l6), (8, .int l8)]) 3 dX10_prime_103 rfl (Nat.le_of_ble_eq_true rfl) (congrArg (l3 + ·) ic_1) rfl ?_
        exact AX.sub (ls' := [(0, .ref (G.2.2.1 0)), (1, .int l1), (2, .int l2), (3, .int (l3 + 1)), (4, .long l4), (6, .long l6), (8, .int l8)]) [0, 1, 2, 3, 4, 5, 6] rfl (wfX10_prime_j106 l1 l2 (l3 + 1) l4 l6 l8 σ hz K hback hk)
  · replace hz := (if_neg c1).symm.trans hz
    refine AX.lload dX10_prime_75 5 rfl ?_
    refine AX.lstore (ls' := [(0, .ref (G.2.2.1 0)), (1, .int l1), (2, .int l2), (3, .int l3), (4, .long l6), (6, .long l6), (8, .int l8)]) dX10_prime_77 (Nat.le_of_ble_eq_true rfl) rfl ?_
    refine AX.iload dX10_prime_79 6 rfl ?_
    refine AX.istore_n (ls' := [(0, .ref (G.2.2.1 0)), (1, .int l1), (2, .int l8), (3, .int l3), (4, .long l6), (6, .long l6), (8, .int l8)]) dX10_prime_81 rfl (Nat.le_of_ble_eq_true rfl) rfl ?_
    refine AX.iconst dX10_prime_82 ic_1 ?_
    refine AX.istore_n (ls' := [(0, .ref (G.2.2.1 0)), (1, .int l1), (2, .int l8), (3, .int 1), (4, .long l6), (6, .long l6), (8, .int l8)]) dX10_prime_83 rfl (Nat.le_of_ble_eq_true rfl) rfl ?_
    refine AX.goto (tgt := 106) dX10_prime_84 rfl ?_
    exact AX.sub (ls' := [(0, .ref (G.2.2.1 0)), (1, .int l1), (2, .int l8), (3, .int 1), (4, .long l6), (6, .long l6), (8, .int l8)]) [0, 1, 2, 3, 4, 5, 6] rfl (wfX10_prime_j106 l1 l8 1 l6 l6 l8 σ hz K hback hk)
noncomputable def fX10_prime_j61 (l1 : Int32) (l2 : Int32) (l3 : Int32) (l4 : Int64) (l8 : Int32) (σ : St) : Option ((Int32 × Int32 × Int64 × Int64 × Int32 × St) ⊕ (Int32 × Int32 × St)) :=
  (fX10_trueLater  σ).bind fun q1 => fX10_prime_j67 l1 l2 l3 l4 q1.1 l8 q1.2
theorem wfX10_prime_j61 {G : ag_G} (l1 : Int32) (l2 : Int32) (l3 : Int32) (l4 : Int64) (l8 : Int32) (σ : St) {z : (Int32 × Int32 × Int64 × Int64 × Int32 × St) ⊕ (Int32 × Int32 × St)} (hz : fX10_prime_j61 l1 l2 l3 l4 l8 σ = some z) {Q : Option Value → St → Prop} (K : ((Int32 × Int32 × Int64 × Int64 × Int32 × St) ⊕ (Int32 × Int32 × St)) → Prop) (hback : ∀ a : Int32 × Int32 × Int64 × Int64 × Int32 × St, K (.inl a) → AX G mX10_prime 4 98 40 [(0, .ref (G.2.2.1 0)), (1, .int l1), (2, .int a.1), (3, .int a.2.1), (4, .long a.2.2.1), (6, .long a.2.2.2.1), (8, .int a.2.2.2.2.1)] [] a.2.2.2.2.2 Q) (hk : K z) : AX G mX10_prime 4 98 61 [(0, .ref (G.2.2.1 0)), (1, .int l1), (2, .int l2), (3, .int l3), (4, .long l4), (8, .int l8)] [] σ Q := by
  unfold fX10_prime_j61 at hz
  refine AX.aload_n dX10_prime_61 0 rfl rfl ?_
  obtain ⟨q1, hq1, hz⟩ := obind hz
  refine AX.callVw (r := 0) (As := []) (rest := []) (w := some (.long q1.1)) (st' := [.long q1.1]) dX10_prime_62 mlRX10_238 ylX10_trueLater yvX10_trueLater rfl rfl rfl (Nat.le_of_ble_eq_true rfl) ⟨Nat.le_of_ble_eq_true rfl, Nat.le_of_ble_eq_true rfl⟩ (xX10_trueLater  σ hq1) rfl ?_
  refine AX.lstore (ls' := [(0, .ref (G.2.2.1 0)), (1, .int l1), (2, .int l2), (3, .int l3), (4, .long l4), (6, .long q1.1), (8, .int l8)]) dX10_prime_65 (Nat.le_of_ble_eq_true rfl) rfl ?_
  exact AX.sub (ls' := [(0, .ref (G.2.2.1 0)), (1, .int l1), (2, .int l2), (3, .int l3), (4, .long l4), (6, .long q1.1), (8, .int l8)]) [0, 1, 2, 3, 4, 5, 6] rfl (wfX10_prime_j67 l1 l2 l3 l4 q1.1 l8 q1.2 hz K hback hk)
noncomputable def fX10_prime_b40 (l1 : Int32) (l2 : Int32) (l3 : Int32) (l4 : Int64) (l6 : Int64) (l8 : Int32) (σ : St) : Option ((Int32 × Int32 × Int64 × Int64 × Int32 × St) ⊕ (Int32 × Int32 × St)) :=
  if (60 : Int32) ≤ l8 then some (.inr (l2, l3, σ)) else (fX10_comeTo l8 σ).bind fun q2 => if q2.1 = (0 : Int32) then if l8 = (0 : Int32) then fX10_prime_j61 l1 l2 l3 l4 l8 q2.2 else fX10_prime_j67 l1 l2 l3 l4 l6 l8 q2.2 else fX10_prime_j61 l1 l2 l3 l4 l8 q2.2
theorem wfX10_prime_b40 {G : ag_G} (l1 : Int32) (l2 : Int32) (l3 : Int32) (l4 : Int64) (l6 : Int64) (l8 : Int32) (σ : St) {z : (Int32 × Int32 × Int64 × Int64 × Int32 × St) ⊕ (Int32 × Int32 × St)} (hz : fX10_prime_b40 l1 l2 l3 l4 l6 l8 σ = some z) {Q : Option Value → St → Prop} (K : ((Int32 × Int32 × Int64 × Int64 × Int32 × St) ⊕ (Int32 × Int32 × St)) → Prop) (hback : ∀ a : Int32 × Int32 × Int64 × Int64 × Int32 × St, K (.inl a) → AX G mX10_prime 4 98 40 [(0, .ref (G.2.2.1 0)), (1, .int l1), (2, .int a.1), (3, .int a.2.1), (4, .long a.2.2.1), (6, .long a.2.2.2.1), (8, .int a.2.2.2.2.1)] [] a.2.2.2.2.2 Q) (hexit0 : ∀ a : Int32 × Int32 × St, K (.inr a) → AX G mX10_prime 4 98 112 [(1, .int l1), (2, .int a.1), (3, .int a.2.1)] [] a.2.2 Q) (hk : K z) : AX G mX10_prime 4 98 40 [(0, .ref (G.2.2.1 0)), (1, .int l1), (2, .int l2), (3, .int l3), (4, .long l4), (6, .long l6), (8, .int l8)] [] σ Q := by
  unfold fX10_prime_b40 at hz
  refine AX.iload dX10_prime_40 6 rfl ?_
  refine AX.bipush dX10_prime_42 bp_60 ?_
  refine AX.icmp_ge (tgt := 112) dX10_prime_44 rfl (fun c1 => ?_) (fun c1 => ?_)
  · replace hz := (if_pos c1).symm.trans hz
    exact AX.sub (ls' := [(1, .int l1), (2, .int l2), (3, .int l3)]) [1, 2, 3] rfl (hexit0 (l2, l3, σ) (kz (P := K) hz hk))
  · replace hz := (if_neg c1).symm.trans hz
    refine AX.aload_n dX10_prime_47 0 rfl rfl ?_
    refine AX.iload dX10_prime_48 6 rfl ?_
    obtain ⟨q2, hq2, hz⟩ := obind hz
    refine AX.callVw (r := 0) (As := [.int l8]) (rest := []) (w := some (.int q2.1)) (st' := [.int q2.1]) dX10_prime_50 mlRX10_235 ylX10_comeTo yvX10_comeTo rfl rfl rfl (Nat.le_of_ble_eq_true rfl) ⟨Nat.le_of_ble_eq_true rfl, Nat.le_of_ble_eq_true rfl⟩ (xX10_comeTo l8 σ hq2) rfl ?_
    refine AX.if_ne (tgt := 61) dX10_prime_53 rfl (fun c3 => ?_) (fun c3 => ?_)
    · replace hz := (if_neg c3).symm.trans hz
      exact AX.sub (ls' := [(0, .ref (G.2.2.1 0)), (1, .int l1), (2, .int l2), (3, .int l3), (4, .long l4), (8, .int l8)]) [0, 1, 2, 3, 4, 6] rfl (wfX10_prime_j61 l1 l2 l3 l4 l8 q2.2 hz K hback hk)
    · replace hz := (if_pos c3).symm.trans hz
      refine AX.iload dX10_prime_56 6 rfl ?_
      refine AX.if_ne (tgt := 67) dX10_prime_58 rfl (fun c4 => ?_) (fun c4 => ?_)
      · replace hz := (if_neg c4).symm.trans hz
        exact AX.sub (ls' := [(0, .ref (G.2.2.1 0)), (1, .int l1), (2, .int l2), (3, .int l3), (4, .long l4), (6, .long l6), (8, .int l8)]) [0, 1, 2, 3, 4, 5, 6] rfl (wfX10_prime_j67 l1 l2 l3 l4 l6 l8 q2.2 hz K hback hk)
      · replace hz := (if_pos c4).symm.trans hz
        exact AX.sub (ls' := [(0, .ref (G.2.2.1 0)), (1, .int l1), (2, .int l2), (3, .int l3), (4, .long l4), (8, .int l8)]) [0, 1, 2, 3, 4, 6] rfl (wfX10_prime_j61 l1 l2 l3 l4 l8 q2.2 hz K hback hk)
noncomputable def fX10_prime (p0 : Int32) (σ : St) : Option (Int32 × St) :=
  (fX10_within p0 (0 : Int32) (1 : Int32)).bind fun q1 => if q1 = (0 : Int32) then some ((-2 : Int32), σ) else if (σ.1 1 6) = (0 : Int32) then some ((-3 : Int32), σ) else (lpc (fun s => fX10_prime_b40 p0 s.1 s.2.1 s.2.2.1 s.2.2.2.1 s.2.2.2.2.1 s.2.2.2.2.2) (0, 0, -1, 0, 0, σ)).bind fun r4 => if p0 = (0 : Int32) then some (r4.1, r4.2.2) else some (r4.2.1, r4.2.2)
theorem wfX10_prime {G : ag_G} (p0 : Int32) (σ : St) {z : Int32 × St} (hz : fX10_prime p0 σ = some z) {Q : Option Value → St → Prop} (hk : Q (some (.int z.1)) z.2) : AX G mX10_prime 4 98 0 [(0, .ref (G.2.2.1 0)), (1, .int p0)] [] σ Q := by
  unfold fX10_prime at hz
  refine AX.iload_n dX10_prime_0 1 rfl rfl ?_
  refine AX.iconst dX10_prime_1 ic_0 ?_
  refine AX.iconst dX10_prime_2 ic_1 ?_
  obtain ⟨q1, hq1, hz⟩ := obind hz
  refine AX.callSw (As := [.int p0, .int 0, .int 1]) (rest := []) (w := some (.int q1)) (st' := [.int q1]) dX10_prime_3 mlRX10_94 ylX10_within ysX10_within rfl rfl (Nat.le_of_ble_eq_true rfl) ⟨Nat.le_of_ble_eq_true rfl, Nat.le_of_ble_eq_true rfl⟩ (xX10_within p0 (0 : Int32) (1 : Int32) σ hq1) rfl ?_
  refine AX.if_ne (tgt := 12) dX10_prime_6 rfl (fun c2 => ?_) (fun c2 => ?_)
  · replace hz := (if_neg c2).symm.trans hz
    refine AX.aload_n dX10_prime_12 0 rfl rfl ?_
    refine AX.getR dX10_prime_13 flRX10_12 rfl rfl ?_
    refine AX.getIE (v := σ.1 1 6) dX10_prime_16 flRX10_192 rfl rfl rfl ?_
    refine AX.if_ne (tgt := 25) dX10_prime_19 rfl (fun c3 => ?_) (fun c3 => ?_)
    · replace hz := (if_neg c3).symm.trans hz
      refine AX.iconst dX10_prime_25 ic_0 ?_
      refine AX.istore_n (ls' := [(0, .ref (G.2.2.1 0)), (1, .int p0), (2, .int 0)]) dX10_prime_26 rfl (Nat.le_of_ble_eq_true rfl) rfl ?_
      refine AX.iconst dX10_prime_27 ic_0 ?_
      refine AX.istore_n (ls' := [(0, .ref (G.2.2.1 0)), (1, .int p0), (2, .int 0), (3, .int 0)]) dX10_prime_28 rfl (Nat.le_of_ble_eq_true rfl) rfl ?_
      refine AX.ldc2 dX10_prime_29 kcRX10_228 ?_
      refine AX.lstore (ls' := [(0, .ref (G.2.2.1 0)), (1, .int p0), (2, .int 0), (3, .int 0), (4, .long (-1))]) dX10_prime_32 (Nat.le_of_ble_eq_true rfl) rfl ?_
      refine AX.lconst dX10_prime_34 lc_0 ?_
      refine AX.lstore (ls' := [(0, .ref (G.2.2.1 0)), (1, .int p0), (2, .int 0), (3, .int 0), (4, .long (-1)), (6, .long 0)]) dX10_prime_35 (Nat.le_of_ble_eq_true rfl) rfl ?_
      refine AX.iconst dX10_prime_37 ic_0 ?_
      refine AX.istore (ls' := [(0, .ref (G.2.2.1 0)), (1, .int p0), (2, .int 0), (3, .int 0), (4, .long (-1)), (6, .long 0), (8, .int 0)]) dX10_prime_38 (Nat.le_of_ble_eq_true rfl) rfl ?_
      obtain ⟨r4, hr4, hz⟩ := obind hz
      refine AX.sub (ls' := [(0, .ref (G.2.2.1 0)), (1, .int p0), (2, .int 0), (3, .int 0), (4, .long (-1)), (6, .long 0), (8, .int 0)]) [0, 1, 2, 3, 4, 5, 6] rfl ?_
      refine lpc_ind (s := (0, 0, -1, 0, 0, σ)) (r := r4) (fun s => AX G mX10_prime 4 98 40 [(0, .ref (G.2.2.1 0)), (1, .int p0), (2, .int s.1), (3, .int s.2.1), (4, .long s.2.2.1), (6, .long s.2.2.2.1), (8, .int s.2.2.2.2.1)] [] s.2.2.2.2.2 Q) (fun a : Int32 × Int32 × St => AX G mX10_prime 4 98 112 [(1, .int p0), (2, .int a.1), (3, .int a.2.1)] [] a.2.2 Q) hr4 (fun s z hb hK => wfX10_prime_b40 p0 s.1 s.2.1 s.2.2.1 s.2.2.2.1 s.2.2.2.2.1 s.2.2.2.2.2 hb (Sum.elim (fun s => AX G mX10_prime 4 98 40 [(0, .ref (G.2.2.1 0)), (1, .int p0), (2, .int s.1), (3, .int s.2.1), (4, .long s.2.2.1), (6, .long s.2.2.2.1), (8, .int s.2.2.2.2.1)] [] s.2.2.2.2.2 Q) (fun a : Int32 × Int32 × St => AX G mX10_prime 4 98 112 [(1, .int p0), (2, .int a.1), (3, .int a.2.1)] [] a.2.2 Q)) (fun _ h9 => h9) (fun _ h9 => h9) hK) ?_
      refine AX.iload_n dX10_prime_112 0 rfl rfl ?_
      refine AX.if_ne (tgt := 120) dX10_prime_113 rfl (fun c5 => ?_) (fun c5 => ?_)
      · replace hz := (if_neg c5).symm.trans hz
        refine AX.iload_n dX10_prime_120 2 rfl rfl ?_
        exact AX.ireturn dX10_prime_121 rfl (vp_nar_int _) (kz (P := fun z => Q (some (.int z.1)) z.2) hz hk)
      · replace hz := (if_pos c5).symm.trans hz
        refine AX.iload_n dX10_prime_116 1 rfl rfl ?_
        refine AX.goto (tgt := 121) dX10_prime_117 rfl ?_
        exact AX.ireturn dX10_prime_121 rfl (vp_nar_int _) (kz (P := fun z => Q (some (.int z.1)) z.2) hz hk)
    · replace hz := (if_pos c3).symm.trans hz
      refine AX.bipush dX10_prime_22 bp_m3 ?_
      exact AX.ireturn dX10_prime_24 rfl (vp_nar_int _) (kz (P := fun z => Q (some (.int z.1)) z.2) hz hk)
  · replace hz := (if_pos c2).symm.trans hz
    refine AX.bipush dX10_prime_9 bp_m2 ?_
    exact AX.ireturn dX10_prime_11 rfl (vp_nar_int _) (kz (P := fun z => Q (some (.int z.1)) z.2) hz hk)
theorem xX10_prime {G : ag_G} (p0 : Int32) (σ : St) {z : Int32 × St} (hz : fX10_prime p0 σ = some z) : AC G yX10_prime mX10_prime 4 98 [.ref (G.2.2.1 0), .int p0] σ (fun v σ1 => v = some (.int z.1) ∧ σ1 = z.2) := AC.of (plainFor_of_name (by decide)) rfl (Nat.le_of_ble_eq_true rfl) (wfX10_prime p0 σ hz ⟨rfl, rfl⟩)
noncomputable def fX10_player_j20  (σ : St) : Option (Int32 × St) :=
  some ((-2 : Int32), σ)
theorem wfX10_player_j20 {G : ag_G}  (σ : St) {z : Int32 × St} (hz : fX10_player_j20  σ = some z) {Q : Option Value → St → Prop} (hk : Q (some (.int z.1)) z.2) : AX G mX10_player 2 45 20 [] [] σ Q := by
  unfold fX10_player_j20 at hz
  refine AX.bipush dX10_player_20 bp_m2 ?_
  exact AX.ireturn dX10_player_22 rfl (vp_nar_int _) (kz (P := fun z => Q (some (.int z.1)) z.2) hz hk)
noncomputable def fX10_player (p0 : Int32) (p1 : Int32) (σ : St) : Option (Int32 × St) :=
  (fX10_within p0 (1 : Int32) (98 : Int32)).bind fun q1 => if q1 = (0 : Int32) then fX10_player_j20  σ else (fX10_within p1 (1 : Int32) (99 : Int32)).bind fun q3 => if q3 = (0 : Int32) then fX10_player_j20  σ else (fX5_append p0 p1 σ).bind fun q5 => if q5.1 = (0 : Int32) then some ((-4 : Int32), q5.2) else some ((q5.2.1 27 4), q5.2)
theorem wfX10_player {G : ag_G} (p0 : Int32) (p1 : Int32) (σ : St) {z : Int32 × St} (hz : fX10_player p0 p1 σ = some z) {Q : Option Value → St → Prop} (hk : Q (some (.int z.1)) z.2) : AX G mX10_player 2 45 0 [(0, .ref (G.2.2.1 0)), (1, .int p0), (2, .int p1)] [] σ Q := by
  unfold fX10_player at hz
  refine AX.iload_n dX10_player_0 1 rfl rfl ?_
  refine AX.iconst dX10_player_1 ic_1 ?_
  refine AX.bipush dX10_player_2 bp_98 ?_
  obtain ⟨q1, hq1, hz⟩ := obind hz
  refine AX.callSw (As := [.int p0, .int 1, .int 98]) (rest := []) (w := some (.int q1)) (st' := [.int q1]) dX10_player_4 mlRX10_94 ylX10_within ysX10_within rfl rfl (Nat.le_of_ble_eq_true rfl) ⟨Nat.le_of_ble_eq_true rfl, Nat.le_of_ble_eq_true rfl⟩ (xX10_within p0 (1 : Int32) (98 : Int32) σ hq1) rfl ?_
  refine AX.if_eq (tgt := 20) dX10_player_7 rfl (fun c2 => ?_) (fun c2 => ?_)
  · replace hz := (if_pos c2).symm.trans hz
    exact AX.sub (ls' := []) [] rfl (wfX10_player_j20  σ hz hk)
  · replace hz := (if_neg c2).symm.trans hz
    refine AX.iload_n dX10_player_10 2 rfl rfl ?_
    refine AX.iconst dX10_player_11 ic_1 ?_
    refine AX.bipush dX10_player_12 bp_99 ?_
    obtain ⟨q3, hq3, hz⟩ := obind hz
    refine AX.callSw (As := [.int p1, .int 1, .int 99]) (rest := []) (w := some (.int q3)) (st' := [.int q3]) dX10_player_14 mlRX10_94 ylX10_within ysX10_within rfl rfl (Nat.le_of_ble_eq_true rfl) ⟨Nat.le_of_ble_eq_true rfl, Nat.le_of_ble_eq_true rfl⟩ (xX10_within p1 (1 : Int32) (99 : Int32) σ hq3) rfl ?_
    refine AX.if_ne (tgt := 23) dX10_player_17 rfl (fun c4 => ?_) (fun c4 => ?_)
    · replace hz := (if_neg c4).symm.trans hz
      refine AX.aload_n dX10_player_23 0 rfl rfl ?_
      refine AX.getR dX10_player_24 flRX10_61 rfl rfl ?_
      refine AX.iload_n dX10_player_27 1 rfl rfl ?_
      refine AX.iload_n dX10_player_28 2 rfl rfl ?_
      obtain ⟨q5, hq5, hz⟩ := obind hz
      refine AX.callVw (r := 27) (As := [.int p0, .int p1]) (rest := []) (w := some (.int q5.1)) (st' := [.int q5.1]) dX10_player_29 mlRX10_242 ylX5_append yvX5_append rfl rfl rfl (Nat.le_of_ble_eq_true rfl) ⟨Nat.le_of_ble_eq_true rfl, Nat.le_of_ble_eq_true rfl⟩ (xX5_append p0 p1 σ hq5) rfl ?_
      refine AX.if_eq (tgt := 45) dX10_player_32 rfl (fun c6 => ?_) (fun c6 => ?_)
      · replace hz := (if_pos c6).symm.trans hz
        refine AX.bipush dX10_player_45 bp_m4 ?_
        exact AX.ireturn dX10_player_47 rfl (vp_nar_int _) (kz (P := fun z => Q (some (.int z.1)) z.2) hz hk)
      · replace hz := (if_neg c6).symm.trans hz
        refine AX.aload_n dX10_player_35 0 rfl rfl ?_
        refine AX.getR dX10_player_36 flRX10_61 rfl rfl ?_
        refine AX.getIE (v := q5.2.1 27 4) dX10_player_39 flRX10_245 rfl rfl rfl ?_
        refine AX.goto (tgt := 47) dX10_player_42 rfl ?_
        exact AX.ireturn dX10_player_47 rfl (vp_nar_int _) (kz (P := fun z => Q (some (.int z.1)) z.2) hz hk)
    · replace hz := (if_pos c4).symm.trans hz
      exact AX.sub (ls' := []) [] rfl (wfX10_player_j20  σ hz hk)
theorem xX10_player {G : ag_G} (p0 : Int32) (p1 : Int32) (σ : St) {z : Int32 × St} (hz : fX10_player p0 p1 σ = some z) : AC G yX10_player mX10_player 2 45 [.ref (G.2.2.1 0), .int p0, .int p1] σ (fun v σ1 => v = some (.int z.1) ∧ σ1 = z.2) := AC.of (plainFor_of_name (by decide)) rfl (Nat.le_of_ble_eq_true rfl) (wfX10_player p0 p1 σ hz ⟨rfl, rfl⟩)
noncomputable def fX10_leave  (σ : St) : Option (Int32 × St) :=
  ltb (σ.1 27 4) fun x1 => some (x1, (sI σ 27 4 0))
theorem wfX10_leave {G : ag_G}  (σ : St) {z : Int32 × St} (hz : fX10_leave  σ = some z) {Q : Option Value → St → Prop} (hk : Q (some (.int z.1)) z.2) : AX G mX10_leave 0 0 0 [(0, .ref (G.2.2.1 0))] [] σ Q := by
  unfold fX10_leave at hz
  refine AX.aload_n dX10_leave_0 0 rfl rfl ?_
  refine AX.getR dX10_leave_1 flRX10_61 rfl rfl ?_
  refine AX.getIE (v := σ.1 27 4) dX10_leave_4 flRX10_245 rfl rfl rfl ?_
  obtain ⟨x1, hx1, hz⟩ := ltb_e hz
  refine AX.topI hx1 ?_
  refine AX.istore_n (ls' := [(0, .ref (G.2.2.1 0)), (1, .int x1)]) dX10_leave_7 rfl (Nat.le_of_ble_eq_true rfl) rfl ?_
  refine AX.aload_n dX10_leave_8 0 rfl rfl ?_
  refine AX.getR dX10_leave_9 flRX10_61 rfl rfl ?_
  refine AX.iconst dX10_leave_12 ic_0 ?_
  refine AX.putI dX10_leave_13 fpRX10_245 rfl rfl (vp_nar_int _) rfl ?_
  refine AX.iload_n dX10_leave_16 1 rfl rfl ?_
  exact AX.ireturn dX10_leave_17 rfl (vp_nar_int _) (kz (P := fun z => Q (some (.int z.1)) z.2) hz hk)
theorem xX10_leave {G : ag_G}  (σ : St) {z : Int32 × St} (hz : fX10_leave  σ = some z) : AC G yX10_leave mX10_leave 0 0 [.ref (G.2.2.1 0)] σ (fun v σ1 => v = some (.int z.1) ∧ σ1 = z.2) := AC.of (plainFor_of_name (by decide)) rfl (Nat.le_of_ble_eq_true rfl) (wfX10_leave  σ hz ⟨rfl, rfl⟩)
noncomputable def fX10_worth (p0 : Int32) (σ : St) : Option (Int32 × St) :=
  (fX10_within p0 (0 : Int32) (1 : Int32)).bind fun q1 => if q1 = (0 : Int32) then some ((-2 : Int32), σ) else (fX5_bestBits  σ).bind fun q3 => if p0 = (0 : Int32) then (fX5_plan q3.1 q3.2).bind fun q5 => some (q5.1, q5.2) else some (q3.1, q3.2)
theorem wfX10_worth {G : ag_G} (p0 : Int32) (σ : St) {z : Int32 × St} (hz : fX10_worth p0 σ = some z) {Q : Option Value → St → Prop} (hk : Q (some (.int z.1)) z.2) : AX G mX10_worth 3 73 0 [(0, .ref (G.2.2.1 0)), (1, .int p0)] [] σ Q := by
  unfold fX10_worth at hz
  refine AX.iload_n dX10_worth_0 1 rfl rfl ?_
  refine AX.iconst dX10_worth_1 ic_0 ?_
  refine AX.iconst dX10_worth_2 ic_1 ?_
  obtain ⟨q1, hq1, hz⟩ := obind hz
  refine AX.callSw (As := [.int p0, .int 0, .int 1]) (rest := []) (w := some (.int q1)) (st' := [.int q1]) dX10_worth_3 mlRX10_94 ylX10_within ysX10_within rfl rfl (Nat.le_of_ble_eq_true rfl) ⟨Nat.le_of_ble_eq_true rfl, Nat.le_of_ble_eq_true rfl⟩ (xX10_within p0 (0 : Int32) (1 : Int32) σ hq1) rfl ?_
  refine AX.if_ne (tgt := 12) dX10_worth_6 rfl (fun c2 => ?_) (fun c2 => ?_)
  · replace hz := (if_neg c2).symm.trans hz
    refine AX.aload_n dX10_worth_12 0 rfl rfl ?_
    refine AX.getR dX10_worth_13 flRX10_61 rfl rfl ?_
    obtain ⟨q3, hq3, hz⟩ := obind hz
    refine AX.callVw (r := 27) (As := []) (rest := []) (w := some (.int q3.1)) (st' := [.int q3.1]) dX10_worth_16 mlRX10_246 ylX5_bestBits yvX5_bestBits rfl rfl rfl (Nat.le_of_ble_eq_true rfl) ⟨Nat.le_of_ble_eq_true rfl, Nat.le_of_ble_eq_true rfl⟩ (xX5_bestBits  σ hq3) rfl ?_
    refine AX.istore_n (ls' := [(0, .ref (G.2.2.1 0)), (1, .int p0), (2, .int q3.1)]) dX10_worth_19 rfl (Nat.le_of_ble_eq_true rfl) rfl ?_
    refine AX.iload_n dX10_worth_20 1 rfl rfl ?_
    refine AX.if_ne (tgt := 35) dX10_worth_21 rfl (fun c4 => ?_) (fun c4 => ?_)
    · replace hz := (if_neg c4).symm.trans hz
      refine AX.iload_n dX10_worth_35 2 rfl rfl ?_
      exact AX.ireturn dX10_worth_36 rfl (vp_nar_int _) (kz (P := fun z => Q (some (.int z.1)) z.2) hz hk)
    · replace hz := (if_pos c4).symm.trans hz
      refine AX.aload_n dX10_worth_24 0 rfl rfl ?_
      refine AX.getR dX10_worth_25 flRX10_61 rfl rfl ?_
      refine AX.iload_n dX10_worth_28 2 rfl rfl ?_
      obtain ⟨q5, hq5, hz⟩ := obind hz
      refine AX.callVw (r := 27) (As := [.int q3.1]) (rest := []) (w := some (.int q5.1)) (st' := [.int q5.1]) dX10_worth_29 mlRX10_250 ylX5_plan yvX5_plan rfl rfl rfl (Nat.le_of_ble_eq_true rfl) ⟨Nat.le_of_ble_eq_true rfl, Nat.le_of_ble_eq_true rfl⟩ (xX5_plan q3.1 q3.2 hq5) rfl ?_
      refine AX.goto (tgt := 36) dX10_worth_32 rfl ?_
      exact AX.ireturn dX10_worth_36 rfl (vp_nar_int _) (kz (P := fun z => Q (some (.int z.1)) z.2) hz hk)
  · replace hz := (if_pos c2).symm.trans hz
    refine AX.bipush dX10_worth_9 bp_m2 ?_
    exact AX.ireturn dX10_worth_11 rfl (vp_nar_int _) (kz (P := fun z => Q (some (.int z.1)) z.2) hz hk)
theorem xX10_worth {G : ag_G} (p0 : Int32) (σ : St) {z : Int32 × St} (hz : fX10_worth p0 σ = some z) : AC G yX10_worth mX10_worth 3 73 [.ref (G.2.2.1 0), .int p0] σ (fun v σ1 => v = some (.int z.1) ∧ σ1 = z.2) := AC.of (plainFor_of_name (by decide)) rfl (Nat.le_of_ble_eq_true rfl) (wfX10_worth p0 σ hz ⟨rfl, rfl⟩)
noncomputable def fX10_look (p0 : Int32) (σ : St) : Option (Int32 × St) :=
  (fX10_within p0 (0 : Int32) (98 : Int32)).bind fun q1 => if q1 = (0 : Int32) then some ((-2 : Int32), σ) else (fX5_bestBits  σ).bind fun q3 => (fX5_plan q3.1 q3.2).bind fun q4 => (fX5_lookedAtIn p0 q4.2).bind fun q5 => some (q5, q4.2)
theorem wfX10_look {G : ag_G} (p0 : Int32) (σ : St) {z : Int32 × St} (hz : fX10_look p0 σ = some z) {Q : Option Value → St → Prop} (hk : Q (some (.int z.1)) z.2) : AX G mX10_look 3 73 0 [(0, .ref (G.2.2.1 0)), (1, .int p0)] [] σ Q := by
  unfold fX10_look at hz
  refine AX.iload_n dX10_look_0 1 rfl rfl ?_
  refine AX.iconst dX10_look_1 ic_0 ?_
  refine AX.bipush dX10_look_2 bp_98 ?_
  obtain ⟨q1, hq1, hz⟩ := obind hz
  refine AX.callSw (As := [.int p0, .int 0, .int 98]) (rest := []) (w := some (.int q1)) (st' := [.int q1]) dX10_look_4 mlRX10_94 ylX10_within ysX10_within rfl rfl (Nat.le_of_ble_eq_true rfl) ⟨Nat.le_of_ble_eq_true rfl, Nat.le_of_ble_eq_true rfl⟩ (xX10_within p0 (0 : Int32) (98 : Int32) σ hq1) rfl ?_
  refine AX.if_ne (tgt := 13) dX10_look_7 rfl (fun c2 => ?_) (fun c2 => ?_)
  · replace hz := (if_neg c2).symm.trans hz
    refine AX.aload_n dX10_look_13 0 rfl rfl ?_
    refine AX.getR dX10_look_14 flRX10_61 rfl rfl ?_
    refine AX.aload_n dX10_look_17 0 rfl rfl ?_
    refine AX.getR dX10_look_18 flRX10_61 rfl rfl ?_
    obtain ⟨q3, hq3, hz⟩ := obind hz
    refine AX.callVw (r := 27) (As := []) (rest := [.ref (G.2.2.1 27)]) (w := some (.int q3.1)) (st' := [.int q3.1, .ref (G.2.2.1 27)]) dX10_look_21 mlRX10_246 ylX5_bestBits yvX5_bestBits rfl rfl rfl (Nat.le_of_ble_eq_true rfl) ⟨Nat.le_of_ble_eq_true rfl, Nat.le_of_ble_eq_true rfl⟩ (xX5_bestBits  σ hq3) rfl ?_
    obtain ⟨q4, hq4, hz⟩ := obind hz
    refine AX.callVw (r := 27) (As := [.int q3.1]) (rest := []) (w := some (.int q4.1)) (st' := [.int q4.1]) dX10_look_24 mlRX10_250 ylX5_plan yvX5_plan rfl rfl rfl (Nat.le_of_ble_eq_true rfl) ⟨Nat.le_of_ble_eq_true rfl, Nat.le_of_ble_eq_true rfl⟩ (xX5_plan q3.1 q3.2 hq4) rfl ?_
    refine AX.pop dX10_look_27 rfl ?_
    refine AX.aload_n dX10_look_28 0 rfl rfl ?_
    refine AX.getR dX10_look_29 flRX10_61 rfl rfl ?_
    refine AX.iload_n dX10_look_32 1 rfl rfl ?_
    obtain ⟨q5, hq5, hz⟩ := obind hz
    refine AX.callVw (r := 27) (As := [.int p0]) (rest := []) (w := some (.int q5)) (st' := [.int q5]) dX10_look_33 mlRX10_253 ylX5_lookedAtIn yvX5_lookedAtIn rfl rfl rfl (Nat.le_of_ble_eq_true rfl) ⟨Nat.le_of_ble_eq_true rfl, Nat.le_of_ble_eq_true rfl⟩ (xX5_lookedAtIn p0 q4.2 hq5) rfl ?_
    exact AX.ireturn dX10_look_36 rfl (vp_nar_int _) (kz (P := fun z => Q (some (.int z.1)) z.2) hz hk)
  · replace hz := (if_pos c2).symm.trans hz
    refine AX.bipush dX10_look_10 bp_m2 ?_
    exact AX.ireturn dX10_look_12 rfl (vp_nar_int _) (kz (P := fun z => Q (some (.int z.1)) z.2) hz hk)
theorem xX10_look {G : ag_G} (p0 : Int32) (σ : St) {z : Int32 × St} (hz : fX10_look p0 σ = some z) : AC G yX10_look mX10_look 3 73 [.ref (G.2.2.1 0), .int p0] σ (fun v σ1 => v = some (.int z.1) ∧ σ1 = z.2) := AC.of (plainFor_of_name (by decide)) rfl (Nat.le_of_ble_eq_true rfl) (wfX10_look p0 σ hz ⟨rfl, rfl⟩)
noncomputable def fX10_from (p0 : Int32) (σ : St) : Option (Int32 × St) :=
  (fX10_within p0 (0 : Int32) (98 : Int32)).bind fun q1 => if q1 = (0 : Int32) then some ((-2 : Int32), σ) else ltb (σ.1 32 2) fun x3 => some (x3, (sI σ 32 2 p0))
theorem wfX10_from {G : ag_G} (p0 : Int32) (σ : St) {z : Int32 × St} (hz : fX10_from p0 σ = some z) {Q : Option Value → St → Prop} (hk : Q (some (.int z.1)) z.2) : AX G mX10_from 1 22 0 [(0, .ref (G.2.2.1 0)), (1, .int p0)] [] σ Q := by
  unfold fX10_from at hz
  refine AX.iload_n dX10_from_0 1 rfl rfl ?_
  refine AX.iconst dX10_from_1 ic_0 ?_
  refine AX.bipush dX10_from_2 bp_98 ?_
  obtain ⟨q1, hq1, hz⟩ := obind hz
  refine AX.callSw (As := [.int p0, .int 0, .int 98]) (rest := []) (w := some (.int q1)) (st' := [.int q1]) dX10_from_4 mlRX10_94 ylX10_within ysX10_within rfl rfl (Nat.le_of_ble_eq_true rfl) ⟨Nat.le_of_ble_eq_true rfl, Nat.le_of_ble_eq_true rfl⟩ (xX10_within p0 (0 : Int32) (98 : Int32) σ hq1) rfl ?_
  refine AX.if_ne (tgt := 13) dX10_from_7 rfl (fun c2 => ?_) (fun c2 => ?_)
  · replace hz := (if_neg c2).symm.trans hz
    refine AX.aload_n dX10_from_13 0 rfl rfl ?_
    refine AX.getR dX10_from_14 flRX10_68 rfl rfl ?_
    refine AX.getIE (v := σ.1 32 2) dX10_from_17 flRX10_256 rfl rfl rfl ?_
    obtain ⟨x3, hx3, hz⟩ := ltb_e hz
    refine AX.topI hx3 ?_
    refine AX.istore_n (ls' := [(0, .ref (G.2.2.1 0)), (1, .int p0), (2, .int x3)]) dX10_from_20 rfl (Nat.le_of_ble_eq_true rfl) rfl ?_
    refine AX.aload_n dX10_from_21 0 rfl rfl ?_
    refine AX.getR dX10_from_22 flRX10_68 rfl rfl ?_
    refine AX.iload_n dX10_from_25 1 rfl rfl ?_
    refine AX.putI dX10_from_26 fpRX10_256 rfl rfl (vp_nar_int _) rfl ?_
    refine AX.iload_n dX10_from_29 2 rfl rfl ?_
    exact AX.ireturn dX10_from_30 rfl (vp_nar_int _) (kz (P := fun z => Q (some (.int z.1)) z.2) hz hk)
  · replace hz := (if_pos c2).symm.trans hz
    refine AX.bipush dX10_from_10 bp_m2 ?_
    exact AX.ireturn dX10_from_12 rfl (vp_nar_int _) (kz (P := fun z => Q (some (.int z.1)) z.2) hz hk)
theorem xX10_from {G : ag_G} (p0 : Int32) (σ : St) {z : Int32 × St} (hz : fX10_from p0 σ = some z) : AC G yX10_from mX10_from 1 22 [.ref (G.2.2.1 0), .int p0] σ (fun v σ1 => v = some (.int z.1) ∧ σ1 = z.2) := AC.of (plainFor_of_name (by decide)) rfl (Nat.le_of_ble_eq_true rfl) (wfX10_from p0 σ hz ⟨rfl, rfl⟩)
noncomputable def fX10_said (p0 : Int32) (σ : St) : Option (Int32 × St) :=
  (fX10_isNumber p0).bind fun q1 => if q1 = (0 : Int32) then some ((-2 : Int32), σ) else (fX0_append p0 σ).bind fun q3 => if q3.1 = (0 : Int32) then some ((-4 : Int32), q3.2) else some ((q3.2.1 32 1), q3.2)
theorem wfX10_said {G : ag_G} (p0 : Int32) (σ : St) {z : Int32 × St} (hz : fX10_said p0 σ = some z) {Q : Option Value → St → Prop} (hk : Q (some (.int z.1)) z.2) : AX G mX10_said 2 42 0 [(0, .ref (G.2.2.1 0)), (1, .int p0)] [] σ Q := by
  unfold fX10_said at hz
  refine AX.iload_n dX10_said_0 1 rfl rfl ?_
  obtain ⟨q1, hq1, hz⟩ := obind hz
  refine AX.callSw (As := [.int p0]) (rest := []) (w := some (.int q1)) (st' := [.int q1]) dX10_said_1 mlRX10_161 ylX10_isNumber ysX10_isNumber rfl rfl (Nat.le_of_ble_eq_true rfl) ⟨Nat.le_of_ble_eq_true rfl, Nat.le_of_ble_eq_true rfl⟩ (xX10_isNumber p0 σ hq1) rfl ?_
  refine AX.if_ne (tgt := 10) dX10_said_4 rfl (fun c2 => ?_) (fun c2 => ?_)
  · replace hz := (if_neg c2).symm.trans hz
    refine AX.aload_n dX10_said_10 0 rfl rfl ?_
    refine AX.getR dX10_said_11 flRX10_68 rfl rfl ?_
    refine AX.iload_n dX10_said_14 1 rfl rfl ?_
    obtain ⟨q3, hq3, hz⟩ := obind hz
    refine AX.callVw (r := 32) (As := [.int p0]) (rest := []) (w := some (.int q3.1)) (st' := [.int q3.1]) dX10_said_15 mlRX10_164 ylX0_append yvX0_append rfl rfl rfl (Nat.le_of_ble_eq_true rfl) ⟨Nat.le_of_ble_eq_true rfl, Nat.le_of_ble_eq_true rfl⟩ (xX0_append p0 σ hq3) rfl ?_
    refine AX.if_eq (tgt := 31) dX10_said_18 rfl (fun c4 => ?_) (fun c4 => ?_)
    · replace hz := (if_pos c4).symm.trans hz
      refine AX.bipush dX10_said_31 bp_m4 ?_
      exact AX.ireturn dX10_said_33 rfl (vp_nar_int _) (kz (P := fun z => Q (some (.int z.1)) z.2) hz hk)
    · replace hz := (if_neg c4).symm.trans hz
      refine AX.aload_n dX10_said_21 0 rfl rfl ?_
      refine AX.getR dX10_said_22 flRX10_68 rfl rfl ?_
      refine AX.getIE (v := q3.2.1 32 1) dX10_said_25 flRX10_165 rfl rfl rfl ?_
      refine AX.goto (tgt := 33) dX10_said_28 rfl ?_
      exact AX.ireturn dX10_said_33 rfl (vp_nar_int _) (kz (P := fun z => Q (some (.int z.1)) z.2) hz hk)
  · replace hz := (if_pos c2).symm.trans hz
    refine AX.bipush dX10_said_7 bp_m2 ?_
    exact AX.ireturn dX10_said_9 rfl (vp_nar_int _) (kz (P := fun z => Q (some (.int z.1)) z.2) hz hk)
theorem xX10_said {G : ag_G} (p0 : Int32) (σ : St) {z : Int32 × St} (hz : fX10_said p0 σ = some z) : AC G yX10_said mX10_said 2 42 [.ref (G.2.2.1 0), .int p0] σ (fun v σ1 => v = some (.int z.1) ∧ σ1 = z.2) := AC.of (plainFor_of_name (by decide)) rfl (Nat.le_of_ble_eq_true rfl) (wfX10_said p0 σ hz ⟨rfl, rfl⟩)
noncomputable def fX10_wrong (p0 : Int32) (σ : St) : Option (Int32) :=
  (fX10_within p0 (0 : Int32) (1 : Int32)).bind fun q1 => if q1 = (0 : Int32) then some (-2 : Int32) else if p0 = (0 : Int32) then (fX0_firstWrong  σ).bind fun q5 => some q5 else (fX0_allWrong  σ).bind fun q4 => some q4
theorem wfX10_wrong {G : ag_G} (p0 : Int32) (σ : St) {z : Int32} (hz : fX10_wrong p0 σ = some z) {Q : Option Value → St → Prop} (hk : Q (some (.int z)) σ) : AX G mX10_wrong 3 65 0 [(0, .ref (G.2.2.1 0)), (1, .int p0)] [] σ Q := by
  unfold fX10_wrong at hz
  refine AX.iload_n dX10_wrong_0 1 rfl rfl ?_
  refine AX.iconst dX10_wrong_1 ic_0 ?_
  refine AX.iconst dX10_wrong_2 ic_1 ?_
  obtain ⟨q1, hq1, hz⟩ := obind hz
  refine AX.callSw (As := [.int p0, .int 0, .int 1]) (rest := []) (w := some (.int q1)) (st' := [.int q1]) dX10_wrong_3 mlRX10_94 ylX10_within ysX10_within rfl rfl (Nat.le_of_ble_eq_true rfl) ⟨Nat.le_of_ble_eq_true rfl, Nat.le_of_ble_eq_true rfl⟩ (xX10_within p0 (0 : Int32) (1 : Int32) σ hq1) rfl ?_
  refine AX.if_ne (tgt := 12) dX10_wrong_6 rfl (fun c2 => ?_) (fun c2 => ?_)
  · replace hz := (if_neg c2).symm.trans hz
    refine AX.iload_n dX10_wrong_12 1 rfl rfl ?_
    refine AX.if_ne (tgt := 26) dX10_wrong_13 rfl (fun c3 => ?_) (fun c3 => ?_)
    · replace hz := (if_neg c3).symm.trans hz
      refine AX.aload_n dX10_wrong_26 0 rfl rfl ?_
      refine AX.getR dX10_wrong_27 flRX10_68 rfl rfl ?_
      obtain ⟨q4, hq4, hz⟩ := obind hz
      refine AX.callVw (r := 32) (As := []) (rest := []) (w := some (.int q4)) (st' := [.int q4]) dX10_wrong_30 mlRX10_262 ylX0_allWrong yvX0_allWrong rfl rfl rfl (Nat.le_of_ble_eq_true rfl) ⟨Nat.le_of_ble_eq_true rfl, Nat.le_of_ble_eq_true rfl⟩ (xX0_allWrong  σ hq4) rfl ?_
      exact AX.ireturn dX10_wrong_33 rfl (vp_nar_int _) (kz (P := fun z => Q (some (.int z)) σ) hz hk)
    · replace hz := (if_pos c3).symm.trans hz
      refine AX.aload_n dX10_wrong_16 0 rfl rfl ?_
      refine AX.getR dX10_wrong_17 flRX10_68 rfl rfl ?_
      obtain ⟨q5, hq5, hz⟩ := obind hz
      refine AX.callVw (r := 32) (As := []) (rest := []) (w := some (.int q5)) (st' := [.int q5]) dX10_wrong_20 mlRX10_259 ylX0_firstWrong yvX0_firstWrong rfl rfl rfl (Nat.le_of_ble_eq_true rfl) ⟨Nat.le_of_ble_eq_true rfl, Nat.le_of_ble_eq_true rfl⟩ (xX0_firstWrong  σ hq5) rfl ?_
      refine AX.goto (tgt := 33) dX10_wrong_23 rfl ?_
      exact AX.ireturn dX10_wrong_33 rfl (vp_nar_int _) (kz (P := fun z => Q (some (.int z)) σ) hz hk)
  · replace hz := (if_pos c2).symm.trans hz
    refine AX.bipush dX10_wrong_9 bp_m2 ?_
    exact AX.ireturn dX10_wrong_11 rfl (vp_nar_int _) (kz (P := fun z => Q (some (.int z)) σ) hz hk)
theorem xX10_wrong {G : ag_G} (p0 : Int32) (σ : St) {z : Int32} (hz : fX10_wrong p0 σ = some z) : AC G yX10_wrong mX10_wrong 3 65 [.ref (G.2.2.1 0), .int p0] σ (fun v σ1 => v = some (.int z) ∧ σ1 = σ) := AC.of (plainFor_of_name (by decide)) rfl (Nat.le_of_ble_eq_true rfl) (wfX10_wrong p0 σ hz ⟨rfl, rfl⟩)
noncomputable def fX10_blame  (σ : St) : Option (Int32) :=
  (fX0_firstWrong  σ).bind fun q1 => ltb (((σ.1 32 2) + q1) - (1 : Int32)) fun x2 => if q1 = (-1 : Int32) then some (-1 : Int32) else (fX4_isLoose x2 σ).bind fun q4 => if q4 = (0 : Int32) then some (-1 : Int32) else (fX4_kindOf x2 σ).bind fun q6 => some q6
theorem wfX10_blame {G : ag_G}  (σ : St) {z : Int32} (hz : fX10_blame  σ = some z) {Q : Option Value → St → Prop} (hk : Q (some (.int z)) σ) : AX G mX10_blame 3 64 0 [(0, .ref (G.2.2.1 0))] [] σ Q := by
  unfold fX10_blame at hz
  refine AX.aload_n dX10_blame_0 0 rfl rfl ?_
  refine AX.getR dX10_blame_1 flRX10_68 rfl rfl ?_
  obtain ⟨q1, hq1, hz⟩ := obind hz
  refine AX.callVw (r := 32) (As := []) (rest := []) (w := some (.int q1)) (st' := [.int q1]) dX10_blame_4 mlRX10_259 ylX0_firstWrong yvX0_firstWrong rfl rfl rfl (Nat.le_of_ble_eq_true rfl) ⟨Nat.le_of_ble_eq_true rfl, Nat.le_of_ble_eq_true rfl⟩ (xX0_firstWrong  σ hq1) rfl ?_
  refine AX.istore_n (ls' := [(0, .ref (G.2.2.1 0)), (1, .int q1)]) dX10_blame_7 rfl (Nat.le_of_ble_eq_true rfl) rfl ?_
  refine AX.aload_n dX10_blame_8 0 rfl rfl ?_
  refine AX.getR dX10_blame_9 flRX10_68 rfl rfl ?_
  refine AX.getIE (v := σ.1 32 2) dX10_blame_12 flRX10_256 rfl rfl rfl ?_
  refine AX.iload_n dX10_blame_15 1 rfl rfl ?_
  refine AX.iadd dX10_blame_16 ?_
  refine AX.iconst dX10_blame_17 ic_1 ?_
  refine AX.isub dX10_blame_18 ?_
  obtain ⟨x2, hx2, hz⟩ := ltb_e hz
  refine AX.topI hx2 ?_
  refine AX.istore_n (ls' := [(0, .ref (G.2.2.1 0)), (1, .int q1), (2, .int x2)]) dX10_blame_19 rfl (Nat.le_of_ble_eq_true rfl) rfl ?_
  refine AX.iload_n dX10_blame_20 1 rfl rfl ?_
  refine AX.iconst dX10_blame_21 ic_m1 ?_
  refine AX.icmp_eq (tgt := 47) dX10_blame_22 rfl (fun c3 => ?_) (fun c3 => ?_)
  · replace hz := (if_pos c3).symm.trans hz
    refine AX.iconst dX10_blame_47 ic_m1 ?_
    exact AX.ireturn dX10_blame_48 rfl (vp_nar_int _) (kz (P := fun z => Q (some (.int z)) σ) hz hk)
  · replace hz := (if_neg c3).symm.trans hz
    refine AX.aload_n dX10_blame_25 0 rfl rfl ?_
    refine AX.getR dX10_blame_26 flRX10_12 rfl rfl ?_
    refine AX.iload_n dX10_blame_29 2 rfl rfl ?_
    obtain ⟨q4, hq4, hz⟩ := obind hz
    refine AX.callVw (r := 1) (As := [.int x2]) (rest := []) (w := some (.int q4)) (st' := [.int q4]) dX10_blame_30 mlRX10_265 ylX4_isLoose yvX4_isLoose rfl rfl rfl (Nat.le_of_ble_eq_true rfl) ⟨Nat.le_of_ble_eq_true rfl, Nat.le_of_ble_eq_true rfl⟩ (xX4_isLoose x2 σ hq4) rfl ?_
    refine AX.if_eq (tgt := 47) dX10_blame_33 rfl (fun c5 => ?_) (fun c5 => ?_)
    · replace hz := (if_pos c5).symm.trans hz
      refine AX.iconst dX10_blame_47 ic_m1 ?_
      exact AX.ireturn dX10_blame_48 rfl (vp_nar_int _) (kz (P := fun z => Q (some (.int z)) σ) hz hk)
    · replace hz := (if_neg c5).symm.trans hz
      refine AX.aload_n dX10_blame_36 0 rfl rfl ?_
      refine AX.getR dX10_blame_37 flRX10_12 rfl rfl ?_
      refine AX.iload_n dX10_blame_40 2 rfl rfl ?_
      obtain ⟨q6, hq6, hz⟩ := obind hz
      refine AX.callVw (r := 1) (As := [.int x2]) (rest := []) (w := some (.int q6)) (st' := [.int q6]) dX10_blame_41 mlRX10_115 ylX4_kindOf yvX4_kindOf rfl rfl rfl (Nat.le_of_ble_eq_true rfl) ⟨Nat.le_of_ble_eq_true rfl, Nat.le_of_ble_eq_true rfl⟩ (xX4_kindOf x2 σ hq6) rfl ?_
      refine AX.goto (tgt := 48) dX10_blame_44 rfl ?_
      exact AX.ireturn dX10_blame_48 rfl (vp_nar_int _) (kz (P := fun z => Q (some (.int z)) σ) hz hk)
theorem xX10_blame {G : ag_G}  (σ : St) {z : Int32} (hz : fX10_blame  σ = some z) : AC G yX10_blame mX10_blame 3 64 [.ref (G.2.2.1 0)] σ (fun v σ1 => v = some (.int z) ∧ σ1 = σ) := AC.of (plainFor_of_name (by decide)) rfl (Nat.le_of_ble_eq_true rfl) (wfX10_blame  σ hz ⟨rfl, rfl⟩)
noncomputable def fX10_slipOfNight_j86 (l1 : Int32) (l2 : Int32) (σ : St) : Option ((Int32 × Int32 × St) ⊕ (Int32 × St)) :=
  some (.inl (l1, l2 + 1, σ))
theorem wfX10_slipOfNight_j86 {G : ag_G} (l1 : Int32) (l2 : Int32) (σ : St) {z : (Int32 × Int32 × St) ⊕ (Int32 × St)} (hz : fX10_slipOfNight_j86 l1 l2 σ = some z) {Q : Option Value → St → Prop} (K : ((Int32 × Int32 × St) ⊕ (Int32 × St)) → Prop) (hback : ∀ a : Int32 × Int32 × St, K (.inl a) → AX G mX10_slipOfNight 2 42 4 [(0, .ref (G.2.2.1 0)), (1, .int a.1), (2, .int a.2.1)] [] a.2.2 Q) (hk : K z) : AX G mX10_slipOfNight 2 42 86 [(0, .ref (G.2.2.1 0)), (1, .int l1), (2, .int l2)] [] σ Q := by
  unfold fX10_slipOfNight_j86 at hz
  refine AX.iinc (v := l2 + 1) (ls' := [(0, .ref (G.2.2.1 0)), (1, .int l1), (2, .int (l2 + 1))]) 2 dX10_slipOfNight_86 rfl (Nat.le_of_ble_eq_true rfl) (congrArg (l2 + ·) ic_1) rfl ?_
  refine AX.goto (tgt := 4) dX10_slipOfNight_89 rfl ?_
  exact AX.sub (ls' := [(0, .ref (G.2.2.1 0)), (1, .int l1), (2, .int (l2 + 1))]) [0, 1, 2] rfl (hback (l1, l2 + 1, σ) (kz (P := K) hz hk))
noncomputable def fX10_slipOfNight_b4 (l1 : Int32) (l2 : Int32) (σ : St) : Option ((Int32 × Int32 × St) ⊕ (Int32 × St)) :=
  if (σ.1 1 6) ≤ l2 then some (.inr (l1, σ)) else (fX4_isLoose l2 σ).bind fun q2 => if q2 = (0 : Int32) then fX10_slipOfNight_j86 l1 l2 σ else (fX4_kindOf l2 σ).bind fun q4 => (fX3_missedOf 9 q4 σ).bind fun q5 => (fX1_draw  σ).bind fun q6 => if q5 ≤ q6.1 then (fX3_doubledOf 9 q4 q6.2).bind fun q8 => if (q5 + q8) ≤ q6.1 then fX10_slipOfNight_j86 l1 l2 q6.2 else fX10_slipOfNight_j86 (l1 + 1) l2 q6.2 else fX10_slipOfNight_j86 (l1 + (-1)) l2 q6.2
theorem wfX10_slipOfNight_b4 {G : ag_G} (l1 : Int32) (l2 : Int32) (σ : St) {z : (Int32 × Int32 × St) ⊕ (Int32 × St)} (hz : fX10_slipOfNight_b4 l1 l2 σ = some z) {Q : Option Value → St → Prop} (K : ((Int32 × Int32 × St) ⊕ (Int32 × St)) → Prop) (hback : ∀ a : Int32 × Int32 × St, K (.inl a) → AX G mX10_slipOfNight 2 42 4 [(0, .ref (G.2.2.1 0)), (1, .int a.1), (2, .int a.2.1)] [] a.2.2 Q) (hexit0 : ∀ a : Int32 × St, K (.inr a) → AX G mX10_slipOfNight 2 42 92 [(1, .int a.1)] [] a.2 Q) (hk : K z) : AX G mX10_slipOfNight 2 42 4 [(0, .ref (G.2.2.1 0)), (1, .int l1), (2, .int l2)] [] σ Q := by
  unfold fX10_slipOfNight_b4 at hz
  refine AX.iload_n dX10_slipOfNight_4 2 rfl rfl ?_
  refine AX.aload_n dX10_slipOfNight_5 0 rfl rfl ?_
  refine AX.getR dX10_slipOfNight_6 flRX10_12 rfl rfl ?_
  refine AX.getIE (v := σ.1 1 6) dX10_slipOfNight_9 flRX10_192 rfl rfl rfl ?_
  refine AX.icmp_ge (tgt := 92) dX10_slipOfNight_12 rfl (fun c1 => ?_) (fun c1 => ?_)
  · replace hz := (if_pos c1).symm.trans hz
    exact AX.sub (ls' := [(1, .int l1)]) [1] rfl (hexit0 (l1, σ) (kz (P := K) hz hk))
  · replace hz := (if_neg c1).symm.trans hz
    refine AX.aload_n dX10_slipOfNight_15 0 rfl rfl ?_
    refine AX.getR dX10_slipOfNight_16 flRX10_12 rfl rfl ?_
    refine AX.iload_n dX10_slipOfNight_19 2 rfl rfl ?_
    obtain ⟨q2, hq2, hz⟩ := obind hz
    refine AX.callVw (r := 1) (As := [.int l2]) (rest := []) (w := some (.int q2)) (st' := [.int q2]) dX10_slipOfNight_20 mlRX10_265 ylX4_isLoose yvX4_isLoose rfl rfl rfl (Nat.le_of_ble_eq_true rfl) ⟨Nat.le_of_ble_eq_true rfl, Nat.le_of_ble_eq_true rfl⟩ (xX4_isLoose l2 σ hq2) rfl ?_
    refine AX.if_eq (tgt := 86) dX10_slipOfNight_23 rfl (fun c3 => ?_) (fun c3 => ?_)
    · replace hz := (if_pos c3).symm.trans hz
      exact AX.sub (ls' := [(0, .ref (G.2.2.1 0)), (1, .int l1), (2, .int l2)]) [0, 1, 2] rfl (wfX10_slipOfNight_j86 l1 l2 σ hz K hback hk)
    · replace hz := (if_neg c3).symm.trans hz
      refine AX.aload_n dX10_slipOfNight_26 0 rfl rfl ?_
      refine AX.getR dX10_slipOfNight_27 flRX10_12 rfl rfl ?_
      refine AX.iload_n dX10_slipOfNight_30 2 rfl rfl ?_
      obtain ⟨q4, hq4, hz⟩ := obind hz
      refine AX.callVw (r := 1) (As := [.int l2]) (rest := []) (w := some (.int q4)) (st' := [.int q4]) dX10_slipOfNight_31 mlRX10_115 ylX4_kindOf yvX4_kindOf rfl rfl rfl (Nat.le_of_ble_eq_true rfl) ⟨Nat.le_of_ble_eq_true rfl, Nat.le_of_ble_eq_true rfl⟩ (xX4_kindOf l2 σ hq4) rfl ?_
      refine AX.istore_n (ls' := [(0, .ref (G.2.2.1 0)), (1, .int l1), (2, .int l2), (3, .int q4)]) dX10_slipOfNight_34 rfl (Nat.le_of_ble_eq_true rfl) rfl ?_
      refine AX.aload_n dX10_slipOfNight_35 0 rfl rfl ?_
      refine AX.getR dX10_slipOfNight_36 flRX10_26 rfl rfl ?_
      refine AX.iload_n dX10_slipOfNight_39 3 rfl rfl ?_
      obtain ⟨q5, hq5, hz⟩ := obind hz
      refine AX.callVw (r := 9) (As := [.int q4]) (rest := []) (w := some (.int q5)) (st' := [.int q5]) dX10_slipOfNight_40 mlRX10_125 ylX3_missedOf yvX3_missedOf rfl rfl rfl (Nat.le_of_ble_eq_true rfl) ⟨Nat.le_of_ble_eq_true rfl, Nat.le_of_ble_eq_true rfl⟩ (xX3_missedOf 9 q4 σ hq5) rfl ?_
      refine AX.istore (ls' := [(0, .ref (G.2.2.1 0)), (1, .int l1), (2, .int l2), (3, .int q4), (4, .int q5)]) dX10_slipOfNight_43 (Nat.le_of_ble_eq_true rfl) rfl ?_
      refine AX.aload_n dX10_slipOfNight_45 0 rfl rfl ?_
      refine AX.getR dX10_slipOfNight_46 flRX10_75 rfl rfl ?_
      obtain ⟨q6, hq6, hz⟩ := obind hz
      refine AX.callVw (r := 34) (As := []) (rest := []) (w := some (.int q6.1)) (st' := [.int q6.1]) dX10_slipOfNight_49 mlRX10_380 ylX1_draw yvX1_draw rfl rfl rfl (Nat.le_of_ble_eq_true rfl) ⟨Nat.le_of_ble_eq_true rfl, Nat.le_of_ble_eq_true rfl⟩ (xX1_draw  σ hq6) rfl ?_
      refine AX.istore (ls' := [(0, .ref (G.2.2.1 0)), (1, .int l1), (2, .int l2), (3, .int q4), (4, .int q5), (5, .int q6.1)]) dX10_slipOfNight_52 (Nat.le_of_ble_eq_true rfl) rfl ?_
      refine AX.iload dX10_slipOfNight_54 5 rfl ?_
      refine AX.iload dX10_slipOfNight_56 4 rfl ?_
      refine AX.icmp_ge (tgt := 67) dX10_slipOfNight_58 rfl (fun c7 => ?_) (fun c7 => ?_)
      · replace hz := (if_pos c7).symm.trans hz
        refine AX.iload dX10_slipOfNight_67 5 rfl ?_
        refine AX.iload dX10_slipOfNight_69 4 rfl ?_
        refine AX.aload_n dX10_slipOfNight_71 0 rfl rfl ?_
        refine AX.getR dX10_slipOfNight_72 flRX10_26 rfl rfl ?_
        refine AX.iload_n dX10_slipOfNight_75 3 rfl rfl ?_
        obtain ⟨q8, hq8, hz⟩ := obind hz
        refine AX.callVw (r := 9) (As := [.int q4]) (rest := [.int q5, .int q6.1]) (w := some (.int q8)) (st' := [.int q8, .int q5, .int q6.1]) dX10_slipOfNight_76 mlRX10_128 ylX3_doubledOf yvX3_doubledOf rfl rfl rfl (Nat.le_of_ble_eq_true rfl) ⟨Nat.le_of_ble_eq_true rfl, Nat.le_of_ble_eq_true rfl⟩ (xX3_doubledOf 9 q4 q6.2 hq8) rfl ?_
        refine AX.iadd dX10_slipOfNight_79 ?_
        refine AX.icmp_ge (tgt := 86) dX10_slipOfNight_80 rfl (fun c9 => ?_) (fun c9 => ?_)
        · replace hz := (if_pos c9).symm.trans hz
          exact AX.sub (ls' := [(0, .ref (G.2.2.1 0)), (1, .int l1), (2, .int l2)]) [0, 1, 2] rfl (wfX10_slipOfNight_j86 l1 l2 q6.2 hz K hback hk)
        · replace hz := (if_neg c9).symm.trans hz
          refine AX.iinc (v := l1 + 1) (ls' := [(0, .ref (G.2.2.1 0)), (1, .int (l1 + 1)), (2, .int l2), (3, .int q4), (4, .int q5), (5, .int q6.1)]) 1 dX10_slipOfNight_83 rfl (Nat.le_of_ble_eq_true rfl) (congrArg (l1 + ·) ic_1) rfl ?_
          exact AX.sub (ls' := [(0, .ref (G.2.2.1 0)), (1, .int (l1 + 1)), (2, .int l2)]) [0, 1, 2] rfl (wfX10_slipOfNight_j86 (l1 + 1) l2 q6.2 hz K hback hk)
      · replace hz := (if_neg c7).symm.trans hz
        refine AX.iinc (v := l1 + (-1)) (ls' := [(0, .ref (G.2.2.1 0)), (1, .int (l1 + (-1))), (2, .int l2), (3, .int q4), (4, .int q5), (5, .int q6.1)]) 1 dX10_slipOfNight_61 rfl (Nat.le_of_ble_eq_true rfl) (congrArg (l1 + ·) ic_m1) rfl ?_
        refine AX.goto (tgt := 86) dX10_slipOfNight_64 rfl ?_
        exact AX.sub (ls' := [(0, .ref (G.2.2.1 0)), (1, .int (l1 + (-1))), (2, .int l2)]) [0, 1, 2] rfl (wfX10_slipOfNight_j86 (l1 + (-1)) l2 q6.2 hz K hback hk)
noncomputable def fX10_slipOfNight  (σ : St) : Option (Int32 × St) :=
  (lpc (fun s => fX10_slipOfNight_b4  s.1 s.2.1 s.2.2) (0, 0, σ)).bind fun r1 => some (r1.1, r1.2)
theorem wfX10_slipOfNight {G : ag_G}  (σ : St) {z : Int32 × St} (hz : fX10_slipOfNight  σ = some z) {Q : Option Value → St → Prop} (hk : Q (some (.int z.1)) z.2) : AX G mX10_slipOfNight 2 42 0 [(0, .ref (G.2.2.1 0))] [] σ Q := by
  unfold fX10_slipOfNight at hz
  refine AX.iconst dX10_slipOfNight_0 ic_0 ?_
  refine AX.istore_n (ls' := [(0, .ref (G.2.2.1 0)), (1, .int 0)]) dX10_slipOfNight_1 rfl (Nat.le_of_ble_eq_true rfl) rfl ?_
  refine AX.iconst dX10_slipOfNight_2 ic_0 ?_
  refine AX.istore_n (ls' := [(0, .ref (G.2.2.1 0)), (1, .int 0), (2, .int 0)]) dX10_slipOfNight_3 rfl (Nat.le_of_ble_eq_true rfl) rfl ?_
  obtain ⟨r1, hr1, hz⟩ := obind hz
  refine AX.sub (ls' := [(0, .ref (G.2.2.1 0)), (1, .int 0), (2, .int 0)]) [0, 1, 2] rfl ?_
  refine lpc_ind (s := (0, 0, σ)) (r := r1) (fun s => AX G mX10_slipOfNight 2 42 4 [(0, .ref (G.2.2.1 0)), (1, .int s.1), (2, .int s.2.1)] [] s.2.2 Q) (fun a : Int32 × St => AX G mX10_slipOfNight 2 42 92 [(1, .int a.1)] [] a.2 Q) hr1 (fun s z hb hK => wfX10_slipOfNight_b4  s.1 s.2.1 s.2.2 hb (Sum.elim (fun s => AX G mX10_slipOfNight 2 42 4 [(0, .ref (G.2.2.1 0)), (1, .int s.1), (2, .int s.2.1)] [] s.2.2 Q) (fun a : Int32 × St => AX G mX10_slipOfNight 2 42 92 [(1, .int a.1)] [] a.2 Q)) (fun _ h9 => h9) (fun _ h9 => h9) hK) ?_
  refine AX.iload_n dX10_slipOfNight_92 0 rfl rfl ?_
  exact AX.ireturn dX10_slipOfNight_93 rfl (vp_nar_int _) (kz (P := fun z => Q (some (.int z.1)) z.2) hz hk)
theorem xX10_slipOfNight {G : ag_G}  (σ : St) {z : Int32 × St} (hz : fX10_slipOfNight  σ = some z) : AC G yX10_slipOfNight mX10_slipOfNight 2 42 [.ref (G.2.2.1 0)] σ (fun v σ1 => v = some (.int z.1) ∧ σ1 = z.2) := AC.of (plainFor_of_name (by decide)) rfl (Nat.le_of_ble_eq_true rfl) (wfX10_slipOfNight  σ hz ⟨rfl, rfl⟩)
noncomputable def fX10_night_j51 (l2 : Int32) (l3 : Int32) (l4 : Int32) (σ : St) : Option ((Int32 × Int32 × St) ⊕ (Int32 × St)) :=
  some (.inl (l3, l4 + 1, σ))
theorem wfX10_night_j51 {G : ag_G} (l2 : Int32) (l3 : Int32) (l4 : Int32) (σ : St) {z : (Int32 × Int32 × St) ⊕ (Int32 × St)} (hz : fX10_night_j51 l2 l3 l4 σ = some z) {Q : Option Value → St → Prop} (K : ((Int32 × Int32 × St) ⊕ (Int32 × St)) → Prop) (hback : ∀ a : Int32 × Int32 × St, K (.inl a) → AX G mX10_night 3 67 35 [(0, .ref (G.2.2.1 0)), (2, .int l2), (3, .int a.1), (4, .int a.2.1)] [] a.2.2 Q) (hk : K z) : AX G mX10_night 3 67 51 [(0, .ref (G.2.2.1 0)), (2, .int l2), (3, .int l3), (4, .int l4)] [] σ Q := by
  unfold fX10_night_j51 at hz
  refine AX.iinc (v := l4 + 1) (ls' := [(0, .ref (G.2.2.1 0)), (2, .int l2), (3, .int l3), (4, .int (l4 + 1))]) 3 dX10_night_51 rfl (Nat.le_of_ble_eq_true rfl) (congrArg (l4 + ·) ic_1) rfl ?_
  refine AX.goto (tgt := 35) dX10_night_54 rfl ?_
  exact AX.sub (ls' := [(0, .ref (G.2.2.1 0)), (2, .int l2), (3, .int l3), (4, .int (l4 + 1))]) [0, 1, 2, 3] rfl (hback (l3, l4 + 1, σ) (kz (P := K) hz hk))
noncomputable def fX10_night_b35 (l2 : Int32) (l3 : Int32) (l4 : Int32) (σ : St) : Option ((Int32 × Int32 × St) ⊕ (Int32 × St)) :=
  if l2 ≤ l4 then some (.inr (l3, σ)) else (fX10_slipOfNight  σ).bind fun q2 => if q2.1 = (0 : Int32) then fX10_night_j51 l2 (l3 + 1) l4 q2.2 else fX10_night_j51 l2 l3 l4 q2.2
theorem wfX10_night_b35 {G : ag_G} (l2 : Int32) (l3 : Int32) (l4 : Int32) (σ : St) {z : (Int32 × Int32 × St) ⊕ (Int32 × St)} (hz : fX10_night_b35 l2 l3 l4 σ = some z) {Q : Option Value → St → Prop} (K : ((Int32 × Int32 × St) ⊕ (Int32 × St)) → Prop) (hback : ∀ a : Int32 × Int32 × St, K (.inl a) → AX G mX10_night 3 67 35 [(0, .ref (G.2.2.1 0)), (2, .int l2), (3, .int a.1), (4, .int a.2.1)] [] a.2.2 Q) (hexit0 : ∀ a : Int32 × St, K (.inr a) → AX G mX10_night 3 67 57 [(3, .int a.1)] [] a.2 Q) (hk : K z) : AX G mX10_night 3 67 35 [(0, .ref (G.2.2.1 0)), (2, .int l2), (3, .int l3), (4, .int l4)] [] σ Q := by
  unfold fX10_night_b35 at hz
  refine AX.iload dX10_night_35 3 rfl ?_
  refine AX.iload_n dX10_night_37 1 rfl rfl ?_
  refine AX.icmp_ge (tgt := 57) dX10_night_38 rfl (fun c1 => ?_) (fun c1 => ?_)
  · replace hz := (if_pos c1).symm.trans hz
    exact AX.sub (ls' := [(3, .int l3)]) [2] rfl (hexit0 (l3, σ) (kz (P := K) hz hk))
  · replace hz := (if_neg c1).symm.trans hz
    refine AX.aload_n dX10_night_41 0 rfl rfl ?_
    obtain ⟨q2, hq2, hz⟩ := obind hz
    refine AX.callVw (r := 0) (As := []) (rest := []) (w := some (.int q2.1)) (st' := [.int q2.1]) dX10_night_42 mlRX10_271 ylX10_slipOfNight yvX10_slipOfNight rfl rfl rfl (Nat.le_of_ble_eq_true rfl) ⟨Nat.le_of_ble_eq_true rfl, Nat.le_of_ble_eq_true rfl⟩ (xX10_slipOfNight  σ hq2) rfl ?_
    refine AX.if_ne (tgt := 51) dX10_night_45 rfl (fun c3 => ?_) (fun c3 => ?_)
    · replace hz := (if_neg c3).symm.trans hz
      exact AX.sub (ls' := [(0, .ref (G.2.2.1 0)), (2, .int l2), (3, .int l3), (4, .int l4)]) [0, 1, 2, 3] rfl (wfX10_night_j51 l2 l3 l4 q2.2 hz K hback hk)
    · replace hz := (if_pos c3).symm.trans hz
      refine AX.iinc (v := l3 + 1) (ls' := [(0, .ref (G.2.2.1 0)), (2, .int l2), (3, .int (l3 + 1)), (4, .int l4)]) 2 dX10_night_48 rfl (Nat.le_of_ble_eq_true rfl) (congrArg (l3 + ·) ic_1) rfl ?_
      exact AX.sub (ls' := [(0, .ref (G.2.2.1 0)), (2, .int l2), (3, .int (l3 + 1)), (4, .int l4)]) [0, 1, 2, 3] rfl (wfX10_night_j51 l2 (l3 + 1) l4 q2.2 hz K hback hk)
noncomputable def fX10_night (p0 : Int32) (p1 : Int32) (σ : St) : Option (Int32 × St) :=
  (fX10_within p1 (0 : Int32) (99 : Int32)).bind fun q1 => if q1 = (0 : Int32) then some ((-102 : Int32), σ) else if p1 = (0 : Int32) then (fX10_slipOfNight  (sI σ 34 0 p0)).bind fun q5 => some (q5.1, q5.2) else (lpc (fun s => fX10_night_b35 p1 s.1 s.2.1 s.2.2) (0, 0, (sI σ 34 0 p0))).bind fun r4 => some (r4.1, r4.2)
theorem wfX10_night {G : ag_G} (p0 : Int32) (p1 : Int32) (σ : St) {z : Int32 × St} (hz : fX10_night p0 p1 σ = some z) {Q : Option Value → St → Prop} (hk : Q (some (.int z.1)) z.2) : AX G mX10_night 3 67 0 [(0, .ref (G.2.2.1 0)), (1, .int p0), (2, .int p1)] [] σ Q := by
  unfold fX10_night at hz
  refine AX.iload_n dX10_night_0 2 rfl rfl ?_
  refine AX.iconst dX10_night_1 ic_0 ?_
  refine AX.bipush dX10_night_2 bp_99 ?_
  obtain ⟨q1, hq1, hz⟩ := obind hz
  refine AX.callSw (As := [.int p1, .int 0, .int 99]) (rest := []) (w := some (.int q1)) (st' := [.int q1]) dX10_night_4 mlRX10_94 ylX10_within ysX10_within rfl rfl (Nat.le_of_ble_eq_true rfl) ⟨Nat.le_of_ble_eq_true rfl, Nat.le_of_ble_eq_true rfl⟩ (xX10_within p1 (0 : Int32) (99 : Int32) σ hq1) rfl ?_
  refine AX.if_ne (tgt := 13) dX10_night_7 rfl (fun c2 => ?_) (fun c2 => ?_)
  · replace hz := (if_neg c2).symm.trans hz
    refine AX.aload_n dX10_night_13 0 rfl rfl ?_
    refine AX.getR dX10_night_14 flRX10_75 rfl rfl ?_
    refine AX.iload_n dX10_night_17 1 rfl rfl ?_
    refine AX.putI dX10_night_18 fpRX10_268 rfl rfl (vp_nar_int _) rfl ?_
    refine AX.iload_n dX10_night_21 2 rfl rfl ?_
    refine AX.if_ne (tgt := 30) dX10_night_22 rfl (fun c3 => ?_) (fun c3 => ?_)
    · replace hz := (if_neg c3).symm.trans hz
      refine AX.iconst dX10_night_30 ic_0 ?_
      refine AX.istore_n (ls' := [(0, .ref (G.2.2.1 0)), (1, .int p0), (2, .int p1), (3, .int 0)]) dX10_night_31 rfl (Nat.le_of_ble_eq_true rfl) rfl ?_
      refine AX.iconst dX10_night_32 ic_0 ?_
      refine AX.istore (ls' := [(0, .ref (G.2.2.1 0)), (1, .int p0), (2, .int p1), (3, .int 0), (4, .int 0)]) dX10_night_33 (Nat.le_of_ble_eq_true rfl) rfl ?_
      obtain ⟨r4, hr4, hz⟩ := obind hz
      refine AX.sub (ls' := [(0, .ref (G.2.2.1 0)), (2, .int p1), (3, .int 0), (4, .int 0)]) [0, 2, 3, 4] rfl ?_
      refine lpc_ind (s := (0, 0, (sI σ 34 0 p0))) (r := r4) (fun s => AX G mX10_night 3 67 35 [(0, .ref (G.2.2.1 0)), (2, .int p1), (3, .int s.1), (4, .int s.2.1)] [] s.2.2 Q) (fun a : Int32 × St => AX G mX10_night 3 67 57 [(3, .int a.1)] [] a.2 Q) hr4 (fun s z hb hK => wfX10_night_b35 p1 s.1 s.2.1 s.2.2 hb (Sum.elim (fun s => AX G mX10_night 3 67 35 [(0, .ref (G.2.2.1 0)), (2, .int p1), (3, .int s.1), (4, .int s.2.1)] [] s.2.2 Q) (fun a : Int32 × St => AX G mX10_night 3 67 57 [(3, .int a.1)] [] a.2 Q)) (fun _ h9 => h9) (fun _ h9 => h9) hK) ?_
      refine AX.iload_n dX10_night_57 0 rfl rfl ?_
      exact AX.ireturn dX10_night_58 rfl (vp_nar_int _) (kz (P := fun z => Q (some (.int z.1)) z.2) hz hk)
    · replace hz := (if_pos c3).symm.trans hz
      refine AX.aload_n dX10_night_25 0 rfl rfl ?_
      obtain ⟨q5, hq5, hz⟩ := obind hz
      refine AX.callVw (r := 0) (As := []) (rest := []) (w := some (.int q5.1)) (st' := [.int q5.1]) dX10_night_26 mlRX10_271 ylX10_slipOfNight yvX10_slipOfNight rfl rfl rfl (Nat.le_of_ble_eq_true rfl) ⟨Nat.le_of_ble_eq_true rfl, Nat.le_of_ble_eq_true rfl⟩ (xX10_slipOfNight  (sI σ 34 0 p0) hq5) rfl ?_
      exact AX.ireturn dX10_night_29 rfl (vp_nar_int _) (kz (P := fun z => Q (some (.int z.1)) z.2) hz hk)
  · replace hz := (if_pos c2).symm.trans hz
    refine AX.bipush dX10_night_10 bp_m102 ?_
    exact AX.ireturn dX10_night_12 rfl (vp_nar_int _) (kz (P := fun z => Q (some (.int z.1)) z.2) hz hk)
theorem xX10_night {G : ag_G} (p0 : Int32) (p1 : Int32) (σ : St) {z : Int32 × St} (hz : fX10_night p0 p1 σ = some z) : AC G yX10_night mX10_night 3 67 [.ref (G.2.2.1 0), .int p0, .int p1] σ (fun v σ1 => v = some (.int z.1) ∧ σ1 = z.2) := AC.of (plainFor_of_name (by decide)) rfl (Nat.le_of_ble_eq_true rfl) (wfX10_night p0 p1 σ hz ⟨rfl, rfl⟩)
noncomputable def fX10_sheet_j27  (σ : St) : Option (Int32 × St) :=
  some ((-2 : Int32), σ)
theorem wfX10_sheet_j27 {G : ag_G}  (σ : St) {z : Int32 × St} (hz : fX10_sheet_j27  σ = some z) {Q : Option Value → St → Prop} (hk : Q (some (.int z.1)) z.2) : AX G mX10_sheet 2 45 27 [] [] σ Q := by
  unfold fX10_sheet_j27 at hz
  refine AX.bipush dX10_sheet_27 bp_m2 ?_
  exact AX.ireturn dX10_sheet_29 rfl (vp_nar_int _) (kz (P := fun z => Q (some (.int z.1)) z.2) hz hk)
noncomputable def fX10_sheet (p0 : Int32) (p1 : Int32) (p2 : Int32) (σ : St) : Option (Int32 × St) :=
  (fX10_sheetAt p0 σ).bind fun q1 => Option.elim q1 (fX10_sheet_j27  σ) (fun k2 => if isS k2 = true then (fX10_within p1 (0 : Int32) (2 : Int32)).bind fun q4 => if q4 = (0 : Int32) then fX10_sheet_j27  σ else if p2 ≤ (48 : Int32) then if (0 : Int32) ≤ p2 then (fX7_renew k2 p1 p2 σ).bind fun q8 => some (p2, q8) else (fX10_found (5 : Int32) σ).bind fun q9 => some (q9.1, q9.2) else fX10_sheet_j27  σ else none)
theorem wfX10_sheet {G : ag_G} (p0 : Int32) (p1 : Int32) (p2 : Int32) (σ : St) {z : Int32 × St} (hz : fX10_sheet p0 p1 p2 σ = some z) {Q : Option Value → St → Prop} (hk : Q (some (.int z.1)) z.2) : AX G mX10_sheet 2 45 0 [(0, .ref (G.2.2.1 0)), (1, .int p0), (2, .int p1), (3, .int p2)] [] σ Q := by
  unfold fX10_sheet at hz
  refine AX.aload_n dX10_sheet_0 0 rfl rfl ?_
  refine AX.iload_n dX10_sheet_1 1 rfl rfl ?_
  obtain ⟨q1, hq1, hz⟩ := obind hz
  rcases q1 with _ | k2
  · dsimp only [Option.elim] at hz
    refine AX.callVw (r := 0) (As := [.int p0]) (rest := []) (w := some .null) (st' := [.null]) dX10_sheet_2 mlRX10_144 ylX10_sheetAt yvX10_sheetAt rfl rfl rfl (Nat.le_of_ble_eq_true rfl) ⟨Nat.le_of_ble_eq_true rfl, Nat.le_of_ble_eq_true rfl⟩ (xX10_sheetAt p0 σ hq1) rfl ?_
    refine AX.astoreN (ls' := [(0, .ref (G.2.2.1 0)), (1, .int p0), (2, .int p1), (3, .int p2), (4, .null)]) dX10_sheet_5 (Nat.le_of_ble_eq_true rfl) rfl ?_
    refine AX.aloadN dX10_sheet_7 4 rfl ?_
    refine AX.ifnull_null (tgt := 27) dX10_sheet_9 rfl ?_
    exact AX.sub (ls' := []) [] rfl (wfX10_sheet_j27  σ hz hk)
  · dsimp only [Option.elim] at hz
    obtain ⟨hs3, hz⟩ := ite_n hz
    refine AX.callVw (r := 0) (As := [.int p0]) (rest := []) (w := some (.ref (G.2.2.1 k2))) (st' := [.ref (G.2.2.1 k2)]) dX10_sheet_2 mlRX10_144 ylX10_sheetAt yvX10_sheetAt rfl rfl rfl (Nat.le_of_ble_eq_true rfl) ⟨Nat.le_of_ble_eq_true rfl, Nat.le_of_ble_eq_true rfl⟩ (xX10_sheetAt p0 σ hq1) rfl ?_
    refine AX.astore (ls' := [(0, .ref (G.2.2.1 0)), (1, .int p0), (2, .int p1), (3, .int p2), (4, .ref (G.2.2.1 k2))]) dX10_sheet_5 (Nat.le_of_ble_eq_true rfl) rfl ?_
    refine AX.aload dX10_sheet_7 4 rfl ?_
    refine AX.ifnull_ref dX10_sheet_9 ?_
    refine AX.iload_n dX10_sheet_12 2 rfl rfl ?_
    refine AX.iconst dX10_sheet_13 ic_0 ?_
    refine AX.iconst dX10_sheet_14 ic_2 ?_
    obtain ⟨q4, hq4, hz⟩ := obind hz
    refine AX.callSw (As := [.int p1, .int 0, .int 2]) (rest := []) (w := some (.int q4)) (st' := [.int q4]) dX10_sheet_15 mlRX10_94 ylX10_within ysX10_within rfl rfl (Nat.le_of_ble_eq_true rfl) ⟨Nat.le_of_ble_eq_true rfl, Nat.le_of_ble_eq_true rfl⟩ (xX10_within p1 (0 : Int32) (2 : Int32) σ hq4) rfl ?_
    refine AX.if_eq (tgt := 27) dX10_sheet_18 rfl (fun c5 => ?_) (fun c5 => ?_)
    · replace hz := (if_pos c5).symm.trans hz
      exact AX.sub (ls' := []) [] rfl (wfX10_sheet_j27  σ hz hk)
    · replace hz := (if_neg c5).symm.trans hz
      refine AX.iload_n dX10_sheet_21 3 rfl rfl ?_
      refine AX.bipush dX10_sheet_22 bp_48 ?_
      refine AX.icmp_le (tgt := 30) dX10_sheet_24 rfl (fun c6 => ?_) (fun c6 => ?_)
      · replace hz := (if_pos c6).symm.trans hz
        refine AX.iload_n dX10_sheet_30 3 rfl rfl ?_
        refine AX.if_ge (tgt := 40) dX10_sheet_31 rfl (fun c7 => ?_) (fun c7 => ?_)
        · replace hz := (if_pos c7).symm.trans hz
          refine AX.aload dX10_sheet_40 4 rfl ?_
          refine AX.iload_n dX10_sheet_42 2 rfl rfl ?_
          refine AX.iload_n dX10_sheet_43 3 rfl rfl ?_
          obtain ⟨q8, hq8, hz⟩ := obind hz
          refine AX.callVw (r := k2) (As := [.int p1, .int p2]) (rest := []) (w := none) (st' := []) dX10_sheet_44 mlRX10_274 ylX7_renew yvX7_renew (isS_tw hs3) rfl rfl (Nat.le_of_ble_eq_true rfl) ⟨Nat.le_of_ble_eq_true rfl, Nat.le_of_ble_eq_true rfl⟩ (xX7_renew k2 p1 p2 σ hq8) rfl ?_
          refine AX.iload_n dX10_sheet_47 3 rfl rfl ?_
          exact AX.ireturn dX10_sheet_48 rfl (vp_nar_int _) (kz (P := fun z => Q (some (.int z.1)) z.2) hz hk)
        · replace hz := (if_neg c7).symm.trans hz
          refine AX.aload_n dX10_sheet_34 0 rfl rfl ?_
          refine AX.iconst dX10_sheet_35 ic_5 ?_
          obtain ⟨q9, hq9, hz⟩ := obind hz
          refine AX.callVw (r := 0) (As := [.int 5]) (rest := []) (w := some (.int q9.1)) (st' := [.int q9.1]) dX10_sheet_36 mlRX10_151 ylX10_found yvX10_found rfl rfl rfl (Nat.le_of_ble_eq_true rfl) ⟨Nat.le_of_ble_eq_true rfl, Nat.le_of_ble_eq_true rfl⟩ (xX10_found (5 : Int32) σ hq9) rfl ?_
          exact AX.ireturn dX10_sheet_39 rfl (vp_nar_int _) (kz (P := fun z => Q (some (.int z.1)) z.2) hz hk)
      · replace hz := (if_neg c6).symm.trans hz
        exact AX.sub (ls' := []) [] rfl (wfX10_sheet_j27  σ hz hk)
theorem xX10_sheet {G : ag_G} (p0 : Int32) (p1 : Int32) (p2 : Int32) (σ : St) {z : Int32 × St} (hz : fX10_sheet p0 p1 p2 σ = some z) : AC G yX10_sheet mX10_sheet 2 45 [.ref (G.2.2.1 0), .int p0, .int p1, .int p2] σ (fun v σ1 => v = some (.int z.1) ∧ σ1 = z.2) := AC.of (plainFor_of_name (by decide)) rfl (Nat.le_of_ble_eq_true rfl) (wfX10_sheet p0 p1 p2 σ hz ⟨rfl, rfl⟩)
noncomputable def fX10_lose (p0 : Int32) (σ : St) : Option (Int32 × St) :=
  (fX10_sheetAt p0 σ).bind fun q1 => Option.elim q1 (some ((-2 : Int32), σ)) (fun k2 => if isS k2 = true then if (σ.1 k2 1) = (0 : Int32) then some (((sI σ k2 1 1).1 k2 3), (sI σ k2 1 1)) else (fX10_found (1 : Int32) σ).bind fun q5 => some (q5.1, q5.2) else none)
theorem wfX10_lose {G : ag_G} (p0 : Int32) (σ : St) {z : Int32 × St} (hz : fX10_lose p0 σ = some z) {Q : Option Value → St → Prop} (hk : Q (some (.int z.1)) z.2) : AX G mX10_lose 1 21 0 [(0, .ref (G.2.2.1 0)), (1, .int p0)] [] σ Q := by
  unfold fX10_lose at hz
  refine AX.aload_n dX10_lose_0 0 rfl rfl ?_
  refine AX.iload_n dX10_lose_1 1 rfl rfl ?_
  obtain ⟨q1, hq1, hz⟩ := obind hz
  rcases q1 with _ | k2
  · dsimp only [Option.elim] at hz
    refine AX.callVw (r := 0) (As := [.int p0]) (rest := []) (w := some .null) (st' := [.null]) dX10_lose_2 mlRX10_144 ylX10_sheetAt yvX10_sheetAt rfl rfl rfl (Nat.le_of_ble_eq_true rfl) ⟨Nat.le_of_ble_eq_true rfl, Nat.le_of_ble_eq_true rfl⟩ (xX10_sheetAt p0 σ hq1) rfl ?_
    refine AX.astore_nN (ls' := [(0, .ref (G.2.2.1 0)), (1, .int p0), (2, .null)]) dX10_lose_5 rfl (Nat.le_of_ble_eq_true rfl) rfl ?_
    refine AX.aload_nN dX10_lose_6 2 rfl rfl ?_
    refine AX.ifnonnull_null dX10_lose_7 ?_
    refine AX.bipush dX10_lose_10 bp_m2 ?_
    exact AX.ireturn dX10_lose_12 rfl (vp_nar_int _) (kz (P := fun z => Q (some (.int z.1)) z.2) hz hk)
  · dsimp only [Option.elim] at hz
    obtain ⟨hs3, hz⟩ := ite_n hz
    refine AX.callVw (r := 0) (As := [.int p0]) (rest := []) (w := some (.ref (G.2.2.1 k2))) (st' := [.ref (G.2.2.1 k2)]) dX10_lose_2 mlRX10_144 ylX10_sheetAt yvX10_sheetAt rfl rfl rfl (Nat.le_of_ble_eq_true rfl) ⟨Nat.le_of_ble_eq_true rfl, Nat.le_of_ble_eq_true rfl⟩ (xX10_sheetAt p0 σ hq1) rfl ?_
    refine AX.astore_n (ls' := [(0, .ref (G.2.2.1 0)), (1, .int p0), (2, .ref (G.2.2.1 k2))]) dX10_lose_5 rfl (Nat.le_of_ble_eq_true rfl) rfl ?_
    refine AX.aload_n dX10_lose_6 2 rfl rfl ?_
    refine AX.ifnonnull_ref (tgt := 13) dX10_lose_7 rfl ?_
    refine AX.aload_n dX10_lose_13 2 rfl rfl ?_
    refine AX.getIE (v := σ.1 k2 1) dX10_lose_14 flRX10_148 (isS_tw hs3) rfl rfl ?_
    refine AX.if_eq (tgt := 26) dX10_lose_17 rfl (fun c4 => ?_) (fun c4 => ?_)
    · replace hz := (if_pos c4).symm.trans hz
      refine AX.aload_n dX10_lose_26 2 rfl rfl ?_
      refine AX.iconst dX10_lose_27 ic_1 ?_
      refine AX.putI dX10_lose_28 fpRX10_148 (isS_tw hs3) rfl nb_1 rfl ?_
      refine AX.aload_n dX10_lose_31 2 rfl rfl ?_
      refine AX.getIE (v := (sI σ k2 1 1).1 k2 3) dX10_lose_32 flRX10_157 (isS_tw hs3) rfl rfl ?_
      exact AX.ireturn dX10_lose_35 rfl (vp_nar_int _) (kz (P := fun z => Q (some (.int z.1)) z.2) hz hk)
    · replace hz := (if_neg c4).symm.trans hz
      refine AX.aload_n dX10_lose_20 0 rfl rfl ?_
      refine AX.iconst dX10_lose_21 ic_1 ?_
      obtain ⟨q5, hq5, hz⟩ := obind hz
      refine AX.callVw (r := 0) (As := [.int 1]) (rest := []) (w := some (.int q5.1)) (st' := [.int q5.1]) dX10_lose_22 mlRX10_151 ylX10_found yvX10_found rfl rfl rfl (Nat.le_of_ble_eq_true rfl) ⟨Nat.le_of_ble_eq_true rfl, Nat.le_of_ble_eq_true rfl⟩ (xX10_found (1 : Int32) σ hq5) rfl ?_
      exact AX.ireturn dX10_lose_25 rfl (vp_nar_int _) (kz (P := fun z => Q (some (.int z.1)) z.2) hz hk)
theorem xX10_lose {G : ag_G} (p0 : Int32) (σ : St) {z : Int32 × St} (hz : fX10_lose p0 σ = some z) : AC G yX10_lose mX10_lose 1 21 [.ref (G.2.2.1 0), .int p0] σ (fun v σ1 => v = some (.int z.1) ∧ σ1 = z.2) := AC.of (plainFor_of_name (by decide)) rfl (Nat.le_of_ble_eq_true rfl) (wfX10_lose p0 σ hz ⟨rfl, rfl⟩)
noncomputable def fX10_put_j21  (σ : St) : Option (Int32 × St) :=
  some ((-2 : Int32), σ)
theorem wfX10_put_j21 {G : ag_G}  (σ : St) {z : Int32 × St} (hz : fX10_put_j21  σ = some z) {Q : Option Value → St → Prop} (hk : Q (some (.int z.1)) z.2) : AX G mX10_put 2 44 21 [] [] σ Q := by
  unfold fX10_put_j21 at hz
  refine AX.bipush dX10_put_21 bp_m2 ?_
  exact AX.ireturn dX10_put_23 rfl (vp_nar_int _) (kz (P := fun z => Q (some (.int z.1)) z.2) hz hk)
noncomputable def fX10_put (p0 : Int32) (p1 : Int32) (p2 : Int32) (p3 : Int32) (σ : St) : Option (Int32 × St) :=
  (fX10_sheetAt p0 σ).bind fun q1 => Option.elim q1 (fX10_put_j21  σ) (fun k2 => if isS k2 = true then (fX10_within p1 (0 : Int32) (2 : Int32)).bind fun q4 => if q4 = (0 : Int32) then fX10_put_j21  σ else (fX7_findingAt k2 p1 p2 σ).bind fun q6 => if q6 = (0 : Int32) then (fX7_become k2 p2 p3 σ).bind fun q8 => some ((1 : Int32), q8) else (fX10_found q6 σ).bind fun q9 => some (q9.1, q9.2) else none)
theorem wfX10_put {G : ag_G} (p0 : Int32) (p1 : Int32) (p2 : Int32) (p3 : Int32) (σ : St) {z : Int32 × St} (hz : fX10_put p0 p1 p2 p3 σ = some z) {Q : Option Value → St → Prop} (hk : Q (some (.int z.1)) z.2) : AX G mX10_put 2 44 0 [(0, .ref (G.2.2.1 0)), (1, .int p0), (2, .int p1), (3, .int p2), (4, .int p3)] [] σ Q := by
  unfold fX10_put at hz
  refine AX.aload_n dX10_put_0 0 rfl rfl ?_
  refine AX.iload_n dX10_put_1 1 rfl rfl ?_
  obtain ⟨q1, hq1, hz⟩ := obind hz
  rcases q1 with _ | k2
  · dsimp only [Option.elim] at hz
    refine AX.callVw (r := 0) (As := [.int p0]) (rest := []) (w := some .null) (st' := [.null]) dX10_put_2 mlRX10_144 ylX10_sheetAt yvX10_sheetAt rfl rfl rfl (Nat.le_of_ble_eq_true rfl) ⟨Nat.le_of_ble_eq_true rfl, Nat.le_of_ble_eq_true rfl⟩ (xX10_sheetAt p0 σ hq1) rfl ?_
    refine AX.astoreN (ls' := [(0, .ref (G.2.2.1 0)), (1, .int p0), (2, .int p1), (3, .int p2), (4, .int p3), (5, .null)]) dX10_put_5 (Nat.le_of_ble_eq_true rfl) rfl ?_
    refine AX.aloadN dX10_put_7 5 rfl ?_
    refine AX.ifnull_null (tgt := 21) dX10_put_9 rfl ?_
    exact AX.sub (ls' := []) [] rfl (wfX10_put_j21  σ hz hk)
  · dsimp only [Option.elim] at hz
    obtain ⟨hs3, hz⟩ := ite_n hz
    refine AX.callVw (r := 0) (As := [.int p0]) (rest := []) (w := some (.ref (G.2.2.1 k2))) (st' := [.ref (G.2.2.1 k2)]) dX10_put_2 mlRX10_144 ylX10_sheetAt yvX10_sheetAt rfl rfl rfl (Nat.le_of_ble_eq_true rfl) ⟨Nat.le_of_ble_eq_true rfl, Nat.le_of_ble_eq_true rfl⟩ (xX10_sheetAt p0 σ hq1) rfl ?_
    refine AX.astore (ls' := [(0, .ref (G.2.2.1 0)), (1, .int p0), (2, .int p1), (3, .int p2), (4, .int p3), (5, .ref (G.2.2.1 k2))]) dX10_put_5 (Nat.le_of_ble_eq_true rfl) rfl ?_
    refine AX.aload dX10_put_7 5 rfl ?_
    refine AX.ifnull_ref dX10_put_9 ?_
    refine AX.iload_n dX10_put_12 2 rfl rfl ?_
    refine AX.iconst dX10_put_13 ic_0 ?_
    refine AX.iconst dX10_put_14 ic_2 ?_
    obtain ⟨q4, hq4, hz⟩ := obind hz
    refine AX.callSw (As := [.int p1, .int 0, .int 2]) (rest := []) (w := some (.int q4)) (st' := [.int q4]) dX10_put_15 mlRX10_94 ylX10_within ysX10_within rfl rfl (Nat.le_of_ble_eq_true rfl) ⟨Nat.le_of_ble_eq_true rfl, Nat.le_of_ble_eq_true rfl⟩ (xX10_within p1 (0 : Int32) (2 : Int32) σ hq4) rfl ?_
    refine AX.if_ne (tgt := 24) dX10_put_18 rfl (fun c5 => ?_) (fun c5 => ?_)
    · replace hz := (if_neg c5).symm.trans hz
      refine AX.aload dX10_put_24 5 rfl ?_
      refine AX.iload_n dX10_put_26 2 rfl rfl ?_
      refine AX.iload_n dX10_put_27 3 rfl rfl ?_
      obtain ⟨q6, hq6, hz⟩ := obind hz
      refine AX.callVw (r := k2) (As := [.int p1, .int p2]) (rest := []) (w := some (.int q6)) (st' := [.int q6]) dX10_put_28 mlRX10_277 ylX7_findingAt yvX7_findingAt (isS_tw hs3) rfl rfl (Nat.le_of_ble_eq_true rfl) ⟨Nat.le_of_ble_eq_true rfl, Nat.le_of_ble_eq_true rfl⟩ (xX7_findingAt k2 p1 p2 σ hq6) rfl ?_
      refine AX.istore (ls' := [(0, .ref (G.2.2.1 0)), (1, .int p0), (2, .int p1), (3, .int p2), (4, .int p3), (5, .ref (G.2.2.1 k2)), (6, .int q6)]) dX10_put_31 (Nat.le_of_ble_eq_true rfl) rfl ?_
      refine AX.iload dX10_put_33 6 rfl ?_
      refine AX.if_eq (tgt := 45) dX10_put_35 rfl (fun c7 => ?_) (fun c7 => ?_)
      · replace hz := (if_pos c7).symm.trans hz
        refine AX.aload dX10_put_45 5 rfl ?_
        refine AX.iload_n dX10_put_47 3 rfl rfl ?_
        refine AX.iload dX10_put_48 4 rfl ?_
        obtain ⟨q8, hq8, hz⟩ := obind hz
        refine AX.callVw (r := k2) (As := [.int p2, .int p3]) (rest := []) (w := none) (st' := []) dX10_put_50 mlRX10_280 ylX7_become yvX7_become (isS_tw hs3) rfl rfl (Nat.le_of_ble_eq_true rfl) ⟨Nat.le_of_ble_eq_true rfl, Nat.le_of_ble_eq_true rfl⟩ (xX7_become k2 p2 p3 σ hq8) rfl ?_
        refine AX.iconst dX10_put_53 ic_1 ?_
        exact AX.ireturn dX10_put_54 rfl (vp_nar_int _) (kz (P := fun z => Q (some (.int z.1)) z.2) hz hk)
      · replace hz := (if_neg c7).symm.trans hz
        refine AX.aload_n dX10_put_38 0 rfl rfl ?_
        refine AX.iload dX10_put_39 6 rfl ?_
        obtain ⟨q9, hq9, hz⟩ := obind hz
        refine AX.callVw (r := 0) (As := [.int q6]) (rest := []) (w := some (.int q9.1)) (st' := [.int q9.1]) dX10_put_41 mlRX10_151 ylX10_found yvX10_found rfl rfl rfl (Nat.le_of_ble_eq_true rfl) ⟨Nat.le_of_ble_eq_true rfl, Nat.le_of_ble_eq_true rfl⟩ (xX10_found q6 σ hq9) rfl ?_
        exact AX.ireturn dX10_put_44 rfl (vp_nar_int _) (kz (P := fun z => Q (some (.int z.1)) z.2) hz hk)
    · replace hz := (if_pos c5).symm.trans hz
      exact AX.sub (ls' := []) [] rfl (wfX10_put_j21  σ hz hk)
theorem xX10_put {G : ag_G} (p0 : Int32) (p1 : Int32) (p2 : Int32) (p3 : Int32) (σ : St) {z : Int32 × St} (hz : fX10_put p0 p1 p2 p3 σ = some z) : AC G yX10_put mX10_put 2 44 [.ref (G.2.2.1 0), .int p0, .int p1, .int p2, .int p3] σ (fun v σ1 => v = some (.int z.1) ∧ σ1 = z.2) := AC.of (plainFor_of_name (by decide)) rfl (Nat.le_of_ble_eq_true rfl) (wfX10_put p0 p1 p2 p3 σ hz ⟨rfl, rfl⟩)
noncomputable def fX10_get_j21  (σ : St) : Option (Int32 × St) :=
  some ((-2147483648 : Int32), σ)
theorem wfX10_get_j21 {G : ag_G}  (σ : St) {z : Int32 × St} (hz : fX10_get_j21  σ = some z) {Q : Option Value → St → Prop} (hk : Q (some (.int z.1)) z.2) : AX G mX10_get 2 44 21 [] [] σ Q := by
  unfold fX10_get_j21 at hz
  refine AX.ldcw dX10_get_21 kcRX10_281 ?_
  exact AX.ireturn dX10_get_24 rfl (vp_nar_int _) (kz (P := fun z => Q (some (.int z.1)) z.2) hz hk)
noncomputable def fX10_get (p0 : Int32) (p1 : Int32) (p2 : Int32) (σ : St) : Option (Int32 × St) :=
  (fX10_sheetAt p0 σ).bind fun q1 => Option.elim q1 (fX10_get_j21  σ) (fun k2 => if isS k2 = true then (fX10_within p1 (0 : Int32) (2 : Int32)).bind fun q4 => if q4 = (0 : Int32) then fX10_get_j21  σ else (fX7_findingAt k2 p1 p2 σ).bind fun q6 => if q6 = (0 : Int32) then (fX7_itemOf k2 p2 σ).bind fun q8 => some (q8, σ) else some ((-2147483648 : Int32), (sI σ 0 12 q6)) else none)
theorem wfX10_get {G : ag_G} (p0 : Int32) (p1 : Int32) (p2 : Int32) (σ : St) {z : Int32 × St} (hz : fX10_get p0 p1 p2 σ = some z) {Q : Option Value → St → Prop} (hk : Q (some (.int z.1)) z.2) : AX G mX10_get 2 44 0 [(0, .ref (G.2.2.1 0)), (1, .int p0), (2, .int p1), (3, .int p2)] [] σ Q := by
  unfold fX10_get at hz
  refine AX.aload_n dX10_get_0 0 rfl rfl ?_
  refine AX.iload_n dX10_get_1 1 rfl rfl ?_
  obtain ⟨q1, hq1, hz⟩ := obind hz
  rcases q1 with _ | k2
  · dsimp only [Option.elim] at hz
    refine AX.callVw (r := 0) (As := [.int p0]) (rest := []) (w := some .null) (st' := [.null]) dX10_get_2 mlRX10_144 ylX10_sheetAt yvX10_sheetAt rfl rfl rfl (Nat.le_of_ble_eq_true rfl) ⟨Nat.le_of_ble_eq_true rfl, Nat.le_of_ble_eq_true rfl⟩ (xX10_sheetAt p0 σ hq1) rfl ?_
    refine AX.astoreN (ls' := [(0, .ref (G.2.2.1 0)), (1, .int p0), (2, .int p1), (3, .int p2), (4, .null)]) dX10_get_5 (Nat.le_of_ble_eq_true rfl) rfl ?_
    refine AX.aloadN dX10_get_7 4 rfl ?_
    refine AX.ifnull_null (tgt := 21) dX10_get_9 rfl ?_
    exact AX.sub (ls' := []) [] rfl (wfX10_get_j21  σ hz hk)
  · dsimp only [Option.elim] at hz
    obtain ⟨hs3, hz⟩ := ite_n hz
    refine AX.callVw (r := 0) (As := [.int p0]) (rest := []) (w := some (.ref (G.2.2.1 k2))) (st' := [.ref (G.2.2.1 k2)]) dX10_get_2 mlRX10_144 ylX10_sheetAt yvX10_sheetAt rfl rfl rfl (Nat.le_of_ble_eq_true rfl) ⟨Nat.le_of_ble_eq_true rfl, Nat.le_of_ble_eq_true rfl⟩ (xX10_sheetAt p0 σ hq1) rfl ?_
    refine AX.astore (ls' := [(0, .ref (G.2.2.1 0)), (1, .int p0), (2, .int p1), (3, .int p2), (4, .ref (G.2.2.1 k2))]) dX10_get_5 (Nat.le_of_ble_eq_true rfl) rfl ?_
    refine AX.aload dX10_get_7 4 rfl ?_
    refine AX.ifnull_ref dX10_get_9 ?_
    refine AX.iload_n dX10_get_12 2 rfl rfl ?_
    refine AX.iconst dX10_get_13 ic_0 ?_
    refine AX.iconst dX10_get_14 ic_2 ?_
    obtain ⟨q4, hq4, hz⟩ := obind hz
    refine AX.callSw (As := [.int p1, .int 0, .int 2]) (rest := []) (w := some (.int q4)) (st' := [.int q4]) dX10_get_15 mlRX10_94 ylX10_within ysX10_within rfl rfl (Nat.le_of_ble_eq_true rfl) ⟨Nat.le_of_ble_eq_true rfl, Nat.le_of_ble_eq_true rfl⟩ (xX10_within p1 (0 : Int32) (2 : Int32) σ hq4) rfl ?_
    refine AX.if_ne (tgt := 25) dX10_get_18 rfl (fun c5 => ?_) (fun c5 => ?_)
    · replace hz := (if_neg c5).symm.trans hz
      refine AX.aload dX10_get_25 4 rfl ?_
      refine AX.iload_n dX10_get_27 2 rfl rfl ?_
      refine AX.iload_n dX10_get_28 3 rfl rfl ?_
      obtain ⟨q6, hq6, hz⟩ := obind hz
      refine AX.callVw (r := k2) (As := [.int p1, .int p2]) (rest := []) (w := some (.int q6)) (st' := [.int q6]) dX10_get_29 mlRX10_277 ylX7_findingAt yvX7_findingAt (isS_tw hs3) rfl rfl (Nat.le_of_ble_eq_true rfl) ⟨Nat.le_of_ble_eq_true rfl, Nat.le_of_ble_eq_true rfl⟩ (xX7_findingAt k2 p1 p2 σ hq6) rfl ?_
      refine AX.istore (ls' := [(0, .ref (G.2.2.1 0)), (1, .int p0), (2, .int p1), (3, .int p2), (4, .ref (G.2.2.1 k2)), (5, .int q6)]) dX10_get_32 (Nat.le_of_ble_eq_true rfl) rfl ?_
      refine AX.iload dX10_get_34 5 rfl ?_
      refine AX.if_eq (tgt := 49) dX10_get_36 rfl (fun c7 => ?_) (fun c7 => ?_)
      · replace hz := (if_pos c7).symm.trans hz
        refine AX.aload dX10_get_49 4 rfl ?_
        refine AX.iload_n dX10_get_51 3 rfl rfl ?_
        obtain ⟨q8, hq8, hz⟩ := obind hz
        refine AX.callVw (r := k2) (As := [.int p2]) (rest := []) (w := some (.int q8)) (st' := [.int q8]) dX10_get_52 mlRX10_158 ylX7_itemOf yvX7_itemOf (isS_tw hs3) rfl rfl (Nat.le_of_ble_eq_true rfl) ⟨Nat.le_of_ble_eq_true rfl, Nat.le_of_ble_eq_true rfl⟩ (xX7_itemOf k2 p2 σ hq8) rfl ?_
        exact AX.ireturn dX10_get_55 rfl (vp_nar_int _) (kz (P := fun z => Q (some (.int z.1)) z.2) hz hk)
      · replace hz := (if_neg c7).symm.trans hz
        refine AX.aload_n dX10_get_39 0 rfl rfl ?_
        refine AX.iload dX10_get_40 5 rfl ?_
        refine AX.putI dX10_get_42 fpRX10_90 rfl rfl (vp_nar_int _) rfl ?_
        refine AX.ldcw dX10_get_45 kcRX10_281 ?_
        exact AX.ireturn dX10_get_48 rfl (vp_nar_int _) (kz (P := fun z => Q (some (.int z.1)) z.2) hz hk)
    · replace hz := (if_pos c5).symm.trans hz
      exact AX.sub (ls' := []) [] rfl (wfX10_get_j21  σ hz hk)
theorem xX10_get {G : ag_G} (p0 : Int32) (p1 : Int32) (p2 : Int32) (σ : St) {z : Int32 × St} (hz : fX10_get p0 p1 p2 σ = some z) : AC G yX10_get mX10_get 2 44 [.ref (G.2.2.1 0), .int p0, .int p1, .int p2] σ (fun v σ1 => v = some (.int z.1) ∧ σ1 = z.2) := AC.of (plainFor_of_name (by decide)) rfl (Nat.le_of_ble_eq_true rfl) (wfX10_get p0 p1 p2 σ hz ⟨rfl, rfl⟩)
noncomputable def fX10_copy_j24  (σ : St) : Option (Int32 × St) :=
  some ((-2 : Int32), σ)
theorem wfX10_copy_j24 {G : ag_G}  (σ : St) {z : Int32 × St} (hz : fX10_copy_j24  σ = some z) {Q : Option Value → St → Prop} (hk : Q (some (.int z.1)) z.2) : AX G mX10_copy 1 26 24 [] [] σ Q := by
  unfold fX10_copy_j24 at hz
  refine AX.bipush dX10_copy_24 bp_m2 ?_
  exact AX.ireturn dX10_copy_26 rfl (vp_nar_int _) (kz (P := fun z => Q (some (.int z.1)) z.2) hz hk)
noncomputable def fX10_copy_j43  (σ : St) : Option (Int32 × St) :=
  (fX10_found (1 : Int32) σ).bind fun q1 => some (q1.1, q1.2)
theorem wfX10_copy_j43 {G : ag_G}  (σ : St) {z : Int32 × St} (hz : fX10_copy_j43  σ = some z) {Q : Option Value → St → Prop} (hk : Q (some (.int z.1)) z.2) : AX G mX10_copy 1 26 43 [(0, .ref (G.2.2.1 0))] [] σ Q := by
  unfold fX10_copy_j43 at hz
  refine AX.aload_n dX10_copy_43 0 rfl rfl ?_
  refine AX.iconst dX10_copy_44 ic_1 ?_
  obtain ⟨q1, hq1, hz⟩ := obind hz
  refine AX.callVw (r := 0) (As := [.int 1]) (rest := []) (w := some (.int q1.1)) (st' := [.int q1.1]) dX10_copy_45 mlRX10_151 ylX10_found yvX10_found rfl rfl rfl (Nat.le_of_ble_eq_true rfl) ⟨Nat.le_of_ble_eq_true rfl, Nat.le_of_ble_eq_true rfl⟩ (xX10_found (1 : Int32) σ hq1) rfl ?_
  exact AX.ireturn dX10_copy_48 rfl (vp_nar_int _) (kz (P := fun z => Q (some (.int z.1)) z.2) hz hk)
noncomputable def fX10_copy_j91  (σ : St) : Option (Int32 × St) :=
  (fX10_found (2 : Int32) σ).bind fun q1 => some (q1.1, q1.2)
theorem wfX10_copy_j91 {G : ag_G}  (σ : St) {z : Int32 × St} (hz : fX10_copy_j91  σ = some z) {Q : Option Value → St → Prop} (hk : Q (some (.int z.1)) z.2) : AX G mX10_copy 1 26 91 [(0, .ref (G.2.2.1 0))] [] σ Q := by
  unfold fX10_copy_j91 at hz
  refine AX.aload_n dX10_copy_91 0 rfl rfl ?_
  refine AX.iconst dX10_copy_92 ic_2 ?_
  obtain ⟨q1, hq1, hz⟩ := obind hz
  refine AX.callVw (r := 0) (As := [.int 2]) (rest := []) (w := some (.int q1.1)) (st' := [.int q1.1]) dX10_copy_93 mlRX10_151 ylX10_found yvX10_found rfl rfl rfl (Nat.le_of_ble_eq_true rfl) ⟨Nat.le_of_ble_eq_true rfl, Nat.le_of_ble_eq_true rfl⟩ (xX10_found (2 : Int32) σ hq1) rfl ?_
  exact AX.ireturn dX10_copy_96 rfl (vp_nar_int _) (kz (P := fun z => Q (some (.int z.1)) z.2) hz hk)
noncomputable def fX10_copy (p0 : Int32) (p1 : Int32) (p2 : Int32) (p3 : Int32) (p4 : Int32) (σ : St) : Option (Int32 × St) :=
  (fX10_sheetAt p0 σ).bind fun q1 => Option.elim q1 ((fX10_sheetAt p2 σ).bind fun q4 => Option.elim q4 (fX10_copy_j24  σ) (fun k5 => if isS k5 = true then fX10_copy_j24  σ else none)) (fun k2 => if isS k2 = true then (fX10_sheetAt p2 σ).bind fun q7 => Option.elim q7 (fX10_copy_j24  σ) (fun k8 => if isS k8 = true then if (σ.1 k2 1) = (0 : Int32) then if (σ.1 k8 1) = (0 : Int32) then if (σ.1 k2 2) = (σ.1 k8 2) then (fX7_hasItems k2 p1 p4 σ).bind fun q13 => if q13 = (0 : Int32) then fX10_copy_j91  σ else (fX7_hasItems k8 p3 p4 σ).bind fun q15 => if q15 = (0 : Int32) then fX10_copy_j91  σ else if cpk p1 p3 p4 48 48 = true then some ((1 : Int32), (rI σ (k8 + 1) (va_cpy (σ.1 (k2 + 1)) (σ.1 (k8 + 1)) p1.toNatClampNeg p3.toNatClampNeg p4.toNatClampNeg))) else none else (fX10_found (4 : Int32) σ).bind fun q18 => some (q18.1, q18.2) else fX10_copy_j43  σ else fX10_copy_j43  σ else none) else none)
theorem wfX10_copy {G : ag_G} (p0 : Int32) (p1 : Int32) (p2 : Int32) (p3 : Int32) (p4 : Int32) (σ : St) {z : Int32 × St} (hz : fX10_copy p0 p1 p2 p3 p4 σ = some z) {Q : Option Value → St → Prop} (hk : Q (some (.int z.1)) z.2) : AX G mX10_copy 1 26 0 [(0, .ref (G.2.2.1 0)), (1, .int p0), (2, .int p1), (3, .int p2), (4, .int p3), (5, .int p4)] [] σ Q := by
  unfold fX10_copy at hz
  refine AX.aload_n dX10_copy_0 0 rfl rfl ?_
  refine AX.iload_n dX10_copy_1 1 rfl rfl ?_
  obtain ⟨q1, hq1, hz⟩ := obind hz
  rcases q1 with _ | k2
  · dsimp only [Option.elim] at hz
    refine AX.callVw (r := 0) (As := [.int p0]) (rest := []) (w := some .null) (st' := [.null]) dX10_copy_2 mlRX10_144 ylX10_sheetAt yvX10_sheetAt rfl rfl rfl (Nat.le_of_ble_eq_true rfl) ⟨Nat.le_of_ble_eq_true rfl, Nat.le_of_ble_eq_true rfl⟩ (xX10_sheetAt p0 σ hq1) rfl ?_
    refine AX.astoreN (ls' := [(0, .ref (G.2.2.1 0)), (1, .int p0), (2, .int p1), (3, .int p2), (4, .int p3), (5, .int p4), (6, .null)]) dX10_copy_5 (Nat.le_of_ble_eq_true rfl) rfl ?_
    refine AX.aload_n dX10_copy_7 0 rfl rfl ?_
    refine AX.iload_n dX10_copy_8 3 rfl rfl ?_
    obtain ⟨q4, hq4, hz⟩ := obind hz
    rcases q4 with _ | k5
    · dsimp only [Option.elim] at hz
      refine AX.callVw (r := 0) (As := [.int p2]) (rest := []) (w := some .null) (st' := [.null]) dX10_copy_9 mlRX10_144 ylX10_sheetAt yvX10_sheetAt rfl rfl rfl (Nat.le_of_ble_eq_true rfl) ⟨Nat.le_of_ble_eq_true rfl, Nat.le_of_ble_eq_true rfl⟩ (xX10_sheetAt p2 σ hq4) rfl ?_
      refine AX.astoreN (ls' := [(0, .ref (G.2.2.1 0)), (1, .int p0), (2, .int p1), (3, .int p2), (4, .int p3), (5, .int p4), (6, .null), (7, .null)]) dX10_copy_12 (Nat.le_of_ble_eq_true rfl) rfl ?_
      refine AX.aloadN dX10_copy_14 6 rfl ?_
      refine AX.ifnull_null (tgt := 24) dX10_copy_16 rfl ?_
      exact AX.sub (ls' := []) [] rfl (wfX10_copy_j24  σ hz hk)
    · dsimp only [Option.elim] at hz
      obtain ⟨hs6, hz⟩ := ite_n hz
      refine AX.callVw (r := 0) (As := [.int p2]) (rest := []) (w := some (.ref (G.2.2.1 k5))) (st' := [.ref (G.2.2.1 k5)]) dX10_copy_9 mlRX10_144 ylX10_sheetAt yvX10_sheetAt rfl rfl rfl (Nat.le_of_ble_eq_true rfl) ⟨Nat.le_of_ble_eq_true rfl, Nat.le_of_ble_eq_true rfl⟩ (xX10_sheetAt p2 σ hq4) rfl ?_
      refine AX.astore (ls' := [(0, .ref (G.2.2.1 0)), (1, .int p0), (2, .int p1), (3, .int p2), (4, .int p3), (5, .int p4), (6, .null), (7, .ref (G.2.2.1 k5))]) dX10_copy_12 (Nat.le_of_ble_eq_true rfl) rfl ?_
      refine AX.aloadN dX10_copy_14 6 rfl ?_
      refine AX.ifnull_null (tgt := 24) dX10_copy_16 rfl ?_
      exact AX.sub (ls' := []) [] rfl (wfX10_copy_j24  σ hz hk)
  · dsimp only [Option.elim] at hz
    obtain ⟨hs3, hz⟩ := ite_n hz
    refine AX.callVw (r := 0) (As := [.int p0]) (rest := []) (w := some (.ref (G.2.2.1 k2))) (st' := [.ref (G.2.2.1 k2)]) dX10_copy_2 mlRX10_144 ylX10_sheetAt yvX10_sheetAt rfl rfl rfl (Nat.le_of_ble_eq_true rfl) ⟨Nat.le_of_ble_eq_true rfl, Nat.le_of_ble_eq_true rfl⟩ (xX10_sheetAt p0 σ hq1) rfl ?_
    refine AX.astore (ls' := [(0, .ref (G.2.2.1 0)), (1, .int p0), (2, .int p1), (3, .int p2), (4, .int p3), (5, .int p4), (6, .ref (G.2.2.1 k2))]) dX10_copy_5 (Nat.le_of_ble_eq_true rfl) rfl ?_
    refine AX.aload_n dX10_copy_7 0 rfl rfl ?_
    refine AX.iload_n dX10_copy_8 3 rfl rfl ?_
    obtain ⟨q7, hq7, hz⟩ := obind hz
    rcases q7 with _ | k8
    · dsimp only [Option.elim] at hz
      refine AX.callVw (r := 0) (As := [.int p2]) (rest := []) (w := some .null) (st' := [.null]) dX10_copy_9 mlRX10_144 ylX10_sheetAt yvX10_sheetAt rfl rfl rfl (Nat.le_of_ble_eq_true rfl) ⟨Nat.le_of_ble_eq_true rfl, Nat.le_of_ble_eq_true rfl⟩ (xX10_sheetAt p2 σ hq7) rfl ?_
      refine AX.astoreN (ls' := [(0, .ref (G.2.2.1 0)), (1, .int p0), (2, .int p1), (3, .int p2), (4, .int p3), (5, .int p4), (6, .ref (G.2.2.1 k2)), (7, .null)]) dX10_copy_12 (Nat.le_of_ble_eq_true rfl) rfl ?_
      refine AX.aload dX10_copy_14 6 rfl ?_
      refine AX.ifnull_ref dX10_copy_16 ?_
      refine AX.aloadN dX10_copy_19 7 rfl ?_
      refine AX.ifnonnull_null dX10_copy_21 ?_
      exact AX.sub (ls' := []) [] rfl (wfX10_copy_j24  σ hz hk)
    · dsimp only [Option.elim] at hz
      obtain ⟨hs9, hz⟩ := ite_n hz
      refine AX.callVw (r := 0) (As := [.int p2]) (rest := []) (w := some (.ref (G.2.2.1 k8))) (st' := [.ref (G.2.2.1 k8)]) dX10_copy_9 mlRX10_144 ylX10_sheetAt yvX10_sheetAt rfl rfl rfl (Nat.le_of_ble_eq_true rfl) ⟨Nat.le_of_ble_eq_true rfl, Nat.le_of_ble_eq_true rfl⟩ (xX10_sheetAt p2 σ hq7) rfl ?_
      refine AX.astore (ls' := [(0, .ref (G.2.2.1 0)), (1, .int p0), (2, .int p1), (3, .int p2), (4, .int p3), (5, .int p4), (6, .ref (G.2.2.1 k2)), (7, .ref (G.2.2.1 k8))]) dX10_copy_12 (Nat.le_of_ble_eq_true rfl) rfl ?_
      refine AX.aload dX10_copy_14 6 rfl ?_
      refine AX.ifnull_ref dX10_copy_16 ?_
      refine AX.aload dX10_copy_19 7 rfl ?_
      refine AX.ifnonnull_ref (tgt := 27) dX10_copy_21 rfl ?_
      refine AX.aload dX10_copy_27 6 rfl ?_
      refine AX.getIE (v := σ.1 k2 1) dX10_copy_29 flRX10_148 (isS_tw hs3) rfl rfl ?_
      refine AX.if_ne (tgt := 43) dX10_copy_32 rfl (fun c10 => ?_) (fun c10 => ?_)
      · replace hz := (if_neg c10).symm.trans hz
        exact AX.sub (ls' := [(0, .ref (G.2.2.1 0))]) [0] rfl (wfX10_copy_j43  σ hz hk)
      · replace hz := (if_pos c10).symm.trans hz
        refine AX.aload dX10_copy_35 7 rfl ?_
        refine AX.getIE (v := σ.1 k8 1) dX10_copy_37 flRX10_148 (isS_tw hs9) rfl rfl ?_
        refine AX.if_eq (tgt := 49) dX10_copy_40 rfl (fun c11 => ?_) (fun c11 => ?_)
        · replace hz := (if_pos c11).symm.trans hz
          refine AX.aload dX10_copy_49 6 rfl ?_
          refine AX.getIE (v := σ.1 k2 2) dX10_copy_51 flRX10_282 (isS_tw hs3) rfl rfl ?_
          refine AX.aload dX10_copy_54 7 rfl ?_
          refine AX.getIE (v := σ.1 k8 2) dX10_copy_56 flRX10_282 (isS_tw hs9) rfl rfl ?_
          refine AX.icmp_eq (tgt := 68) dX10_copy_59 rfl (fun c12 => ?_) (fun c12 => ?_)
          · replace hz := (if_pos c12).symm.trans hz
            refine AX.aload dX10_copy_68 6 rfl ?_
            refine AX.iload_n dX10_copy_70 2 rfl rfl ?_
            refine AX.iload dX10_copy_71 5 rfl ?_
            obtain ⟨q13, hq13, hz⟩ := obind hz
            refine AX.callVw (r := k2) (As := [.int p1, .int p4]) (rest := []) (w := some (.int q13)) (st' := [.int q13]) dX10_copy_73 mlRX10_285 ylX7_hasItems yvX7_hasItems (isS_tw hs3) rfl rfl (Nat.le_of_ble_eq_true rfl) ⟨Nat.le_of_ble_eq_true rfl, Nat.le_of_ble_eq_true rfl⟩ (xX7_hasItems k2 p1 p4 σ hq13) rfl ?_
            refine AX.if_eq (tgt := 91) dX10_copy_76 rfl (fun c14 => ?_) (fun c14 => ?_)
            · replace hz := (if_pos c14).symm.trans hz
              exact AX.sub (ls' := [(0, .ref (G.2.2.1 0))]) [0] rfl (wfX10_copy_j91  σ hz hk)
            · replace hz := (if_neg c14).symm.trans hz
              refine AX.aload dX10_copy_79 7 rfl ?_
              refine AX.iload dX10_copy_81 4 rfl ?_
              refine AX.iload dX10_copy_83 5 rfl ?_
              obtain ⟨q15, hq15, hz⟩ := obind hz
              refine AX.callVw (r := k8) (As := [.int p3, .int p4]) (rest := []) (w := some (.int q15)) (st' := [.int q15]) dX10_copy_85 mlRX10_285 ylX7_hasItems yvX7_hasItems (isS_tw hs9) rfl rfl (Nat.le_of_ble_eq_true rfl) ⟨Nat.le_of_ble_eq_true rfl, Nat.le_of_ble_eq_true rfl⟩ (xX7_hasItems k8 p3 p4 σ hq15) rfl ?_
              refine AX.if_ne (tgt := 97) dX10_copy_88 rfl (fun c16 => ?_) (fun c16 => ?_)
              · replace hz := (if_neg c16).symm.trans hz
                refine AX.aload dX10_copy_97 6 rfl ?_
                refine AX.getR dX10_copy_99 flRX10_288 (isS_tw hs3) rfl ?_
                refine AX.iload_n dX10_copy_102 2 rfl rfl ?_
                refine AX.aload dX10_copy_103 7 rfl ?_
                refine AX.getR dX10_copy_105 flRX10_288 (isS_tw hs9) rfl ?_
                refine AX.iload dX10_copy_108 4 rfl ?_
                refine AX.iload dX10_copy_110 5 rfl ?_
                obtain ⟨b17, hz⟩ := ite_n hz
                refine AX.copyI (n0 := 48) (n1 := 48) dX10_copy_112 acRX10_292 (isS_wi hs3) (isS_wi hs9) b17 (Nat.le_of_ble_eq_true rfl) ⟨Nat.le_of_ble_eq_true rfl, Nat.le_of_ble_eq_true rfl⟩ ?_
                refine AX.iconst dX10_copy_115 ic_1 ?_
                exact AX.ireturn dX10_copy_116 rfl (vp_nar_int _) (kz (P := fun z => Q (some (.int z.1)) z.2) hz hk)
              · replace hz := (if_pos c16).symm.trans hz
                exact AX.sub (ls' := [(0, .ref (G.2.2.1 0))]) [0] rfl (wfX10_copy_j91  σ hz hk)
          · replace hz := (if_neg c12).symm.trans hz
            refine AX.aload_n dX10_copy_62 0 rfl rfl ?_
            refine AX.iconst dX10_copy_63 ic_4 ?_
            obtain ⟨q18, hq18, hz⟩ := obind hz
            refine AX.callVw (r := 0) (As := [.int 4]) (rest := []) (w := some (.int q18.1)) (st' := [.int q18.1]) dX10_copy_64 mlRX10_151 ylX10_found yvX10_found rfl rfl rfl (Nat.le_of_ble_eq_true rfl) ⟨Nat.le_of_ble_eq_true rfl, Nat.le_of_ble_eq_true rfl⟩ (xX10_found (4 : Int32) σ hq18) rfl ?_
            exact AX.ireturn dX10_copy_67 rfl (vp_nar_int _) (kz (P := fun z => Q (some (.int z.1)) z.2) hz hk)
        · replace hz := (if_neg c11).symm.trans hz
          exact AX.sub (ls' := [(0, .ref (G.2.2.1 0))]) [0] rfl (wfX10_copy_j43  σ hz hk)
theorem xX10_copy {G : ag_G} (p0 : Int32) (p1 : Int32) (p2 : Int32) (p3 : Int32) (p4 : Int32) (σ : St) {z : Int32 × St} (hz : fX10_copy p0 p1 p2 p3 p4 σ = some z) : AC G yX10_copy mX10_copy 1 26 [.ref (G.2.2.1 0), .int p0, .int p1, .int p2, .int p3, .int p4] σ (fun v σ1 => v = some (.int z.1) ∧ σ1 = z.2) := AC.of (plainFor_of_name (by decide)) rfl (Nat.le_of_ble_eq_true rfl) (wfX10_copy p0 p1 p2 p3 p4 σ hz ⟨rfl, rfl⟩)
noncomputable def fX10_tell_b44 (l2 : Nat) (l3 : Int32) (l4 : Int32) (σ : St) : Option ((Int32 × St) ⊕ St) :=
  if isS l2 = true then if l3 ≤ l4 then some (.inr σ) else (fX4_kindOf l4 σ).bind fun q2 => (fX7_become l2 l4 q2 σ).bind fun q3 => some (.inl (l4 + 1, q3)) else none
theorem wfX10_tell_b44 {G : ag_G} (l2 : Nat) (l3 : Int32) (l4 : Int32) (σ : St) {z : (Int32 × St) ⊕ St} (hz : fX10_tell_b44 l2 l3 l4 σ = some z) {Q : Option Value → St → Prop} (K : ((Int32 × St) ⊕ St) → Prop) (hback : ∀ a : Int32 × St, K (.inl a) → AX G mX10_tell 2 42 44 [(0, .ref (G.2.2.1 0)), (2, .ref (G.2.2.1 l2)), (3, .int l3), (4, .int a.1)] [] a.2 Q) (hexit0 : ∀ a : St, K (.inr a) → AX G mX10_tell 2 42 71 [(3, .int l3)] [] a Q) (hk : K z) : AX G mX10_tell 2 42 44 [(0, .ref (G.2.2.1 0)), (2, .ref (G.2.2.1 l2)), (3, .int l3), (4, .int l4)] [] σ Q := by
  unfold fX10_tell_b44 at hz
  obtain ⟨hr2, hz⟩ := ite_n hz
  refine AX.iload dX10_tell_44 3 rfl ?_
  refine AX.iload_n dX10_tell_46 2 rfl rfl ?_
  refine AX.icmp_ge (tgt := 71) dX10_tell_47 rfl (fun c1 => ?_) (fun c1 => ?_)
  · replace hz := (if_pos c1).symm.trans hz
    exact AX.sub (ls' := [(3, .int l3)]) [2] rfl (hexit0 σ (kz (P := K) hz hk))
  · replace hz := (if_neg c1).symm.trans hz
    refine AX.aload_n dX10_tell_50 1 rfl rfl ?_
    refine AX.iload dX10_tell_51 3 rfl ?_
    refine AX.aload_n dX10_tell_53 0 rfl rfl ?_
    refine AX.getR dX10_tell_54 flRX10_12 rfl rfl ?_
    refine AX.iload dX10_tell_57 3 rfl ?_
    obtain ⟨q2, hq2, hz⟩ := obind hz
    refine AX.callVw (r := 1) (As := [.int l4]) (rest := [.int l4, .ref (G.2.2.1 l2)]) (w := some (.int q2)) (st' := [.int q2, .int l4, .ref (G.2.2.1 l2)]) dX10_tell_59 mlRX10_115 ylX4_kindOf yvX4_kindOf rfl rfl rfl (Nat.le_of_ble_eq_true rfl) ⟨Nat.le_of_ble_eq_true rfl, Nat.le_of_ble_eq_true rfl⟩ (xX4_kindOf l4 σ hq2) rfl ?_
    obtain ⟨q3, hq3, hz⟩ := obind hz
    refine AX.callVw (r := l2) (As := [.int l4, .int q2]) (rest := []) (w := none) (st' := []) dX10_tell_62 mlRX10_280 ylX7_become yvX7_become (isS_tw hr2) rfl rfl (Nat.le_of_ble_eq_true rfl) ⟨Nat.le_of_ble_eq_true rfl, Nat.le_of_ble_eq_true rfl⟩ (xX7_become l2 l4 q2 σ hq3) rfl ?_
    refine AX.iinc (v := l4 + 1) (ls' := [(0, .ref (G.2.2.1 0)), (2, .ref (G.2.2.1 l2)), (3, .int l3), (4, .int (l4 + 1))]) 3 dX10_tell_65 rfl (Nat.le_of_ble_eq_true rfl) (congrArg (l4 + ·) ic_1) rfl ?_
    refine AX.goto (tgt := 44) dX10_tell_68 rfl ?_
    exact AX.sub (ls' := [(0, .ref (G.2.2.1 0)), (2, .ref (G.2.2.1 l2)), (3, .int l3), (4, .int (l4 + 1))]) [0, 1, 2, 3] rfl (hback (l4 + 1, q3) (kz (P := K) hz hk))
noncomputable def fX10_tell (p0 : Int32) (σ : St) : Option (Int32 × St) :=
  (fX10_sheetAt p0 σ).bind fun q1 => Option.elim q1 (some ((-2 : Int32), σ)) (fun k2 => if isS k2 = true then if (σ.1 k2 1) = (0 : Int32) then (fJ9_min_7cf53 (σ.1 k2 3) (σ.1 1 6)).bind fun q5 => (lpc (fun s => fX10_tell_b44 k2 q5 s.1 s.2) (0, σ)).bind fun r6 => some (q5, r6) else (fX10_found (1 : Int32) σ).bind fun q7 => some (q7.1, q7.2) else none)
theorem wfX10_tell {G : ag_G} (p0 : Int32) (σ : St) {z : Int32 × St} (hz : fX10_tell p0 σ = some z) {Q : Option Value → St → Prop} (hk : Q (some (.int z.1)) z.2) : AX G mX10_tell 2 42 0 [(0, .ref (G.2.2.1 0)), (1, .int p0)] [] σ Q := by
  unfold fX10_tell at hz
  refine AX.aload_n dX10_tell_0 0 rfl rfl ?_
  refine AX.iload_n dX10_tell_1 1 rfl rfl ?_
  obtain ⟨q1, hq1, hz⟩ := obind hz
  rcases q1 with _ | k2
  · dsimp only [Option.elim] at hz
    refine AX.callVw (r := 0) (As := [.int p0]) (rest := []) (w := some .null) (st' := [.null]) dX10_tell_2 mlRX10_144 ylX10_sheetAt yvX10_sheetAt rfl rfl rfl (Nat.le_of_ble_eq_true rfl) ⟨Nat.le_of_ble_eq_true rfl, Nat.le_of_ble_eq_true rfl⟩ (xX10_sheetAt p0 σ hq1) rfl ?_
    refine AX.astore_nN (ls' := [(0, .ref (G.2.2.1 0)), (1, .int p0), (2, .null)]) dX10_tell_5 rfl (Nat.le_of_ble_eq_true rfl) rfl ?_
    refine AX.aload_nN dX10_tell_6 2 rfl rfl ?_
    refine AX.ifnonnull_null dX10_tell_7 ?_
    refine AX.bipush dX10_tell_10 bp_m2 ?_
    exact AX.ireturn dX10_tell_12 rfl (vp_nar_int _) (kz (P := fun z => Q (some (.int z.1)) z.2) hz hk)
  · dsimp only [Option.elim] at hz
    obtain ⟨hs3, hz⟩ := ite_n hz
    refine AX.callVw (r := 0) (As := [.int p0]) (rest := []) (w := some (.ref (G.2.2.1 k2))) (st' := [.ref (G.2.2.1 k2)]) dX10_tell_2 mlRX10_144 ylX10_sheetAt yvX10_sheetAt rfl rfl rfl (Nat.le_of_ble_eq_true rfl) ⟨Nat.le_of_ble_eq_true rfl, Nat.le_of_ble_eq_true rfl⟩ (xX10_sheetAt p0 σ hq1) rfl ?_
    refine AX.astore_n (ls' := [(0, .ref (G.2.2.1 0)), (1, .int p0), (2, .ref (G.2.2.1 k2))]) dX10_tell_5 rfl (Nat.le_of_ble_eq_true rfl) rfl ?_
    refine AX.aload_n dX10_tell_6 2 rfl rfl ?_
    refine AX.ifnonnull_ref (tgt := 13) dX10_tell_7 rfl ?_
    refine AX.aload_n dX10_tell_13 2 rfl rfl ?_
    refine AX.getIE (v := σ.1 k2 1) dX10_tell_14 flRX10_148 (isS_tw hs3) rfl rfl ?_
    refine AX.if_eq (tgt := 26) dX10_tell_17 rfl (fun c4 => ?_) (fun c4 => ?_)
    · replace hz := (if_pos c4).symm.trans hz
      refine AX.aload_n dX10_tell_26 2 rfl rfl ?_
      refine AX.getIE (v := σ.1 k2 3) dX10_tell_27 flRX10_157 (isS_tw hs3) rfl rfl ?_
      refine AX.aload_n dX10_tell_30 0 rfl rfl ?_
      refine AX.getR dX10_tell_31 flRX10_12 rfl rfl ?_
      refine AX.getIE (v := σ.1 1 6) dX10_tell_34 flRX10_192 rfl rfl rfl ?_
      obtain ⟨q5, hq5, hz⟩ := obind hz
      refine AX.callSw (As := [.int (σ.1 k2 3), .int (σ.1 1 6)]) (rest := []) (w := some (.int q5)) (st' := [.int q5]) dX10_tell_37 mlRX10_222 ylJ9_min_7cf53 ysJ9_min_7cf53 rfl rfl (Nat.le_of_ble_eq_true rfl) ⟨Nat.le_of_ble_eq_true rfl, Nat.le_of_ble_eq_true rfl⟩ (xJ9_min_7cf53 (σ.1 k2 3) (σ.1 1 6) σ hq5) rfl ?_
      refine AX.istore_n (ls' := [(0, .ref (G.2.2.1 0)), (1, .int p0), (2, .ref (G.2.2.1 k2)), (3, .int q5)]) dX10_tell_40 rfl (Nat.le_of_ble_eq_true rfl) rfl ?_
      refine AX.iconst dX10_tell_41 ic_0 ?_
      refine AX.istore (ls' := [(0, .ref (G.2.2.1 0)), (1, .int p0), (2, .ref (G.2.2.1 k2)), (3, .int q5), (4, .int 0)]) dX10_tell_42 (Nat.le_of_ble_eq_true rfl) rfl ?_
      obtain ⟨r6, hr6, hz⟩ := obind hz
      refine AX.sub (ls' := [(0, .ref (G.2.2.1 0)), (2, .ref (G.2.2.1 k2)), (3, .int q5), (4, .int 0)]) [0, 2, 3, 4] rfl ?_
      refine lpc_ind (s := (0, σ)) (r := r6) (fun s => AX G mX10_tell 2 42 44 [(0, .ref (G.2.2.1 0)), (2, .ref (G.2.2.1 k2)), (3, .int q5), (4, .int s.1)] [] s.2 Q) (fun a : St => AX G mX10_tell 2 42 71 [(3, .int q5)] [] a Q) hr6 (fun s z hb hK => wfX10_tell_b44 k2 q5 s.1 s.2 hb (Sum.elim (fun s => AX G mX10_tell 2 42 44 [(0, .ref (G.2.2.1 0)), (2, .ref (G.2.2.1 k2)), (3, .int q5), (4, .int s.1)] [] s.2 Q) (fun a : St => AX G mX10_tell 2 42 71 [(3, .int q5)] [] a Q)) (fun _ h9 => h9) (fun _ h9 => h9) hK) ?_
      refine AX.iload_n dX10_tell_71 0 rfl rfl ?_
      exact AX.ireturn dX10_tell_72 rfl (vp_nar_int _) (kz (P := fun z => Q (some (.int z.1)) z.2) hz hk)
    · replace hz := (if_neg c4).symm.trans hz
      refine AX.aload_n dX10_tell_20 0 rfl rfl ?_
      refine AX.iconst dX10_tell_21 ic_1 ?_
      obtain ⟨q7, hq7, hz⟩ := obind hz
      refine AX.callVw (r := 0) (As := [.int 1]) (rest := []) (w := some (.int q7.1)) (st' := [.int q7.1]) dX10_tell_22 mlRX10_151 ylX10_found yvX10_found rfl rfl rfl (Nat.le_of_ble_eq_true rfl) ⟨Nat.le_of_ble_eq_true rfl, Nat.le_of_ble_eq_true rfl⟩ (xX10_found (1 : Int32) σ hq7) rfl ?_
      exact AX.ireturn dX10_tell_25 rfl (vp_nar_int _) (kz (P := fun z => Q (some (.int z.1)) z.2) hz hk)
theorem xX10_tell {G : ag_G} (p0 : Int32) (σ : St) {z : Int32 × St} (hz : fX10_tell p0 σ = some z) : AC G yX10_tell mX10_tell 2 42 [.ref (G.2.2.1 0), .int p0] σ (fun v σ1 => v = some (.int z.1) ∧ σ1 = z.2) := AC.of (plainFor_of_name (by decide)) rfl (Nat.le_of_ble_eq_true rfl) (wfX10_tell p0 σ hz ⟨rfl, rfl⟩)
noncomputable def fX10_count (p0 : Int32) (σ : St) : Option (Int32) :=
  if p0 = 0 then some (σ.1 1 6) else if p0 = 1 then some (σ.1 1 5) else if p0 = 2 then some (σ.1 1 7) else if p0 = 3 then some (σ.1 1 8) else if p0 = 4 then some (σ.1 15 3) else if p0 = 5 then some (σ.1 27 4) else if p0 = 6 then some (σ.1 32 1) else if p0 = 7 then (fX6_valueOf (0 : Int32) σ).bind fun q1 => some q1 else if p0 = 8 then some (σ.1 0 12) else some (-2 : Int32)
theorem wfX10_count {G : ag_G} (p0 : Int32) (σ : St) {z : Int32} (hz : fX10_count p0 σ = some z) {Q : Option Value → St → Prop} (hk : Q (some (.int z)) σ) : AX G mX10_count 1 21 0 [(0, .ref (G.2.2.1 0)), (1, .int p0)] [] σ Q := by
  unfold fX10_count at hz
  refine AX.iload_n dX10_count_0 1 rfl rfl ?_
  by_cases c0 : p0 = 0
  · replace hz := (if_pos c0).symm.trans hz
    refine AX.tableIn (tgt := 52) 0 dX10_count_1 (by rw [c0]; rfl) (by decide) rfl rfl ?_
    refine AX.aload_n dX10_count_52 0 rfl rfl ?_
    refine AX.getR dX10_count_53 flRX10_12 rfl rfl ?_
    refine AX.getIE (v := σ.1 1 6) dX10_count_56 flRX10_192 rfl rfl rfl ?_
    exact AX.ireturn dX10_count_59 rfl (vp_nar_int _) (kz (P := fun z => Q (some (.int z)) σ) hz hk)
  · replace hz := (if_neg c0).symm.trans hz
    by_cases c1 : p0 = 1
    · replace hz := (if_pos c1).symm.trans hz
      refine AX.tableIn (tgt := 60) 1 dX10_count_1 (by rw [c1]; rfl) (by decide) rfl rfl ?_
      refine AX.aload_n dX10_count_60 0 rfl rfl ?_
      refine AX.getR dX10_count_61 flRX10_12 rfl rfl ?_
      refine AX.getIE (v := σ.1 1 5) dX10_count_64 flRX10_102 rfl rfl rfl ?_
      exact AX.ireturn dX10_count_67 rfl (vp_nar_int _) (kz (P := fun z => Q (some (.int z)) σ) hz hk)
    · replace hz := (if_neg c1).symm.trans hz
      by_cases c2 : p0 = 2
      · replace hz := (if_pos c2).symm.trans hz
        refine AX.tableIn (tgt := 68) 2 dX10_count_1 (by rw [c2]; rfl) (by decide) rfl rfl ?_
        refine AX.aload_n dX10_count_68 0 rfl rfl ?_
        refine AX.getR dX10_count_69 flRX10_12 rfl rfl ?_
        refine AX.getIE (v := σ.1 1 7) dX10_count_72 flRX10_298 rfl rfl rfl ?_
        exact AX.ireturn dX10_count_75 rfl (vp_nar_int _) (kz (P := fun z => Q (some (.int z)) σ) hz hk)
      · replace hz := (if_neg c2).symm.trans hz
        by_cases c3 : p0 = 3
        · replace hz := (if_pos c3).symm.trans hz
          refine AX.tableIn (tgt := 76) 3 dX10_count_1 (by rw [c3]; rfl) (by decide) rfl rfl ?_
          refine AX.aload_n dX10_count_76 0 rfl rfl ?_
          refine AX.getR dX10_count_77 flRX10_12 rfl rfl ?_
          refine AX.getIE (v := σ.1 1 8) dX10_count_80 flRX10_211 rfl rfl rfl ?_
          exact AX.ireturn dX10_count_83 rfl (vp_nar_int _) (kz (P := fun z => Q (some (.int z)) σ) hz hk)
        · replace hz := (if_neg c3).symm.trans hz
          by_cases c4 : p0 = 4
          · replace hz := (if_pos c4).symm.trans hz
            refine AX.tableIn (tgt := 84) 4 dX10_count_1 (by rw [c4]; rfl) (by decide) rfl rfl ?_
            refine AX.aload_n dX10_count_84 0 rfl rfl ?_
            refine AX.getR dX10_count_85 flRX10_36 rfl rfl ?_
            refine AX.getIE (v := σ.1 15 3) dX10_count_88 flRX10_170 rfl rfl rfl ?_
            exact AX.ireturn dX10_count_91 rfl (vp_nar_int _) (kz (P := fun z => Q (some (.int z)) σ) hz hk)
          · replace hz := (if_neg c4).symm.trans hz
            by_cases c5 : p0 = 5
            · replace hz := (if_pos c5).symm.trans hz
              refine AX.tableIn (tgt := 92) 5 dX10_count_1 (by rw [c5]; rfl) (by decide) rfl rfl ?_
              refine AX.aload_n dX10_count_92 0 rfl rfl ?_
              refine AX.getR dX10_count_93 flRX10_61 rfl rfl ?_
              refine AX.getIE (v := σ.1 27 4) dX10_count_96 flRX10_245 rfl rfl rfl ?_
              exact AX.ireturn dX10_count_99 rfl (vp_nar_int _) (kz (P := fun z => Q (some (.int z)) σ) hz hk)
            · replace hz := (if_neg c5).symm.trans hz
              by_cases c6 : p0 = 6
              · replace hz := (if_pos c6).symm.trans hz
                refine AX.tableIn (tgt := 100) 6 dX10_count_1 (by rw [c6]; rfl) (by decide) rfl rfl ?_
                refine AX.aload_n dX10_count_100 0 rfl rfl ?_
                refine AX.getR dX10_count_101 flRX10_68 rfl rfl ?_
                refine AX.getIE (v := σ.1 32 1) dX10_count_104 flRX10_165 rfl rfl rfl ?_
                exact AX.ireturn dX10_count_107 rfl (vp_nar_int _) (kz (P := fun z => Q (some (.int z)) σ) hz hk)
              · replace hz := (if_neg c6).symm.trans hz
                by_cases c7 : p0 = 7
                · replace hz := (if_pos c7).symm.trans hz
                  refine AX.tableIn (tgt := 108) 7 dX10_count_1 (by rw [c7]; rfl) (by decide) rfl rfl ?_
                  refine AX.aload_n dX10_count_108 0 rfl rfl ?_
                  refine AX.getR dX10_count_109 flRX10_19 rfl rfl ?_
                  refine AX.iconst dX10_count_112 ic_0 ?_
                  obtain ⟨q1, hq1, hz⟩ := obind hz
                  refine AX.callVw (r := 7) (As := [.int 0]) (rest := []) (w := some (.int q1)) (st' := [.int q1]) dX10_count_113 mlRX10_138 ylX6_valueOf yvX6_valueOf rfl rfl rfl (Nat.le_of_ble_eq_true rfl) ⟨Nat.le_of_ble_eq_true rfl, Nat.le_of_ble_eq_true rfl⟩ (xX6_valueOf (0 : Int32) σ hq1) rfl ?_
                  exact AX.ireturn dX10_count_116 rfl (vp_nar_int _) (kz (P := fun z => Q (some (.int z)) σ) hz hk)
                · replace hz := (if_neg c7).symm.trans hz
                  by_cases c8 : p0 = 8
                  · replace hz := (if_pos c8).symm.trans hz
                    refine AX.tableIn (tgt := 117) 8 dX10_count_1 (by rw [c8]; rfl) (by decide) rfl rfl ?_
                    refine AX.aload_n dX10_count_117 0 rfl rfl ?_
                    refine AX.getIE (v := σ.1 0 12) dX10_count_118 flRX10_90 rfl rfl rfl ?_
                    exact AX.ireturn dX10_count_121 rfl (vp_nar_int _) (kz (P := fun z => Q (some (.int z)) σ) hz hk)
                  · replace hz := (if_neg c8).symm.trans hz
                    have e0 := lv_neT c0 (a := 0) rfl
                    have e1 := lv_neT c1 (a := 1) rfl
                    have e2 := lv_neT c2 (a := 2) rfl
                    have e3 := lv_neT c3 (a := 3) rfl
                    have e4 := lv_neT c4 (a := 4) rfl
                    have e5 := lv_neT c5 (a := 5) rfl
                    have e6 := lv_neT c6 (a := 6) rfl
                    have e7 := lv_neT c7 (a := 7) rfl
                    have e8 := lv_neT c8 (a := 8) rfl
                    refine AX.tableOut (tgt := 122) dX10_count_1 (by omega) rfl ?_
                    refine AX.bipush dX10_count_122 bp_m2 ?_
                    exact AX.ireturn dX10_count_124 rfl (vp_nar_int _) (kz (P := fun z => Q (some (.int z)) σ) hz hk)
theorem xX10_count {G : ag_G} (p0 : Int32) (σ : St) {z : Int32} (hz : fX10_count p0 σ = some z) : AC G yX10_count mX10_count 1 21 [.ref (G.2.2.1 0), .int p0] σ (fun v σ1 => v = some (.int z) ∧ σ1 = σ) := AC.of (plainFor_of_name (by decide)) rfl (Nat.le_of_ble_eq_true rfl) (wfX10_count p0 σ hz ⟨rfl, rfl⟩)
noncomputable def fX10_mixed (p0 : Int64) (p1 : Int64) : Option (Int64) :=
  some (((31 : Int64) * p0) + p1)
theorem wfX10_mixed {G : ag_G} (p0 : Int64) (p1 : Int64) (σ : St) {z : Int64} (hz : fX10_mixed p0 p1 = some z) {Q : Option Value → St → Prop} (hk : Q (some (.long z)) σ) : AX G mX10_mixed 0 0 0 [(0, .long p0), (2, .long p1)] [] σ Q := by
  unfold fX10_mixed at hz
  refine AX.ldc2 dX10_mixed_0 kcRX10_383 ?_
  refine AX.lload_n dX10_mixed_3 0 rfl rfl ?_
  refine AX.lmul dX10_mixed_4 ?_
  refine AX.lload_n dX10_mixed_5 1 rfl rfl ?_
  refine AX.ladd dX10_mixed_6 ?_
  exact AX.lreturn dX10_mixed_7 rfl (kz (P := fun z => Q (some (.long z)) σ) hz hk)
theorem xX10_mixed {G : ag_G} (p0 : Int64) (p1 : Int64) (σ : St) {z : Int64} (hz : fX10_mixed p0 p1 = some z) : AC G yX10_mixed mX10_mixed 0 0 [.long p0, .long p1] σ (fun v σ1 => v = some (.long z) ∧ σ1 = σ) := AC.of (plainFor_of_name (by decide)) rfl (Nat.le_of_ble_eq_true rfl) (wfX10_mixed p0 p1 σ hz ⟨rfl, rfl⟩)
noncomputable def fX10_digest_b6 (l1 : Int64) (l3 : Int32) (σ : St) : Option ((Int64 × Int32) ⊕ Int64) :=
  if (7 : Int32) < l3 then some (.inr l1) else (fX10_count l3 σ).bind fun q2 => (fX10_mixed l1 q2.toInt64).bind fun q3 => some (.inl (q3, l3 + 1))
theorem wfX10_digest_b6 {G : ag_G} (l1 : Int64) (l3 : Int32) (σ : St) {z : (Int64 × Int32) ⊕ Int64} (hz : fX10_digest_b6 l1 l3 σ = some z) {Q : Option Value → St → Prop} (K : ((Int64 × Int32) ⊕ Int64) → Prop) (hback : ∀ a : Int64 × Int32, K (.inl a) → AX G mX10_digest 6 159 6 [(0, .ref (G.2.2.1 0)), (1, .long a.1), (3, .int a.2)] [] σ Q) (hexit0 : ∀ a : Int64, K (.inr a) → AX G mX10_digest 6 159 29 [(0, .ref (G.2.2.1 0)), (1, .long a)] [] σ Q) (hk : K z) : AX G mX10_digest 6 159 6 [(0, .ref (G.2.2.1 0)), (1, .long l1), (3, .int l3)] [] σ Q := by
  unfold fX10_digest_b6 at hz
  refine AX.iload_n dX10_digest_6 2 rfl rfl ?_
  refine AX.bipush dX10_digest_7 bp_7 ?_
  refine AX.icmp_gt (tgt := 29) dX10_digest_9 rfl (fun c1 => ?_) (fun c1 => ?_)
  · replace hz := (if_pos c1).symm.trans hz
    exact AX.sub (ls' := [(0, .ref (G.2.2.1 0)), (1, .long l1)]) [0, 1] rfl (hexit0 l1 (kz (P := K) hz hk))
  · replace hz := (if_neg c1).symm.trans hz
    refine AX.lload_n dX10_digest_12 1 rfl rfl ?_
    refine AX.aload_n dX10_digest_13 0 rfl rfl ?_
    refine AX.iload_n dX10_digest_14 2 rfl rfl ?_
    obtain ⟨q2, hq2, hz⟩ := obind hz
    refine AX.callVw (r := 0) (As := [.int l3]) (rest := [.long l1]) (w := some (.int q2)) (st' := [.int q2, .long l1]) dX10_digest_15 mlRX10_303 ylX10_count yvX10_count rfl rfl rfl (Nat.le_of_ble_eq_true rfl) ⟨Nat.le_of_ble_eq_true rfl, Nat.le_of_ble_eq_true rfl⟩ (xX10_count l3 σ hq2) rfl ?_
    refine AX.i2l dX10_digest_18 ?_
    obtain ⟨q3, hq3, hz⟩ := obind hz
    refine AX.callSw (As := [.long l1, .long q2.toInt64]) (rest := []) (w := some (.long q3)) (st' := [.long q3]) dX10_digest_19 mlRX10_306 ylX10_mixed ysX10_mixed rfl rfl (Nat.le_of_ble_eq_true rfl) ⟨Nat.le_of_ble_eq_true rfl, Nat.le_of_ble_eq_true rfl⟩ (xX10_mixed l1 q2.toInt64 σ hq3) rfl ?_
    refine AX.lstore_n (ls' := [(0, .ref (G.2.2.1 0)), (1, .long q3), (3, .int l3)]) dX10_digest_22 rfl (Nat.le_of_ble_eq_true rfl) rfl ?_
    refine AX.iinc (v := l3 + 1) (ls' := [(0, .ref (G.2.2.1 0)), (1, .long q3), (3, .int (l3 + 1))]) 2 dX10_digest_23 rfl (Nat.le_of_ble_eq_true rfl) (congrArg (l3 + ·) ic_1) rfl ?_
    refine AX.goto (tgt := 6) dX10_digest_26 rfl ?_
    exact AX.sub (ls' := [(0, .ref (G.2.2.1 0)), (1, .long q3), (3, .int (l3 + 1))]) [0, 1, 2] rfl (hback (q3, l3 + 1) (kz (P := K) hz hk))
noncomputable def fX10_digest_b41 (l1 : Int64) (l3 : Int32) (σ : St) : Option ((Int64 × Int32 × St) ⊕ (Int64 × St)) :=
  if (3 : Int32) ≤ l3 then some (.inr (l1, σ)) else if inb l3 3 = true then ltb (xa_D.getD l3.toNatClampNeg 0) fun x3 => (fX10_where x3 (9 : Int32) (0 : Int32) σ).bind fun q4 => (fX10_mixed l1 q4.1).bind fun q5 => (fX10_where x3 (9 : Int32) (1 : Int32) q4.2).bind fun q6 => (fX10_mixed q5 q6.1).bind fun q7 => (fX10_likeliest x3 q6.2).bind fun q8 => (fX10_mixed q7 q8.1.toInt64).bind fun q9 => (fX10_strike x3 (0 : Int32) q8.2).bind fun q10 => (fX10_mixed q9 q10.1).bind fun q11 => (fX10_strike x3 (1 : Int32) q10.2).bind fun q12 => (fX10_mixed q11 q12.1).bind fun q13 => some (.inl (q13, l3 + 1, q12.2)) else none
theorem wfX10_digest_b41 {G : ag_G} (l1 : Int64) (l3 : Int32) (σ : St) {z : (Int64 × Int32 × St) ⊕ (Int64 × St)} (hz : fX10_digest_b41 l1 l3 σ = some z) {Q : Option Value → St → Prop} (K : ((Int64 × Int32 × St) ⊕ (Int64 × St)) → Prop) (hback : ∀ a : Int64 × Int32 × St, K (.inl a) → AX G mX10_digest 6 159 41 [(0, .ref (G.2.2.1 0)), (1, .long a.1), (3, .int a.2.1)] [] a.2.2 Q) (hexit0 : ∀ a : Int64 × St, K (.inr a) → AX G mX10_digest 6 159 122 [(0, .ref (G.2.2.1 0)), (1, .long a.1)] [] a.2 Q) (hk : K z) : AX G mX10_digest 6 159 41 [(0, .ref (G.2.2.1 0)), (1, .long l1), (3, .int l3)] [] σ Q := by
  unfold fX10_digest_b41 at hz
  refine AX.iload_n dX10_digest_41 2 rfl rfl ?_
  refine AX.getsD dX10_digest_42 fsRX10_313 ?_
  refine AX.alenR dX10_digest_45 rfl ?_
  refine AX.icmp_ge (tgt := 122) dX10_digest_46 rfl (fun c1 => ?_) (fun c1 => ?_)
  · replace hz := (if_pos c1).symm.trans hz
    exact AX.sub (ls' := [(0, .ref (G.2.2.1 0)), (1, .long l1)]) [0, 1] rfl (hexit0 (l1, σ) (kz (P := K) hz hk))
  · replace hz := (if_neg c1).symm.trans hz
    refine AX.getsD dX10_digest_49 fsRX10_313 ?_
    refine AX.iload_n dX10_digest_52 2 rfl rfl ?_
    obtain ⟨b2, hz⟩ := ite_n hz
    refine AX.ialdRE (v := xa_D.getD l3.toNatClampNeg 0) dX10_digest_53 rfl b2 rfl ?_
    obtain ⟨x3, hx3, hz⟩ := ltb_e hz
    refine AX.topI hx3 ?_
    refine AX.istore (ls' := [(0, .ref (G.2.2.1 0)), (1, .long l1), (3, .int l3), (4, .int x3)]) dX10_digest_54 (Nat.le_of_ble_eq_true rfl) rfl ?_
    refine AX.lload_n dX10_digest_56 1 rfl rfl ?_
    refine AX.aload_n dX10_digest_57 0 rfl rfl ?_
    refine AX.iload dX10_digest_58 3 rfl ?_
    refine AX.bipush dX10_digest_60 bp_9 ?_
    refine AX.iconst dX10_digest_62 ic_0 ?_
    obtain ⟨q4, hq4, hz⟩ := obind hz
    refine AX.callVw (r := 0) (As := [.int x3, .int 9, .int 0]) (rest := [.long l1]) (w := some (.long q4.1)) (st' := [.long q4.1, .long l1]) dX10_digest_63 mlRX10_316 ylX10_where yvX10_where rfl rfl rfl (Nat.le_of_ble_eq_true rfl) ⟨Nat.le_of_ble_eq_true rfl, Nat.le_of_ble_eq_true rfl⟩ (xX10_where x3 (9 : Int32) (0 : Int32) σ hq4) rfl ?_
    obtain ⟨q5, hq5, hz⟩ := obind hz
    refine AX.callSw (As := [.long l1, .long q4.1]) (rest := []) (w := some (.long q5)) (st' := [.long q5]) dX10_digest_66 mlRX10_306 ylX10_mixed ysX10_mixed rfl rfl (Nat.le_of_ble_eq_true rfl) ⟨Nat.le_of_ble_eq_true rfl, Nat.le_of_ble_eq_true rfl⟩ (xX10_mixed l1 q4.1 q4.2 hq5) rfl ?_
    refine AX.aload_n dX10_digest_69 0 rfl rfl ?_
    refine AX.iload dX10_digest_70 3 rfl ?_
    refine AX.bipush dX10_digest_72 bp_9 ?_
    refine AX.iconst dX10_digest_74 ic_1 ?_
    obtain ⟨q6, hq6, hz⟩ := obind hz
    refine AX.callVw (r := 0) (As := [.int x3, .int 9, .int 1]) (rest := [.long q5]) (w := some (.long q6.1)) (st' := [.long q6.1, .long q5]) dX10_digest_75 mlRX10_316 ylX10_where yvX10_where rfl rfl rfl (Nat.le_of_ble_eq_true rfl) ⟨Nat.le_of_ble_eq_true rfl, Nat.le_of_ble_eq_true rfl⟩ (xX10_where x3 (9 : Int32) (1 : Int32) q4.2 hq6) rfl ?_
    obtain ⟨q7, hq7, hz⟩ := obind hz
    refine AX.callSw (As := [.long q5, .long q6.1]) (rest := []) (w := some (.long q7)) (st' := [.long q7]) dX10_digest_78 mlRX10_306 ylX10_mixed ysX10_mixed rfl rfl (Nat.le_of_ble_eq_true rfl) ⟨Nat.le_of_ble_eq_true rfl, Nat.le_of_ble_eq_true rfl⟩ (xX10_mixed q5 q6.1 q6.2 hq7) rfl ?_
    refine AX.lstore_n (ls' := [(0, .ref (G.2.2.1 0)), (1, .long q7), (3, .int l3), (4, .int x3)]) dX10_digest_81 rfl (Nat.le_of_ble_eq_true rfl) rfl ?_
    refine AX.lload_n dX10_digest_82 1 rfl rfl ?_
    refine AX.aload_n dX10_digest_83 0 rfl rfl ?_
    refine AX.iload dX10_digest_84 3 rfl ?_
    obtain ⟨q8, hq8, hz⟩ := obind hz
    refine AX.callVw (r := 0) (As := [.int x3]) (rest := [.long q7]) (w := some (.int q8.1)) (st' := [.int q8.1, .long q7]) dX10_digest_86 mlRX10_320 ylX10_likeliest yvX10_likeliest rfl rfl rfl (Nat.le_of_ble_eq_true rfl) ⟨Nat.le_of_ble_eq_true rfl, Nat.le_of_ble_eq_true rfl⟩ (xX10_likeliest x3 q6.2 hq8) rfl ?_
    refine AX.i2l dX10_digest_89 ?_
    obtain ⟨q9, hq9, hz⟩ := obind hz
    refine AX.callSw (As := [.long q7, .long q8.1.toInt64]) (rest := []) (w := some (.long q9)) (st' := [.long q9]) dX10_digest_90 mlRX10_306 ylX10_mixed ysX10_mixed rfl rfl (Nat.le_of_ble_eq_true rfl) ⟨Nat.le_of_ble_eq_true rfl, Nat.le_of_ble_eq_true rfl⟩ (xX10_mixed q7 q8.1.toInt64 q8.2 hq9) rfl ?_
    refine AX.lstore_n (ls' := [(0, .ref (G.2.2.1 0)), (1, .long q9), (3, .int l3), (4, .int x3)]) dX10_digest_93 rfl (Nat.le_of_ble_eq_true rfl) rfl ?_
    refine AX.lload_n dX10_digest_94 1 rfl rfl ?_
    refine AX.aload_n dX10_digest_95 0 rfl rfl ?_
    refine AX.iload dX10_digest_96 3 rfl ?_
    refine AX.iconst dX10_digest_98 ic_0 ?_
    obtain ⟨q10, hq10, hz⟩ := obind hz
    refine AX.callVw (r := 0) (As := [.int x3, .int 0]) (rest := [.long q9]) (w := some (.long q10.1)) (st' := [.long q10.1, .long q9]) dX10_digest_99 mlRX10_323 ylX10_strike yvX10_strike rfl rfl rfl (Nat.le_of_ble_eq_true rfl) ⟨Nat.le_of_ble_eq_true rfl, Nat.le_of_ble_eq_true rfl⟩ (xX10_strike x3 (0 : Int32) q8.2 hq10) rfl ?_
    obtain ⟨q11, hq11, hz⟩ := obind hz
    refine AX.callSw (As := [.long q9, .long q10.1]) (rest := []) (w := some (.long q11)) (st' := [.long q11]) dX10_digest_102 mlRX10_306 ylX10_mixed ysX10_mixed rfl rfl (Nat.le_of_ble_eq_true rfl) ⟨Nat.le_of_ble_eq_true rfl, Nat.le_of_ble_eq_true rfl⟩ (xX10_mixed q9 q10.1 q10.2 hq11) rfl ?_
    refine AX.aload_n dX10_digest_105 0 rfl rfl ?_
    refine AX.iload dX10_digest_106 3 rfl ?_
    refine AX.iconst dX10_digest_108 ic_1 ?_
    obtain ⟨q12, hq12, hz⟩ := obind hz
    refine AX.callVw (r := 0) (As := [.int x3, .int 1]) (rest := [.long q11]) (w := some (.long q12.1)) (st' := [.long q12.1, .long q11]) dX10_digest_109 mlRX10_323 ylX10_strike yvX10_strike rfl rfl rfl (Nat.le_of_ble_eq_true rfl) ⟨Nat.le_of_ble_eq_true rfl, Nat.le_of_ble_eq_true rfl⟩ (xX10_strike x3 (1 : Int32) q10.2 hq12) rfl ?_
    obtain ⟨q13, hq13, hz⟩ := obind hz
    refine AX.callSw (As := [.long q11, .long q12.1]) (rest := []) (w := some (.long q13)) (st' := [.long q13]) dX10_digest_112 mlRX10_306 ylX10_mixed ysX10_mixed rfl rfl (Nat.le_of_ble_eq_true rfl) ⟨Nat.le_of_ble_eq_true rfl, Nat.le_of_ble_eq_true rfl⟩ (xX10_mixed q11 q12.1 q12.2 hq13) rfl ?_
    refine AX.lstore_n (ls' := [(0, .ref (G.2.2.1 0)), (1, .long q13), (3, .int l3), (4, .int x3)]) dX10_digest_115 rfl (Nat.le_of_ble_eq_true rfl) rfl ?_
    refine AX.iinc (v := l3 + 1) (ls' := [(0, .ref (G.2.2.1 0)), (1, .long q13), (3, .int (l3 + 1)), (4, .int x3)]) 2 dX10_digest_116 rfl (Nat.le_of_ble_eq_true rfl) (congrArg (l3 + ·) ic_1) rfl ?_
    refine AX.goto (tgt := 41) dX10_digest_119 rfl ?_
    exact AX.sub (ls' := [(0, .ref (G.2.2.1 0)), (1, .long q13), (3, .int (l3 + 1))]) [0, 1, 2] rfl (hback (q13, l3 + 1, q12.2) (kz (P := K) hz hk))
noncomputable def fX10_digest_b135 (l1 : Int64) (l3 : Int32) (σ : St) : Option ((Int64 × Int32 × St) ⊕ (Int64 × St)) :=
  if (2 : Int32) < l3 then some (.inr (l1, σ)) else (fX10_slips (20 : Int32) l3 (0 : Int32) σ).bind fun q2 => (fX10_mixed l1 q2.1).bind fun q3 => (fX10_slips (20 : Int32) l3 (1 : Int32) q2.2).bind fun q4 => (fX10_mixed q3 q4.1).bind fun q5 => some (.inl (q5, l3 + 1, q4.2))
theorem wfX10_digest_b135 {G : ag_G} (l1 : Int64) (l3 : Int32) (σ : St) {z : (Int64 × Int32 × St) ⊕ (Int64 × St)} (hz : fX10_digest_b135 l1 l3 σ = some z) {Q : Option Value → St → Prop} (K : ((Int64 × Int32 × St) ⊕ (Int64 × St)) → Prop) (hback : ∀ a : Int64 × Int32 × St, K (.inl a) → AX G mX10_digest 6 159 135 [(0, .ref (G.2.2.1 0)), (1, .long a.1), (3, .int a.2.1)] [] a.2.2 Q) (hexit0 : ∀ a : Int64 × St, K (.inr a) → AX G mX10_digest 6 159 170 [(0, .ref (G.2.2.1 0)), (1, .long a.1)] [] a.2 Q) (hk : K z) : AX G mX10_digest 6 159 135 [(0, .ref (G.2.2.1 0)), (1, .long l1), (3, .int l3)] [] σ Q := by
  unfold fX10_digest_b135 at hz
  refine AX.iload_n dX10_digest_135 2 rfl rfl ?_
  refine AX.iconst dX10_digest_136 ic_2 ?_
  refine AX.icmp_gt (tgt := 170) dX10_digest_137 rfl (fun c1 => ?_) (fun c1 => ?_)
  · replace hz := (if_pos c1).symm.trans hz
    exact AX.sub (ls' := [(0, .ref (G.2.2.1 0)), (1, .long l1)]) [0, 1] rfl (hexit0 (l1, σ) (kz (P := K) hz hk))
  · replace hz := (if_neg c1).symm.trans hz
    refine AX.lload_n dX10_digest_140 1 rfl rfl ?_
    refine AX.aload_n dX10_digest_141 0 rfl rfl ?_
    refine AX.bipush dX10_digest_142 bp_20 ?_
    refine AX.iload_n dX10_digest_144 2 rfl rfl ?_
    refine AX.iconst dX10_digest_145 ic_0 ?_
    obtain ⟨q2, hq2, hz⟩ := obind hz
    refine AX.callVw (r := 0) (As := [.int 20, .int l3, .int 0]) (rest := [.long l1]) (w := some (.long q2.1)) (st' := [.long q2.1, .long l1]) dX10_digest_146 mlRX10_329 ylX10_slips yvX10_slips rfl rfl rfl (Nat.le_of_ble_eq_true rfl) ⟨Nat.le_of_ble_eq_true rfl, Nat.le_of_ble_eq_true rfl⟩ (xX10_slips (20 : Int32) l3 (0 : Int32) σ hq2) rfl ?_
    obtain ⟨q3, hq3, hz⟩ := obind hz
    refine AX.callSw (As := [.long l1, .long q2.1]) (rest := []) (w := some (.long q3)) (st' := [.long q3]) dX10_digest_149 mlRX10_306 ylX10_mixed ysX10_mixed rfl rfl (Nat.le_of_ble_eq_true rfl) ⟨Nat.le_of_ble_eq_true rfl, Nat.le_of_ble_eq_true rfl⟩ (xX10_mixed l1 q2.1 q2.2 hq3) rfl ?_
    refine AX.aload_n dX10_digest_152 0 rfl rfl ?_
    refine AX.bipush dX10_digest_153 bp_20 ?_
    refine AX.iload_n dX10_digest_155 2 rfl rfl ?_
    refine AX.iconst dX10_digest_156 ic_1 ?_
    obtain ⟨q4, hq4, hz⟩ := obind hz
    refine AX.callVw (r := 0) (As := [.int 20, .int l3, .int 1]) (rest := [.long q3]) (w := some (.long q4.1)) (st' := [.long q4.1, .long q3]) dX10_digest_157 mlRX10_329 ylX10_slips yvX10_slips rfl rfl rfl (Nat.le_of_ble_eq_true rfl) ⟨Nat.le_of_ble_eq_true rfl, Nat.le_of_ble_eq_true rfl⟩ (xX10_slips (20 : Int32) l3 (1 : Int32) q2.2 hq4) rfl ?_
    obtain ⟨q5, hq5, hz⟩ := obind hz
    refine AX.callSw (As := [.long q3, .long q4.1]) (rest := []) (w := some (.long q5)) (st' := [.long q5]) dX10_digest_160 mlRX10_306 ylX10_mixed ysX10_mixed rfl rfl (Nat.le_of_ble_eq_true rfl) ⟨Nat.le_of_ble_eq_true rfl, Nat.le_of_ble_eq_true rfl⟩ (xX10_mixed q3 q4.1 q4.2 hq5) rfl ?_
    refine AX.lstore_n (ls' := [(0, .ref (G.2.2.1 0)), (1, .long q5), (3, .int l3)]) dX10_digest_163 rfl (Nat.le_of_ble_eq_true rfl) rfl ?_
    refine AX.iinc (v := l3 + 1) (ls' := [(0, .ref (G.2.2.1 0)), (1, .long q5), (3, .int (l3 + 1))]) 2 dX10_digest_164 rfl (Nat.le_of_ble_eq_true rfl) (congrArg (l3 + ·) ic_1) rfl ?_
    refine AX.goto (tgt := 135) dX10_digest_167 rfl ?_
    exact AX.sub (ls' := [(0, .ref (G.2.2.1 0)), (1, .long q5), (3, .int (l3 + 1))]) [0, 1, 2] rfl (hback (q5, l3 + 1, q4.2) (kz (P := K) hz hk))
noncomputable def fX10_digest_b172 (l1 : Int64) (l3 : Int32) (σ : St) : Option ((Int64 × Int32 × St) ⊕ (Int64 × St)) :=
  if (1 : Int32) < l3 then some (.inr (l1, σ)) else (fX10_safe l3 (0 : Int32) σ).bind fun q2 => (fX10_mixed l1 q2.1).bind fun q3 => (fX10_safe l3 (1 : Int32) q2.2).bind fun q4 => (fX10_mixed q3 q4.1).bind fun q5 => some (.inl (q5, l3 + 1, q4.2))
theorem wfX10_digest_b172 {G : ag_G} (l1 : Int64) (l3 : Int32) (σ : St) {z : (Int64 × Int32 × St) ⊕ (Int64 × St)} (hz : fX10_digest_b172 l1 l3 σ = some z) {Q : Option Value → St → Prop} (K : ((Int64 × Int32 × St) ⊕ (Int64 × St)) → Prop) (hback : ∀ a : Int64 × Int32 × St, K (.inl a) → AX G mX10_digest 6 159 172 [(0, .ref (G.2.2.1 0)), (1, .long a.1), (3, .int a.2.1)] [] a.2.2 Q) (hexit0 : ∀ a : Int64 × St, K (.inr a) → AX G mX10_digest 6 159 203 [(0, .ref (G.2.2.1 0)), (1, .long a.1)] [] a.2 Q) (hk : K z) : AX G mX10_digest 6 159 172 [(0, .ref (G.2.2.1 0)), (1, .long l1), (3, .int l3)] [] σ Q := by
  unfold fX10_digest_b172 at hz
  refine AX.iload_n dX10_digest_172 2 rfl rfl ?_
  refine AX.iconst dX10_digest_173 ic_1 ?_
  refine AX.icmp_gt (tgt := 203) dX10_digest_174 rfl (fun c1 => ?_) (fun c1 => ?_)
  · replace hz := (if_pos c1).symm.trans hz
    exact AX.sub (ls' := [(0, .ref (G.2.2.1 0)), (1, .long l1)]) [0, 1] rfl (hexit0 (l1, σ) (kz (P := K) hz hk))
  · replace hz := (if_neg c1).symm.trans hz
    refine AX.lload_n dX10_digest_177 1 rfl rfl ?_
    refine AX.aload_n dX10_digest_178 0 rfl rfl ?_
    refine AX.iload_n dX10_digest_179 2 rfl rfl ?_
    refine AX.iconst dX10_digest_180 ic_0 ?_
    obtain ⟨q2, hq2, hz⟩ := obind hz
    refine AX.callVw (r := 0) (As := [.int l3, .int 0]) (rest := [.long l1]) (w := some (.long q2.1)) (st' := [.long q2.1, .long l1]) dX10_digest_181 mlRX10_332 ylX10_safe yvX10_safe rfl rfl rfl (Nat.le_of_ble_eq_true rfl) ⟨Nat.le_of_ble_eq_true rfl, Nat.le_of_ble_eq_true rfl⟩ (xX10_safe l3 (0 : Int32) σ hq2) rfl ?_
    obtain ⟨q3, hq3, hz⟩ := obind hz
    refine AX.callSw (As := [.long l1, .long q2.1]) (rest := []) (w := some (.long q3)) (st' := [.long q3]) dX10_digest_184 mlRX10_306 ylX10_mixed ysX10_mixed rfl rfl (Nat.le_of_ble_eq_true rfl) ⟨Nat.le_of_ble_eq_true rfl, Nat.le_of_ble_eq_true rfl⟩ (xX10_mixed l1 q2.1 q2.2 hq3) rfl ?_
    refine AX.aload_n dX10_digest_187 0 rfl rfl ?_
    refine AX.iload_n dX10_digest_188 2 rfl rfl ?_
    refine AX.iconst dX10_digest_189 ic_1 ?_
    obtain ⟨q4, hq4, hz⟩ := obind hz
    refine AX.callVw (r := 0) (As := [.int l3, .int 1]) (rest := [.long q3]) (w := some (.long q4.1)) (st' := [.long q4.1, .long q3]) dX10_digest_190 mlRX10_332 ylX10_safe yvX10_safe rfl rfl rfl (Nat.le_of_ble_eq_true rfl) ⟨Nat.le_of_ble_eq_true rfl, Nat.le_of_ble_eq_true rfl⟩ (xX10_safe l3 (1 : Int32) q2.2 hq4) rfl ?_
    obtain ⟨q5, hq5, hz⟩ := obind hz
    refine AX.callSw (As := [.long q3, .long q4.1]) (rest := []) (w := some (.long q5)) (st' := [.long q5]) dX10_digest_193 mlRX10_306 ylX10_mixed ysX10_mixed rfl rfl (Nat.le_of_ble_eq_true rfl) ⟨Nat.le_of_ble_eq_true rfl, Nat.le_of_ble_eq_true rfl⟩ (xX10_mixed q3 q4.1 q4.2 hq5) rfl ?_
    refine AX.lstore_n (ls' := [(0, .ref (G.2.2.1 0)), (1, .long q5), (3, .int l3)]) dX10_digest_196 rfl (Nat.le_of_ble_eq_true rfl) rfl ?_
    refine AX.iinc (v := l3 + 1) (ls' := [(0, .ref (G.2.2.1 0)), (1, .long q5), (3, .int (l3 + 1))]) 2 dX10_digest_197 rfl (Nat.le_of_ble_eq_true rfl) (congrArg (l3 + ·) ic_1) rfl ?_
    refine AX.goto (tgt := 172) dX10_digest_200 rfl ?_
    exact AX.sub (ls' := [(0, .ref (G.2.2.1 0)), (1, .long q5), (3, .int (l3 + 1))]) [0, 1, 2] rfl (hback (q5, l3 + 1, q4.2) (kz (P := K) hz hk))
noncomputable def fX10_digest_b235 (l1 : Int64) (l3 : Int32) (σ : St) : Option ((Int64 × Int32 × St) ⊕ (Int64 × St)) :=
  if (σ.1 1 8) ≤ l3 then some (.inr (l1, σ)) else (fX10_anew l3 σ).bind fun q2 => (fX10_mixed l1 q2.1.toInt64).bind fun q3 => some (.inl (q3, l3 + 1, q2.2))
theorem wfX10_digest_b235 {G : ag_G} (l1 : Int64) (l3 : Int32) (σ : St) {z : (Int64 × Int32 × St) ⊕ (Int64 × St)} (hz : fX10_digest_b235 l1 l3 σ = some z) {Q : Option Value → St → Prop} (K : ((Int64 × Int32 × St) ⊕ (Int64 × St)) → Prop) (hback : ∀ a : Int64 × Int32 × St, K (.inl a) → AX G mX10_digest 6 159 235 [(0, .ref (G.2.2.1 0)), (1, .long a.1), (3, .int a.2.1)] [] a.2.2 Q) (hexit0 : ∀ a : Int64 × St, K (.inr a) → AX G mX10_digest 6 159 263 [(0, .ref (G.2.2.1 0)), (1, .long a.1)] [] a.2 Q) (hk : K z) : AX G mX10_digest 6 159 235 [(0, .ref (G.2.2.1 0)), (1, .long l1), (3, .int l3)] [] σ Q := by
  unfold fX10_digest_b235 at hz
  refine AX.iload_n dX10_digest_235 2 rfl rfl ?_
  refine AX.aload_n dX10_digest_236 0 rfl rfl ?_
  refine AX.getR dX10_digest_237 flRX10_12 rfl rfl ?_
  refine AX.getIE (v := σ.1 1 8) dX10_digest_240 flRX10_211 rfl rfl rfl ?_
  refine AX.icmp_ge (tgt := 263) dX10_digest_243 rfl (fun c1 => ?_) (fun c1 => ?_)
  · replace hz := (if_pos c1).symm.trans hz
    exact AX.sub (ls' := [(0, .ref (G.2.2.1 0)), (1, .long l1)]) [0, 1] rfl (hexit0 (l1, σ) (kz (P := K) hz hk))
  · replace hz := (if_neg c1).symm.trans hz
    refine AX.lload_n dX10_digest_246 1 rfl rfl ?_
    refine AX.aload_n dX10_digest_247 0 rfl rfl ?_
    refine AX.iload_n dX10_digest_248 2 rfl rfl ?_
    obtain ⟨q2, hq2, hz⟩ := obind hz
    refine AX.callVw (r := 0) (As := [.int l3]) (rest := [.long l1]) (w := some (.int q2.1)) (st' := [.int q2.1, .long l1]) dX10_digest_249 mlRX10_341 ylX10_anew yvX10_anew rfl rfl rfl (Nat.le_of_ble_eq_true rfl) ⟨Nat.le_of_ble_eq_true rfl, Nat.le_of_ble_eq_true rfl⟩ (xX10_anew l3 σ hq2) rfl ?_
    refine AX.i2l dX10_digest_252 ?_
    obtain ⟨q3, hq3, hz⟩ := obind hz
    refine AX.callSw (As := [.long l1, .long q2.1.toInt64]) (rest := []) (w := some (.long q3)) (st' := [.long q3]) dX10_digest_253 mlRX10_306 ylX10_mixed ysX10_mixed rfl rfl (Nat.le_of_ble_eq_true rfl) ⟨Nat.le_of_ble_eq_true rfl, Nat.le_of_ble_eq_true rfl⟩ (xX10_mixed l1 q2.1.toInt64 q2.2 hq3) rfl ?_
    refine AX.lstore_n (ls' := [(0, .ref (G.2.2.1 0)), (1, .long q3), (3, .int l3)]) dX10_digest_256 rfl (Nat.le_of_ble_eq_true rfl) rfl ?_
    refine AX.iinc (v := l3 + 1) (ls' := [(0, .ref (G.2.2.1 0)), (1, .long q3), (3, .int (l3 + 1))]) 2 dX10_digest_257 rfl (Nat.le_of_ble_eq_true rfl) (congrArg (l3 + ·) ic_1) rfl ?_
    refine AX.goto (tgt := 235) dX10_digest_260 rfl ?_
    exact AX.sub (ls' := [(0, .ref (G.2.2.1 0)), (1, .long q3), (3, .int (l3 + 1))]) [0, 1, 2] rfl (hback (q3, l3 + 1, q2.2) (kz (P := K) hz hk))
noncomputable def fX10_digest_b291 (l1 : Int64) (l3 : Int32) (σ : St) : Option ((Int64 × Int32 × St) ⊕ (Int64 × St)) :=
  if (9 : Int32) < l3 then some (.inr (l1, σ)) else (fX10_evening l3 (0 : Int32) σ).bind fun q2 => (fX10_mixed l1 q2.1).bind fun q3 => (fX10_evening l3 (1 : Int32) q2.2).bind fun q4 => (fX10_mixed q3 q4.1).bind fun q5 => some (.inl (q5, l3 + 9, q4.2))
theorem wfX10_digest_b291 {G : ag_G} (l1 : Int64) (l3 : Int32) (σ : St) {z : (Int64 × Int32 × St) ⊕ (Int64 × St)} (hz : fX10_digest_b291 l1 l3 σ = some z) {Q : Option Value → St → Prop} (K : ((Int64 × Int32 × St) ⊕ (Int64 × St)) → Prop) (hback : ∀ a : Int64 × Int32 × St, K (.inl a) → AX G mX10_digest 6 159 291 [(0, .ref (G.2.2.1 0)), (1, .long a.1), (3, .int a.2.1)] [] a.2.2 Q) (hexit0 : ∀ a : Int64 × St, K (.inr a) → AX G mX10_digest 6 159 323 [(0, .ref (G.2.2.1 0)), (1, .long a.1)] [] a.2 Q) (hk : K z) : AX G mX10_digest 6 159 291 [(0, .ref (G.2.2.1 0)), (1, .long l1), (3, .int l3)] [] σ Q := by
  unfold fX10_digest_b291 at hz
  refine AX.iload_n dX10_digest_291 2 rfl rfl ?_
  refine AX.bipush dX10_digest_292 bp_9 ?_
  refine AX.icmp_gt (tgt := 323) dX10_digest_294 rfl (fun c1 => ?_) (fun c1 => ?_)
  · replace hz := (if_pos c1).symm.trans hz
    exact AX.sub (ls' := [(0, .ref (G.2.2.1 0)), (1, .long l1)]) [0, 1] rfl (hexit0 (l1, σ) (kz (P := K) hz hk))
  · replace hz := (if_neg c1).symm.trans hz
    refine AX.lload_n dX10_digest_297 1 rfl rfl ?_
    refine AX.aload_n dX10_digest_298 0 rfl rfl ?_
    refine AX.iload_n dX10_digest_299 2 rfl rfl ?_
    refine AX.iconst dX10_digest_300 ic_0 ?_
    obtain ⟨q2, hq2, hz⟩ := obind hz
    refine AX.callVw (r := 0) (As := [.int l3, .int 0]) (rest := [.long l1]) (w := some (.long q2.1)) (st' := [.long q2.1, .long l1]) dX10_digest_301 mlRX10_347 ylX10_evening yvX10_evening rfl rfl rfl (Nat.le_of_ble_eq_true rfl) ⟨Nat.le_of_ble_eq_true rfl, Nat.le_of_ble_eq_true rfl⟩ (xX10_evening l3 (0 : Int32) σ hq2) rfl ?_
    obtain ⟨q3, hq3, hz⟩ := obind hz
    refine AX.callSw (As := [.long l1, .long q2.1]) (rest := []) (w := some (.long q3)) (st' := [.long q3]) dX10_digest_304 mlRX10_306 ylX10_mixed ysX10_mixed rfl rfl (Nat.le_of_ble_eq_true rfl) ⟨Nat.le_of_ble_eq_true rfl, Nat.le_of_ble_eq_true rfl⟩ (xX10_mixed l1 q2.1 q2.2 hq3) rfl ?_
    refine AX.aload_n dX10_digest_307 0 rfl rfl ?_
    refine AX.iload_n dX10_digest_308 2 rfl rfl ?_
    refine AX.iconst dX10_digest_309 ic_1 ?_
    obtain ⟨q4, hq4, hz⟩ := obind hz
    refine AX.callVw (r := 0) (As := [.int l3, .int 1]) (rest := [.long q3]) (w := some (.long q4.1)) (st' := [.long q4.1, .long q3]) dX10_digest_310 mlRX10_347 ylX10_evening yvX10_evening rfl rfl rfl (Nat.le_of_ble_eq_true rfl) ⟨Nat.le_of_ble_eq_true rfl, Nat.le_of_ble_eq_true rfl⟩ (xX10_evening l3 (1 : Int32) q2.2 hq4) rfl ?_
    obtain ⟨q5, hq5, hz⟩ := obind hz
    refine AX.callSw (As := [.long q3, .long q4.1]) (rest := []) (w := some (.long q5)) (st' := [.long q5]) dX10_digest_313 mlRX10_306 ylX10_mixed ysX10_mixed rfl rfl (Nat.le_of_ble_eq_true rfl) ⟨Nat.le_of_ble_eq_true rfl, Nat.le_of_ble_eq_true rfl⟩ (xX10_mixed q3 q4.1 q4.2 hq5) rfl ?_
    refine AX.lstore_n (ls' := [(0, .ref (G.2.2.1 0)), (1, .long q5), (3, .int l3)]) dX10_digest_316 rfl (Nat.le_of_ble_eq_true rfl) rfl ?_
    refine AX.iinc (v := l3 + 9) (ls' := [(0, .ref (G.2.2.1 0)), (1, .long q5), (3, .int (l3 + 9))]) 2 dX10_digest_317 rfl (Nat.le_of_ble_eq_true rfl) (congrArg (l3 + ·) ic_9) rfl ?_
    refine AX.goto (tgt := 291) dX10_digest_320 rfl ?_
    exact AX.sub (ls' := [(0, .ref (G.2.2.1 0)), (1, .long q5), (3, .int (l3 + 9))]) [0, 1, 2] rfl (hback (q5, l3 + 9, q4.2) (kz (P := K) hz hk))
noncomputable def fX10_digest  (σ : St) : Option (Int64 × St) :=
  (lpc (fun s => fX10_digest_b6  s.1 s.2 σ) (17, 0)).bind fun r1 => (fX10_fault  σ).bind fun q2 => (fX10_mixed r1 q2.toInt64).bind fun q3 => (lpc (fun s => fX10_digest_b41  s.1 s.2.1 s.2.2) (q3, 0, σ)).bind fun r4 => (fX10_line  r4.2).bind fun q5 => (fX10_mixed r4.1 q5.1.toInt64).bind fun q6 => (lpc (fun s => fX10_digest_b135  s.1 s.2.1 s.2.2) (q6, -2, q5.2)).bind fun r7 => (lpc (fun s => fX10_digest_b172  s.1 s.2.1 s.2.2) (r7.1, 0, r7.2)).bind fun r8 => (fX10_write (1 : Int32) r8.2).bind fun q9 => (fX10_mixed r8.1 q9.1.toInt64).bind fun q10 => (fX10_write (2 : Int32) q9.2).bind fun q11 => (fX10_mixed q10 q11.1.toInt64).bind fun q12 => (fX10_few (8 : Int32) q11.2).bind fun q13 => (fX10_mixed q12 q13.1.toInt64).bind fun q14 => (lpc (fun s => fX10_digest_b235  s.1 s.2.1 s.2.2) (q14, 0, q13.2)).bind fun r15 => (fX10_joint (9 : Int32) (12 : Int32) (0 : Int32)).bind fun q16 => (fX10_mixed r15.1 q16).bind fun q17 => (fX10_joint (9 : Int32) (12 : Int32) (1 : Int32)).bind fun q18 => (fX10_mixed q17 q18).bind fun q19 => (lpc (fun s => fX10_digest_b291  s.1 s.2.1 s.2.2) (q19, 0, r15.2)).bind fun r20 => (fX10_prime (0 : Int32) r20.2).bind fun q21 => (fX10_mixed r20.1 q21.1.toInt64).bind fun q22 => (fX10_prime (1 : Int32) q21.2).bind fun q23 => (fX10_mixed q22 q23.1.toInt64).bind fun q24 => (fX10_worth (0 : Int32) q23.2).bind fun q25 => (fX10_mixed q24 q25.1.toInt64).bind fun q26 => (fX10_worth (1 : Int32) q25.2).bind fun q27 => (fX10_mixed q26 q27.1.toInt64).bind fun q28 => (fX10_look (9 : Int32) q27.2).bind fun q29 => (fX10_mixed q28 q29.1.toInt64).bind fun q30 => (fX10_wrong (0 : Int32) q29.2).bind fun q31 => (fX10_mixed q30 q31.toInt64).bind fun q32 => (fX10_wrong (1 : Int32) q29.2).bind fun q33 => (fX10_mixed q32 q33.toInt64).bind fun q34 => (fX10_blame  q29.2).bind fun q35 => (fX10_mixed q34 q35.toInt64).bind fun q36 => (fX10_night (7 : Int32) (0 : Int32) q29.2).bind fun q37 => (fX10_mixed q36 q37.1.toInt64).bind fun q38 => (fX10_night (7 : Int32) (20 : Int32) q37.2).bind fun q39 => (fX10_mixed q38 q39.1.toInt64).bind fun q40 => some (q40, q39.2)
theorem wfX10_digest {G : ag_G}  (σ : St) {z : Int64 × St} (hz : fX10_digest  σ = some z) {Q : Option Value → St → Prop} (hk : Q (some (.long z.1)) z.2) : AX G mX10_digest 6 159 0 [(0, .ref (G.2.2.1 0))] [] σ Q := by
  unfold fX10_digest at hz
  refine AX.ldc2 dX10_digest_0 kcRX10_301 ?_
  refine AX.lstore_n (ls' := [(0, .ref (G.2.2.1 0)), (1, .long 17)]) dX10_digest_3 rfl (Nat.le_of_ble_eq_true rfl) rfl ?_
  refine AX.iconst dX10_digest_4 ic_0 ?_
  refine AX.istore_n (ls' := [(0, .ref (G.2.2.1 0)), (1, .long 17), (3, .int 0)]) dX10_digest_5 rfl (Nat.le_of_ble_eq_true rfl) rfl ?_
  obtain ⟨r1, hr1, hz⟩ := obind hz
  refine AX.sub (ls' := [(0, .ref (G.2.2.1 0)), (1, .long 17), (3, .int 0)]) [0, 1, 2] rfl ?_
  refine lpc_ind (s := (17, 0)) (r := r1) (fun s => AX G mX10_digest 6 159 6 [(0, .ref (G.2.2.1 0)), (1, .long s.1), (3, .int s.2)] [] σ Q) (fun a : Int64 => AX G mX10_digest 6 159 29 [(0, .ref (G.2.2.1 0)), (1, .long a)] [] σ Q) hr1 (fun s z hb hK => wfX10_digest_b6  s.1 s.2 σ hb (Sum.elim (fun s => AX G mX10_digest 6 159 6 [(0, .ref (G.2.2.1 0)), (1, .long s.1), (3, .int s.2)] [] σ Q) (fun a : Int64 => AX G mX10_digest 6 159 29 [(0, .ref (G.2.2.1 0)), (1, .long a)] [] σ Q)) (fun _ h9 => h9) (fun _ h9 => h9) hK) ?_
  refine AX.lload_n dX10_digest_29 1 rfl rfl ?_
  refine AX.aload_n dX10_digest_30 0 rfl rfl ?_
  obtain ⟨q2, hq2, hz⟩ := obind hz
  refine AX.callVw (r := 0) (As := []) (rest := [.long r1]) (w := some (.int q2)) (st' := [.int q2, .long r1]) dX10_digest_31 mlRX10_310 ylX10_fault yvX10_fault rfl rfl rfl (Nat.le_of_ble_eq_true rfl) ⟨Nat.le_of_ble_eq_true rfl, Nat.le_of_ble_eq_true rfl⟩ (xX10_fault  σ hq2) rfl ?_
  refine AX.i2l dX10_digest_34 ?_
  obtain ⟨q3, hq3, hz⟩ := obind hz
  refine AX.callSw (As := [.long r1, .long q2.toInt64]) (rest := []) (w := some (.long q3)) (st' := [.long q3]) dX10_digest_35 mlRX10_306 ylX10_mixed ysX10_mixed rfl rfl (Nat.le_of_ble_eq_true rfl) ⟨Nat.le_of_ble_eq_true rfl, Nat.le_of_ble_eq_true rfl⟩ (xX10_mixed r1 q2.toInt64 σ hq3) rfl ?_
  refine AX.lstore_n (ls' := [(0, .ref (G.2.2.1 0)), (1, .long q3)]) dX10_digest_38 rfl (Nat.le_of_ble_eq_true rfl) rfl ?_
  refine AX.iconst dX10_digest_39 ic_0 ?_
  refine AX.istore_n (ls' := [(0, .ref (G.2.2.1 0)), (1, .long q3), (3, .int 0)]) dX10_digest_40 rfl (Nat.le_of_ble_eq_true rfl) rfl ?_
  obtain ⟨r4, hr4, hz⟩ := obind hz
  refine AX.sub (ls' := [(0, .ref (G.2.2.1 0)), (1, .long q3), (3, .int 0)]) [0, 1, 2] rfl ?_
  refine lpc_ind (s := (q3, 0, σ)) (r := r4) (fun s => AX G mX10_digest 6 159 41 [(0, .ref (G.2.2.1 0)), (1, .long s.1), (3, .int s.2.1)] [] s.2.2 Q) (fun a : Int64 × St => AX G mX10_digest 6 159 122 [(0, .ref (G.2.2.1 0)), (1, .long a.1)] [] a.2 Q) hr4 (fun s z hb hK => wfX10_digest_b41  s.1 s.2.1 s.2.2 hb (Sum.elim (fun s => AX G mX10_digest 6 159 41 [(0, .ref (G.2.2.1 0)), (1, .long s.1), (3, .int s.2.1)] [] s.2.2 Q) (fun a : Int64 × St => AX G mX10_digest 6 159 122 [(0, .ref (G.2.2.1 0)), (1, .long a.1)] [] a.2 Q)) (fun _ h9 => h9) (fun _ h9 => h9) hK) ?_
  refine AX.lload_n dX10_digest_122 1 rfl rfl ?_
  refine AX.aload_n dX10_digest_123 0 rfl rfl ?_
  obtain ⟨q5, hq5, hz⟩ := obind hz
  refine AX.callVw (r := 0) (As := []) (rest := [.long r4.1]) (w := some (.int q5.1)) (st' := [.int q5.1, .long r4.1]) dX10_digest_124 mlRX10_326 ylX10_line yvX10_line rfl rfl rfl (Nat.le_of_ble_eq_true rfl) ⟨Nat.le_of_ble_eq_true rfl, Nat.le_of_ble_eq_true rfl⟩ (xX10_line  r4.2 hq5) rfl ?_
  refine AX.i2l dX10_digest_127 ?_
  obtain ⟨q6, hq6, hz⟩ := obind hz
  refine AX.callSw (As := [.long r4.1, .long q5.1.toInt64]) (rest := []) (w := some (.long q6)) (st' := [.long q6]) dX10_digest_128 mlRX10_306 ylX10_mixed ysX10_mixed rfl rfl (Nat.le_of_ble_eq_true rfl) ⟨Nat.le_of_ble_eq_true rfl, Nat.le_of_ble_eq_true rfl⟩ (xX10_mixed r4.1 q5.1.toInt64 q5.2 hq6) rfl ?_
  refine AX.lstore_n (ls' := [(0, .ref (G.2.2.1 0)), (1, .long q6)]) dX10_digest_131 rfl (Nat.le_of_ble_eq_true rfl) rfl ?_
  refine AX.bipush dX10_digest_132 bp_m2 ?_
  refine AX.istore_n (ls' := [(0, .ref (G.2.2.1 0)), (1, .long q6), (3, .int (-2))]) dX10_digest_134 rfl (Nat.le_of_ble_eq_true rfl) rfl ?_
  obtain ⟨r7, hr7, hz⟩ := obind hz
  refine AX.sub (ls' := [(0, .ref (G.2.2.1 0)), (1, .long q6), (3, .int (-2))]) [0, 1, 2] rfl ?_
  refine lpc_ind (s := (q6, -2, q5.2)) (r := r7) (fun s => AX G mX10_digest 6 159 135 [(0, .ref (G.2.2.1 0)), (1, .long s.1), (3, .int s.2.1)] [] s.2.2 Q) (fun a : Int64 × St => AX G mX10_digest 6 159 170 [(0, .ref (G.2.2.1 0)), (1, .long a.1)] [] a.2 Q) hr7 (fun s z hb hK => wfX10_digest_b135  s.1 s.2.1 s.2.2 hb (Sum.elim (fun s => AX G mX10_digest 6 159 135 [(0, .ref (G.2.2.1 0)), (1, .long s.1), (3, .int s.2.1)] [] s.2.2 Q) (fun a : Int64 × St => AX G mX10_digest 6 159 170 [(0, .ref (G.2.2.1 0)), (1, .long a.1)] [] a.2 Q)) (fun _ h9 => h9) (fun _ h9 => h9) hK) ?_
  refine AX.iconst dX10_digest_170 ic_0 ?_
  refine AX.istore_n (ls' := [(0, .ref (G.2.2.1 0)), (1, .long r7.1), (3, .int 0)]) dX10_digest_171 rfl (Nat.le_of_ble_eq_true rfl) rfl ?_
  obtain ⟨r8, hr8, hz⟩ := obind hz
  refine AX.sub (ls' := [(0, .ref (G.2.2.1 0)), (1, .long r7.1), (3, .int 0)]) [0, 1, 2] rfl ?_
  refine lpc_ind (s := (r7.1, 0, r7.2)) (r := r8) (fun s => AX G mX10_digest 6 159 172 [(0, .ref (G.2.2.1 0)), (1, .long s.1), (3, .int s.2.1)] [] s.2.2 Q) (fun a : Int64 × St => AX G mX10_digest 6 159 203 [(0, .ref (G.2.2.1 0)), (1, .long a.1)] [] a.2 Q) hr8 (fun s z hb hK => wfX10_digest_b172  s.1 s.2.1 s.2.2 hb (Sum.elim (fun s => AX G mX10_digest 6 159 172 [(0, .ref (G.2.2.1 0)), (1, .long s.1), (3, .int s.2.1)] [] s.2.2 Q) (fun a : Int64 × St => AX G mX10_digest 6 159 203 [(0, .ref (G.2.2.1 0)), (1, .long a.1)] [] a.2 Q)) (fun _ h9 => h9) (fun _ h9 => h9) hK) ?_
  refine AX.lload_n dX10_digest_203 1 rfl rfl ?_
  refine AX.aload_n dX10_digest_204 0 rfl rfl ?_
  refine AX.iconst dX10_digest_205 ic_1 ?_
  obtain ⟨q9, hq9, hz⟩ := obind hz
  refine AX.callVw (r := 0) (As := [.int 1]) (rest := [.long r8.1]) (w := some (.int q9.1)) (st' := [.int q9.1, .long r8.1]) dX10_digest_206 mlRX10_335 ylX10_write yvX10_write rfl rfl rfl (Nat.le_of_ble_eq_true rfl) ⟨Nat.le_of_ble_eq_true rfl, Nat.le_of_ble_eq_true rfl⟩ (xX10_write (1 : Int32) r8.2 hq9) rfl ?_
  refine AX.i2l dX10_digest_209 ?_
  obtain ⟨q10, hq10, hz⟩ := obind hz
  refine AX.callSw (As := [.long r8.1, .long q9.1.toInt64]) (rest := []) (w := some (.long q10)) (st' := [.long q10]) dX10_digest_210 mlRX10_306 ylX10_mixed ysX10_mixed rfl rfl (Nat.le_of_ble_eq_true rfl) ⟨Nat.le_of_ble_eq_true rfl, Nat.le_of_ble_eq_true rfl⟩ (xX10_mixed r8.1 q9.1.toInt64 q9.2 hq10) rfl ?_
  refine AX.aload_n dX10_digest_213 0 rfl rfl ?_
  refine AX.iconst dX10_digest_214 ic_2 ?_
  obtain ⟨q11, hq11, hz⟩ := obind hz
  refine AX.callVw (r := 0) (As := [.int 2]) (rest := [.long q10]) (w := some (.int q11.1)) (st' := [.int q11.1, .long q10]) dX10_digest_215 mlRX10_335 ylX10_write yvX10_write rfl rfl rfl (Nat.le_of_ble_eq_true rfl) ⟨Nat.le_of_ble_eq_true rfl, Nat.le_of_ble_eq_true rfl⟩ (xX10_write (2 : Int32) q9.2 hq11) rfl ?_
  refine AX.i2l dX10_digest_218 ?_
  obtain ⟨q12, hq12, hz⟩ := obind hz
  refine AX.callSw (As := [.long q10, .long q11.1.toInt64]) (rest := []) (w := some (.long q12)) (st' := [.long q12]) dX10_digest_219 mlRX10_306 ylX10_mixed ysX10_mixed rfl rfl (Nat.le_of_ble_eq_true rfl) ⟨Nat.le_of_ble_eq_true rfl, Nat.le_of_ble_eq_true rfl⟩ (xX10_mixed q10 q11.1.toInt64 q11.2 hq12) rfl ?_
  refine AX.aload_n dX10_digest_222 0 rfl rfl ?_
  refine AX.bipush dX10_digest_223 bp_8 ?_
  obtain ⟨q13, hq13, hz⟩ := obind hz
  refine AX.callVw (r := 0) (As := [.int 8]) (rest := [.long q12]) (w := some (.int q13.1)) (st' := [.int q13.1, .long q12]) dX10_digest_225 mlRX10_338 ylX10_few yvX10_few rfl rfl rfl (Nat.le_of_ble_eq_true rfl) ⟨Nat.le_of_ble_eq_true rfl, Nat.le_of_ble_eq_true rfl⟩ (xX10_few (8 : Int32) q11.2 hq13) rfl ?_
  refine AX.i2l dX10_digest_228 ?_
  obtain ⟨q14, hq14, hz⟩ := obind hz
  refine AX.callSw (As := [.long q12, .long q13.1.toInt64]) (rest := []) (w := some (.long q14)) (st' := [.long q14]) dX10_digest_229 mlRX10_306 ylX10_mixed ysX10_mixed rfl rfl (Nat.le_of_ble_eq_true rfl) ⟨Nat.le_of_ble_eq_true rfl, Nat.le_of_ble_eq_true rfl⟩ (xX10_mixed q12 q13.1.toInt64 q13.2 hq14) rfl ?_
  refine AX.lstore_n (ls' := [(0, .ref (G.2.2.1 0)), (1, .long q14)]) dX10_digest_232 rfl (Nat.le_of_ble_eq_true rfl) rfl ?_
  refine AX.iconst dX10_digest_233 ic_0 ?_
  refine AX.istore_n (ls' := [(0, .ref (G.2.2.1 0)), (1, .long q14), (3, .int 0)]) dX10_digest_234 rfl (Nat.le_of_ble_eq_true rfl) rfl ?_
  obtain ⟨r15, hr15, hz⟩ := obind hz
  refine AX.sub (ls' := [(0, .ref (G.2.2.1 0)), (1, .long q14), (3, .int 0)]) [0, 1, 2] rfl ?_
  refine lpc_ind (s := (q14, 0, q13.2)) (r := r15) (fun s => AX G mX10_digest 6 159 235 [(0, .ref (G.2.2.1 0)), (1, .long s.1), (3, .int s.2.1)] [] s.2.2 Q) (fun a : Int64 × St => AX G mX10_digest 6 159 263 [(0, .ref (G.2.2.1 0)), (1, .long a.1)] [] a.2 Q) hr15 (fun s z hb hK => wfX10_digest_b235  s.1 s.2.1 s.2.2 hb (Sum.elim (fun s => AX G mX10_digest 6 159 235 [(0, .ref (G.2.2.1 0)), (1, .long s.1), (3, .int s.2.1)] [] s.2.2 Q) (fun a : Int64 × St => AX G mX10_digest 6 159 263 [(0, .ref (G.2.2.1 0)), (1, .long a.1)] [] a.2 Q)) (fun _ h9 => h9) (fun _ h9 => h9) hK) ?_
  refine AX.lload_n dX10_digest_263 1 rfl rfl ?_
  refine AX.aload_n dX10_digest_264 0 rfl rfl ?_
  refine AX.bipush dX10_digest_265 bp_9 ?_
  refine AX.bipush dX10_digest_267 bp_12 ?_
  refine AX.iconst dX10_digest_269 ic_0 ?_
  obtain ⟨q16, hq16, hz⟩ := obind hz
  refine AX.callVw (r := 0) (As := [.int 9, .int 12, .int 0]) (rest := [.long r15.1]) (w := some (.long q16)) (st' := [.long q16, .long r15.1]) dX10_digest_270 mlRX10_344 ylX10_joint yvX10_joint rfl rfl rfl (Nat.le_of_ble_eq_true rfl) ⟨Nat.le_of_ble_eq_true rfl, Nat.le_of_ble_eq_true rfl⟩ (xX10_joint (9 : Int32) (12 : Int32) (0 : Int32) r15.2 hq16) rfl ?_
  obtain ⟨q17, hq17, hz⟩ := obind hz
  refine AX.callSw (As := [.long r15.1, .long q16]) (rest := []) (w := some (.long q17)) (st' := [.long q17]) dX10_digest_273 mlRX10_306 ylX10_mixed ysX10_mixed rfl rfl (Nat.le_of_ble_eq_true rfl) ⟨Nat.le_of_ble_eq_true rfl, Nat.le_of_ble_eq_true rfl⟩ (xX10_mixed r15.1 q16 r15.2 hq17) rfl ?_
  refine AX.aload_n dX10_digest_276 0 rfl rfl ?_
  refine AX.bipush dX10_digest_277 bp_9 ?_
  refine AX.bipush dX10_digest_279 bp_12 ?_
  refine AX.iconst dX10_digest_281 ic_1 ?_
  obtain ⟨q18, hq18, hz⟩ := obind hz
  refine AX.callVw (r := 0) (As := [.int 9, .int 12, .int 1]) (rest := [.long q17]) (w := some (.long q18)) (st' := [.long q18, .long q17]) dX10_digest_282 mlRX10_344 ylX10_joint yvX10_joint rfl rfl rfl (Nat.le_of_ble_eq_true rfl) ⟨Nat.le_of_ble_eq_true rfl, Nat.le_of_ble_eq_true rfl⟩ (xX10_joint (9 : Int32) (12 : Int32) (1 : Int32) r15.2 hq18) rfl ?_
  obtain ⟨q19, hq19, hz⟩ := obind hz
  refine AX.callSw (As := [.long q17, .long q18]) (rest := []) (w := some (.long q19)) (st' := [.long q19]) dX10_digest_285 mlRX10_306 ylX10_mixed ysX10_mixed rfl rfl (Nat.le_of_ble_eq_true rfl) ⟨Nat.le_of_ble_eq_true rfl, Nat.le_of_ble_eq_true rfl⟩ (xX10_mixed q17 q18 r15.2 hq19) rfl ?_
  refine AX.lstore_n (ls' := [(0, .ref (G.2.2.1 0)), (1, .long q19)]) dX10_digest_288 rfl (Nat.le_of_ble_eq_true rfl) rfl ?_
  refine AX.iconst dX10_digest_289 ic_0 ?_
  refine AX.istore_n (ls' := [(0, .ref (G.2.2.1 0)), (1, .long q19), (3, .int 0)]) dX10_digest_290 rfl (Nat.le_of_ble_eq_true rfl) rfl ?_
  obtain ⟨r20, hr20, hz⟩ := obind hz
  refine AX.sub (ls' := [(0, .ref (G.2.2.1 0)), (1, .long q19), (3, .int 0)]) [0, 1, 2] rfl ?_
  refine lpc_ind (s := (q19, 0, r15.2)) (r := r20) (fun s => AX G mX10_digest 6 159 291 [(0, .ref (G.2.2.1 0)), (1, .long s.1), (3, .int s.2.1)] [] s.2.2 Q) (fun a : Int64 × St => AX G mX10_digest 6 159 323 [(0, .ref (G.2.2.1 0)), (1, .long a.1)] [] a.2 Q) hr20 (fun s z hb hK => wfX10_digest_b291  s.1 s.2.1 s.2.2 hb (Sum.elim (fun s => AX G mX10_digest 6 159 291 [(0, .ref (G.2.2.1 0)), (1, .long s.1), (3, .int s.2.1)] [] s.2.2 Q) (fun a : Int64 × St => AX G mX10_digest 6 159 323 [(0, .ref (G.2.2.1 0)), (1, .long a.1)] [] a.2 Q)) (fun _ h9 => h9) (fun _ h9 => h9) hK) ?_
  refine AX.lload_n dX10_digest_323 1 rfl rfl ?_
  refine AX.aload_n dX10_digest_324 0 rfl rfl ?_
  refine AX.iconst dX10_digest_325 ic_0 ?_
  obtain ⟨q21, hq21, hz⟩ := obind hz
  refine AX.callVw (r := 0) (As := [.int 0]) (rest := [.long r20.1]) (w := some (.int q21.1)) (st' := [.int q21.1, .long r20.1]) dX10_digest_326 mlRX10_350 ylX10_prime yvX10_prime rfl rfl rfl (Nat.le_of_ble_eq_true rfl) ⟨Nat.le_of_ble_eq_true rfl, Nat.le_of_ble_eq_true rfl⟩ (xX10_prime (0 : Int32) r20.2 hq21) rfl ?_
  refine AX.i2l dX10_digest_329 ?_
  obtain ⟨q22, hq22, hz⟩ := obind hz
  refine AX.callSw (As := [.long r20.1, .long q21.1.toInt64]) (rest := []) (w := some (.long q22)) (st' := [.long q22]) dX10_digest_330 mlRX10_306 ylX10_mixed ysX10_mixed rfl rfl (Nat.le_of_ble_eq_true rfl) ⟨Nat.le_of_ble_eq_true rfl, Nat.le_of_ble_eq_true rfl⟩ (xX10_mixed r20.1 q21.1.toInt64 q21.2 hq22) rfl ?_
  refine AX.aload_n dX10_digest_333 0 rfl rfl ?_
  refine AX.iconst dX10_digest_334 ic_1 ?_
  obtain ⟨q23, hq23, hz⟩ := obind hz
  refine AX.callVw (r := 0) (As := [.int 1]) (rest := [.long q22]) (w := some (.int q23.1)) (st' := [.int q23.1, .long q22]) dX10_digest_335 mlRX10_350 ylX10_prime yvX10_prime rfl rfl rfl (Nat.le_of_ble_eq_true rfl) ⟨Nat.le_of_ble_eq_true rfl, Nat.le_of_ble_eq_true rfl⟩ (xX10_prime (1 : Int32) q21.2 hq23) rfl ?_
  refine AX.i2l dX10_digest_338 ?_
  obtain ⟨q24, hq24, hz⟩ := obind hz
  refine AX.callSw (As := [.long q22, .long q23.1.toInt64]) (rest := []) (w := some (.long q24)) (st' := [.long q24]) dX10_digest_339 mlRX10_306 ylX10_mixed ysX10_mixed rfl rfl (Nat.le_of_ble_eq_true rfl) ⟨Nat.le_of_ble_eq_true rfl, Nat.le_of_ble_eq_true rfl⟩ (xX10_mixed q22 q23.1.toInt64 q23.2 hq24) rfl ?_
  refine AX.lstore_n (ls' := [(0, .ref (G.2.2.1 0)), (1, .long q24)]) dX10_digest_342 rfl (Nat.le_of_ble_eq_true rfl) rfl ?_
  refine AX.lload_n dX10_digest_343 1 rfl rfl ?_
  refine AX.aload_n dX10_digest_344 0 rfl rfl ?_
  refine AX.iconst dX10_digest_345 ic_0 ?_
  obtain ⟨q25, hq25, hz⟩ := obind hz
  refine AX.callVw (r := 0) (As := [.int 0]) (rest := [.long q24]) (w := some (.int q25.1)) (st' := [.int q25.1, .long q24]) dX10_digest_346 mlRX10_353 ylX10_worth yvX10_worth rfl rfl rfl (Nat.le_of_ble_eq_true rfl) ⟨Nat.le_of_ble_eq_true rfl, Nat.le_of_ble_eq_true rfl⟩ (xX10_worth (0 : Int32) q23.2 hq25) rfl ?_
  refine AX.i2l dX10_digest_349 ?_
  obtain ⟨q26, hq26, hz⟩ := obind hz
  refine AX.callSw (As := [.long q24, .long q25.1.toInt64]) (rest := []) (w := some (.long q26)) (st' := [.long q26]) dX10_digest_350 mlRX10_306 ylX10_mixed ysX10_mixed rfl rfl (Nat.le_of_ble_eq_true rfl) ⟨Nat.le_of_ble_eq_true rfl, Nat.le_of_ble_eq_true rfl⟩ (xX10_mixed q24 q25.1.toInt64 q25.2 hq26) rfl ?_
  refine AX.aload_n dX10_digest_353 0 rfl rfl ?_
  refine AX.iconst dX10_digest_354 ic_1 ?_
  obtain ⟨q27, hq27, hz⟩ := obind hz
  refine AX.callVw (r := 0) (As := [.int 1]) (rest := [.long q26]) (w := some (.int q27.1)) (st' := [.int q27.1, .long q26]) dX10_digest_355 mlRX10_353 ylX10_worth yvX10_worth rfl rfl rfl (Nat.le_of_ble_eq_true rfl) ⟨Nat.le_of_ble_eq_true rfl, Nat.le_of_ble_eq_true rfl⟩ (xX10_worth (1 : Int32) q25.2 hq27) rfl ?_
  refine AX.i2l dX10_digest_358 ?_
  obtain ⟨q28, hq28, hz⟩ := obind hz
  refine AX.callSw (As := [.long q26, .long q27.1.toInt64]) (rest := []) (w := some (.long q28)) (st' := [.long q28]) dX10_digest_359 mlRX10_306 ylX10_mixed ysX10_mixed rfl rfl (Nat.le_of_ble_eq_true rfl) ⟨Nat.le_of_ble_eq_true rfl, Nat.le_of_ble_eq_true rfl⟩ (xX10_mixed q26 q27.1.toInt64 q27.2 hq28) rfl ?_
  refine AX.aload_n dX10_digest_362 0 rfl rfl ?_
  refine AX.bipush dX10_digest_363 bp_9 ?_
  obtain ⟨q29, hq29, hz⟩ := obind hz
  refine AX.callVw (r := 0) (As := [.int 9]) (rest := [.long q28]) (w := some (.int q29.1)) (st' := [.int q29.1, .long q28]) dX10_digest_365 mlRX10_356 ylX10_look yvX10_look rfl rfl rfl (Nat.le_of_ble_eq_true rfl) ⟨Nat.le_of_ble_eq_true rfl, Nat.le_of_ble_eq_true rfl⟩ (xX10_look (9 : Int32) q27.2 hq29) rfl ?_
  refine AX.i2l dX10_digest_368 ?_
  obtain ⟨q30, hq30, hz⟩ := obind hz
  refine AX.callSw (As := [.long q28, .long q29.1.toInt64]) (rest := []) (w := some (.long q30)) (st' := [.long q30]) dX10_digest_369 mlRX10_306 ylX10_mixed ysX10_mixed rfl rfl (Nat.le_of_ble_eq_true rfl) ⟨Nat.le_of_ble_eq_true rfl, Nat.le_of_ble_eq_true rfl⟩ (xX10_mixed q28 q29.1.toInt64 q29.2 hq30) rfl ?_
  refine AX.lstore_n (ls' := [(0, .ref (G.2.2.1 0)), (1, .long q30)]) dX10_digest_372 rfl (Nat.le_of_ble_eq_true rfl) rfl ?_
  refine AX.lload_n dX10_digest_373 1 rfl rfl ?_
  refine AX.aload_n dX10_digest_374 0 rfl rfl ?_
  refine AX.iconst dX10_digest_375 ic_0 ?_
  obtain ⟨q31, hq31, hz⟩ := obind hz
  refine AX.callVw (r := 0) (As := [.int 0]) (rest := [.long q30]) (w := some (.int q31)) (st' := [.int q31, .long q30]) dX10_digest_376 mlRX10_359 ylX10_wrong yvX10_wrong rfl rfl rfl (Nat.le_of_ble_eq_true rfl) ⟨Nat.le_of_ble_eq_true rfl, Nat.le_of_ble_eq_true rfl⟩ (xX10_wrong (0 : Int32) q29.2 hq31) rfl ?_
  refine AX.i2l dX10_digest_379 ?_
  obtain ⟨q32, hq32, hz⟩ := obind hz
  refine AX.callSw (As := [.long q30, .long q31.toInt64]) (rest := []) (w := some (.long q32)) (st' := [.long q32]) dX10_digest_380 mlRX10_306 ylX10_mixed ysX10_mixed rfl rfl (Nat.le_of_ble_eq_true rfl) ⟨Nat.le_of_ble_eq_true rfl, Nat.le_of_ble_eq_true rfl⟩ (xX10_mixed q30 q31.toInt64 q29.2 hq32) rfl ?_
  refine AX.aload_n dX10_digest_383 0 rfl rfl ?_
  refine AX.iconst dX10_digest_384 ic_1 ?_
  obtain ⟨q33, hq33, hz⟩ := obind hz
  refine AX.callVw (r := 0) (As := [.int 1]) (rest := [.long q32]) (w := some (.int q33)) (st' := [.int q33, .long q32]) dX10_digest_385 mlRX10_359 ylX10_wrong yvX10_wrong rfl rfl rfl (Nat.le_of_ble_eq_true rfl) ⟨Nat.le_of_ble_eq_true rfl, Nat.le_of_ble_eq_true rfl⟩ (xX10_wrong (1 : Int32) q29.2 hq33) rfl ?_
  refine AX.i2l dX10_digest_388 ?_
  obtain ⟨q34, hq34, hz⟩ := obind hz
  refine AX.callSw (As := [.long q32, .long q33.toInt64]) (rest := []) (w := some (.long q34)) (st' := [.long q34]) dX10_digest_389 mlRX10_306 ylX10_mixed ysX10_mixed rfl rfl (Nat.le_of_ble_eq_true rfl) ⟨Nat.le_of_ble_eq_true rfl, Nat.le_of_ble_eq_true rfl⟩ (xX10_mixed q32 q33.toInt64 q29.2 hq34) rfl ?_
  refine AX.aload_n dX10_digest_392 0 rfl rfl ?_
  obtain ⟨q35, hq35, hz⟩ := obind hz
  refine AX.callVw (r := 0) (As := []) (rest := [.long q34]) (w := some (.int q35)) (st' := [.int q35, .long q34]) dX10_digest_393 mlRX10_362 ylX10_blame yvX10_blame rfl rfl rfl (Nat.le_of_ble_eq_true rfl) ⟨Nat.le_of_ble_eq_true rfl, Nat.le_of_ble_eq_true rfl⟩ (xX10_blame  q29.2 hq35) rfl ?_
  refine AX.i2l dX10_digest_396 ?_
  obtain ⟨q36, hq36, hz⟩ := obind hz
  refine AX.callSw (As := [.long q34, .long q35.toInt64]) (rest := []) (w := some (.long q36)) (st' := [.long q36]) dX10_digest_397 mlRX10_306 ylX10_mixed ysX10_mixed rfl rfl (Nat.le_of_ble_eq_true rfl) ⟨Nat.le_of_ble_eq_true rfl, Nat.le_of_ble_eq_true rfl⟩ (xX10_mixed q34 q35.toInt64 q29.2 hq36) rfl ?_
  refine AX.lstore_n (ls' := [(0, .ref (G.2.2.1 0)), (1, .long q36)]) dX10_digest_400 rfl (Nat.le_of_ble_eq_true rfl) rfl ?_
  refine AX.lload_n dX10_digest_401 1 rfl rfl ?_
  refine AX.aload_n dX10_digest_402 0 rfl rfl ?_
  refine AX.bipush dX10_digest_403 bp_7 ?_
  refine AX.iconst dX10_digest_405 ic_0 ?_
  obtain ⟨q37, hq37, hz⟩ := obind hz
  refine AX.callVw (r := 0) (As := [.int 7, .int 0]) (rest := [.long q36]) (w := some (.int q37.1)) (st' := [.int q37.1, .long q36]) dX10_digest_406 mlRX10_365 ylX10_night yvX10_night rfl rfl rfl (Nat.le_of_ble_eq_true rfl) ⟨Nat.le_of_ble_eq_true rfl, Nat.le_of_ble_eq_true rfl⟩ (xX10_night (7 : Int32) (0 : Int32) q29.2 hq37) rfl ?_
  refine AX.i2l dX10_digest_409 ?_
  obtain ⟨q38, hq38, hz⟩ := obind hz
  refine AX.callSw (As := [.long q36, .long q37.1.toInt64]) (rest := []) (w := some (.long q38)) (st' := [.long q38]) dX10_digest_410 mlRX10_306 ylX10_mixed ysX10_mixed rfl rfl (Nat.le_of_ble_eq_true rfl) ⟨Nat.le_of_ble_eq_true rfl, Nat.le_of_ble_eq_true rfl⟩ (xX10_mixed q36 q37.1.toInt64 q37.2 hq38) rfl ?_
  refine AX.aload_n dX10_digest_413 0 rfl rfl ?_
  refine AX.bipush dX10_digest_414 bp_7 ?_
  refine AX.bipush dX10_digest_416 bp_20 ?_
  obtain ⟨q39, hq39, hz⟩ := obind hz
  refine AX.callVw (r := 0) (As := [.int 7, .int 20]) (rest := [.long q38]) (w := some (.int q39.1)) (st' := [.int q39.1, .long q38]) dX10_digest_418 mlRX10_365 ylX10_night yvX10_night rfl rfl rfl (Nat.le_of_ble_eq_true rfl) ⟨Nat.le_of_ble_eq_true rfl, Nat.le_of_ble_eq_true rfl⟩ (xX10_night (7 : Int32) (20 : Int32) q37.2 hq39) rfl ?_
  refine AX.i2l dX10_digest_421 ?_
  obtain ⟨q40, hq40, hz⟩ := obind hz
  refine AX.callSw (As := [.long q38, .long q39.1.toInt64]) (rest := []) (w := some (.long q40)) (st' := [.long q40]) dX10_digest_422 mlRX10_306 ylX10_mixed ysX10_mixed rfl rfl (Nat.le_of_ble_eq_true rfl) ⟨Nat.le_of_ble_eq_true rfl, Nat.le_of_ble_eq_true rfl⟩ (xX10_mixed q38 q39.1.toInt64 q39.2 hq40) rfl ?_
  exact AX.lreturn dX10_digest_425 rfl (kz (P := fun z => Q (some (.long z.1)) z.2) hz hk)
theorem xX10_digest {G : ag_G}  (σ : St) {z : Int64 × St} (hz : fX10_digest  σ = some z) : AC G yX10_digest mX10_digest 6 159 [.ref (G.2.2.1 0)] σ (fun v σ1 => v = some (.long z.1) ∧ σ1 = z.2) := AC.of (plainFor_of_name (by decide)) rfl (Nat.le_of_ble_eq_true rfl) (wfX10_digest  σ hz ⟨rfl, rfl⟩)
