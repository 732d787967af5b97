set_option maxRecDepth 100000 in
theorem law_ag {nm : String} {E : State → (Nat → Prop) → Prop} (D : va_G) (cs : Nat → ClassId) (b : Nat) (Q : Option Value → va_W → Prop) (kk : ∀ q1 q2 q3 q4 q5 q6 q7 q8 q9 q10 q11 q12 q13 q14 q15 q16 q17 q18 q19 q20 q21 q22 q23 q24 q25 q26 q27 q28 q29 q30 q31 q32 q33 q34 q35 q36 q37 q38 q39 q40 q41 q42 q43 q44 q45 q46 q47 q48 q49 q50 q51 q52 q53 q54 q55 q56 q57 q58 q59 q60 q61 q62 q63 q64 q65 q66 q67 q68 q69 q70 : Nat, AG E D cs mL_law nm 10 237 600000 7302250 [] [(q1, .inr (10, [.ref q2, .ref q8, .ref q10, .ref q13, .ref q16, .ref q20, .ref q25, .ref q28, .ref q33, .ref q35, .ref q36, .int 1, .int 0])), (q2, .inr (4, [.ref q3, .ref q4, .ref q5, .ref q6, .ref q7, .int 0, .int 0, .int 0, .int 0, .int (-1)])), (q3, .inl (cs 0, 60, .inl (fun _ => 0))), (q4, .inl (cs 0, 99, .inl (fun _ => 0))), (q5, .inl (cs 0, 99, .inl (fun _ => 0))), (q6, .inl (cs 0, 99, .inl (fun _ => 0))), (q7, .inl (cs 0, 6, .inl (fun _ => 0))), (q8, .inr (6, [.ref q9])), (q9, .inl (cs 0, 9, .inl (upd (upd (upd (upd (upd (upd (upd (upd (upd (fun _ => 0) 0 14) 1 2) 2 1) 3 13) 4 20) 5 30) 6 12) 7 1) 8 1))), (q10, .inr (3, [.ref q11, .ref q12])), (q11, .inl (cs 0, 3, .inl (upd (upd (upd (fun _ => 0) 0 2) 1 1) 2 3))), (q12, .inl (cs 0, 3, .inl (upd (upd (upd (fun _ => 0) 0 1) 1 3) 2 2))), (q13, .inr (3, [.ref q14, .ref q15])), (q14, .inl (cs 0, 3, .inl (upd (upd (upd (fun _ => 0) 0 2) 1 1) 2 3))), (q15, .inl (cs 0, 3, .inl (upd (upd (upd (fun _ => 0) 0 1) 1 3) 2 2))), (q16, .inr (2, [.ref q17, .ref q18, .ref q19, .int 0])), (q17, .inl (cs 0, 4, .inl (fun _ => 0))), (q18, .inl (cs 0, 4, .inl (fun _ => 0))), (q19, .inl (cs 0, 4, .inl (fun _ => 0))), (q20, .inr (9, [.ref q2, .ref q10, .ref q16, .ref q8, .ref q21, .ref q22, .ref q23, .ref q24])), (q21, .inl (cs 1, 2079, .inr (.inl (fun _ => 0)))), (q22, .inl (cs 1, 111, .inr (.inl (fun _ => 0)))), (q23, .inl (cs 1, 21, .inr (.inl (fun _ => 0)))), (q24, .inl (cs 1, 21, .inr (.inl (fun _ => 0)))), (q25, .inr (8, [.ref q2, .ref q26, .ref q27])), (q26, .inl (cs 1, 21, .inr (.inl (fun _ => 0)))), (q27, .inl (cs 1, 21, .inr (.inl (fun _ => 0)))), (q28, .inr (5, [.ref q29, .ref q30, .ref q31, .ref q32, .int 0])), (q29, .inl (cs 0, 8, .inl (fun _ => 0))), (q30, .inl (cs 0, 8, .inl (fun _ => 0))), (q31, .inl (cs 0, 8, .inl (fun _ => 0))), (q32, .inl (cs 0, 8, .inl (fun _ => 0))), (q33, .inr (0, [.ref q34, .int 0, .int 0])), (q34, .inl (cs 0, 20, .inl (fun _ => 0))), (q35, .inr (1, [.int 0])), (q36, .inl (cs 3, 4, .inr (.inr (.inr (.inr (va_up (va_up (va_up (va_up (fun _ => none) 0 (some q37)) 1 (some q39)) 2 (some q41)) 3 (some q43))))))), (q37, .inr (7, [.ref q38, .int 1, .int 0, .int 0])), (q38, .inl (cs 0, 48, .inl (fun _ => 0))), (q39, .inr (7, [.ref q40, .int 1, .int 0, .int 0])), (q40, .inl (cs 0, 48, .inl (fun _ => 0))), (q41, .inr (7, [.ref q42, .int 1, .int 0, .int 0])), (q42, .inl (cs 0, 48, .inl (fun _ => 0))), (q43, .inr (7, [.ref q44, .int 1, .int 0, .int 0])), (q44, .inl (cs 0, 48, .inl (fun _ => 0))), (q45, .inr (11, [.ref q46, .int 0, .int 0, .ref q47, .ref q48, .ref q49, .int 0, .int 0, .ref q50, .ref q51, .ref q52, .ref q53, .int 0, .ref q54, .int 0, .int 0, .ref q55, .ref q56, .ref q57, .ref q58, .ref q59, .ref q60, .long 0, .ref q61, .ref q62, .long 0, .int 0, .ref q63, .ref q64, .ref q65, .ref q66, .ref q67, .ref q68, .ref q69, .ref q70, .int 0])), (q46, .inl (cs 0, 60, .inl (fun _ => 0))), (q47, .inl (cs 0, 100, .inl (fun _ => 0))), (q48, .inl (cs 0, 100, .inl (fun _ => 0))), (q49, .inl (cs 0, 100, .inl (fun _ => 0))), (q50, .inl (cs 0, 7, .inl (fun _ => 0))), (q51, .inl (cs 0, 3, .inl (upd (upd (upd (fun _ => 0) 0 2) 1 1) 2 3))), (q52, .inl (cs 0, 3, .inl (upd (upd (upd (fun _ => 0) 0 1) 1 3) 2 2))), (q53, .inl (cs 0, 9, .inl (upd (upd (upd (upd (upd (upd (upd (upd (upd (fun _ => 0) 0 14) 1 2) 2 1) 3 13) 4 20) 5 30) 6 12) 7 1) 8 1))), (q54, .inl (cs 0, 20, .inl (fun _ => 0))), (q55, .inl (cs 0, 4, .inl (fun _ => 0))), (q56, .inl (cs 0, 4, .inl (fun _ => 0))), (q57, .inl (cs 0, 4, .inl (fun _ => 0))), (q58, .inl (cs 1, 112, .inr (.inl (fun _ => 0)))), (q59, .inl (cs 1, 112, .inr (.inl (fun _ => 0)))), (q60, .inl (cs 1, 100, .inr (.inl (fun _ => 0)))), (q61, .inl (cs 1, 21, .inr (.inl (fun _ => 0)))), (q62, .inl (cs 1, 21, .inr (.inl (fun _ => 0)))), (q63, .inl (cs 0, 8, .inl (fun _ => 0))), (q64, .inl (cs 0, 8, .inl (fun _ => 0))), (q65, .inl (cs 0, 99, .inl (fun _ => 0))), (q66, .inl (cs 2, 4, .inl (fun _ => 0))), (q67, .inl (cs 0, 4, .inl (fun _ => 0))), (q68, .inl (cs 0, 4, .inl (fun _ => 0))), (q69, .inl (cs 0, 192, .inl (fun _ => 0))), (q70, .inl (cs 0, 48, .inl (fun _ => 0)))] 70 4169 16 [(0, .ref b), (1, .ref q1), (2, .ref q45)] [] Q) : AG E D cs mL_law nm 10 237 600000 7302250 [] [] 0 0 0 [(0, .ref b)] [] Q := by
  refine AG.new dL_law_0 nwRL_7 ⟨Nat.le_of_ble_eq_true rfl, Nat.le_of_ble_eq_true rfl⟩ (fun q1 => ?_)
  refine AG.fit (nc' := 1) (ns' := 13) (ws' := [(q1, .inr (10, [.null, .null, .null, .null, .null, .null, .null, .null, .null, .null, .null, .int 0, .int 0]))]) rfl rfl rfl ?_
  refine AG.dup dL_law_3 rfl ?_
  refine AG.callI (As := []) (rest := [.ref q1]) [] dL_law_4 mlRL_9 yiX10_init rfl rfl rfl (Nat.le_of_ble_eq_true rfl) ⟨Nat.le_of_ble_eq_true rfl, Nat.le_of_ble_eq_true rfl⟩ ⟨Nat.le_of_ble_eq_true rfl, Nat.le_of_ble_eq_true rfl⟩ (cgX10_init D cs q1) ?_
  rintro _ ⟨q2, q3, q4, q5, q6, q7, q8, q9, q10, q11, q12, q13, q14, q15, q16, q17, q18, q19, q20, q21, q22, q23, q24, q25, q26, q27, q28, q29, q30, q31, q32, q33, q34, q35, q36, q37, q38, q39, q40, q41, q42, q43, q44, rfl⟩
  refine AG.fit (nc' := 44) (ns' := 2986) (ws' := [(q1, .inr (10, [.ref q2, .ref q8, .ref q10, .ref q13, .ref q16, .ref q20, .ref q25, .ref q28, .ref q33, .ref q35, .ref q36, .int 1, .int 0])), (q2, .inr (4, [.ref q3, .ref q4, .ref q5, .ref q6, .ref q7, .int 0, .int 0, .int 0, .int 0, .int (-1)])), (q3, .inl (cs 0, 60, .inl (fun _ => 0))), (q4, .inl (cs 0, 99, .inl (fun _ => 0))), (q5, .inl (cs 0, 99, .inl (fun _ => 0))), (q6, .inl (cs 0, 99, .inl (fun _ => 0))), (q7, .inl (cs 0, 6, .inl (fun _ => 0))), (q8, .inr (6, [.ref q9])), (q9, .inl (cs 0, 9, .inl (upd (upd (upd (upd (upd (upd (upd (upd (upd (fun _ => 0) 0 14) 1 2) 2 1) 3 13) 4 20) 5 30) 6 12) 7 1) 8 1))), (q10, .inr (3, [.ref q11, .ref q12])), (q11, .inl (cs 0, 3, .inl (upd (upd (upd (fun _ => 0) 0 2) 1 1) 2 3))), (q12, .inl (cs 0, 3, .inl (upd (upd (upd (fun _ => 0) 0 1) 1 3) 2 2))), (q13, .inr (3, [.ref q14, .ref q15])), (q14, .inl (cs 0, 3, .inl (upd (upd (upd (fun _ => 0) 0 2) 1 1) 2 3))), (q15, .inl (cs 0, 3, .inl (upd (upd (upd (fun _ => 0) 0 1) 1 3) 2 2))), (q16, .inr (2, [.ref q17, .ref q18, .ref q19, .int 0])), (q17, .inl (cs 0, 4, .inl (fun _ => 0))), (q18, .inl (cs 0, 4, .inl (fun _ => 0))), (q19, .inl (cs 0, 4, .inl (fun _ => 0))), (q20, .inr (9, [.ref q2, .ref q10, .ref q16, .ref q8, .ref q21, .ref q22, .ref q23, .ref q24])), (q21, .inl (cs 1, 2079, .inr (.inl (fun _ => 0)))), (q22, .inl (cs 1, 111, .inr (.inl (fun _ => 0)))), (q23, .inl (cs 1, 21, .inr (.inl (fun _ => 0)))), (q24, .inl (cs 1, 21, .inr (.inl (fun _ => 0)))), (q25, .inr (8, [.ref q2, .ref q26, .ref q27])), (q26, .inl (cs 1, 21, .inr (.inl (fun _ => 0)))), (q27, .inl (cs 1, 21, .inr (.inl (fun _ => 0)))), (q28, .inr (5, [.ref q29, .ref q30, .ref q31, .ref q32, .int 0])), (q29, .inl (cs 0, 8, .inl (fun _ => 0))), (q30, .inl (cs 0, 8, .inl (fun _ => 0))), (q31, .inl (cs 0, 8, .inl (fun _ => 0))), (q32, .inl (cs 0, 8, .inl (fun _ => 0))), (q33, .inr (0, [.ref q34, .int 0, .int 0])), (q34, .inl (cs 0, 20, .inl (fun _ => 0))), (q35, .inr (1, [.int 0])), (q36, .inl (cs 3, 4, .inr (.inr (.inr (.inr (va_up (va_up (va_up (va_up (fun _ => none) 0 (some q37)) 1 (some q39)) 2 (some q41)) 3 (some q43))))))), (q37, .inr (7, [.ref q38, .int 1, .int 0, .int 0])), (q38, .inl (cs 0, 48, .inl (fun _ => 0))), (q39, .inr (7, [.ref q40, .int 1, .int 0, .int 0])), (q40, .inl (cs 0, 48, .inl (fun _ => 0))), (q41, .inr (7, [.ref q42, .int 1, .int 0, .int 0])), (q42, .inl (cs 0, 48, .inl (fun _ => 0))), (q43, .inr (7, [.ref q44, .int 1, .int 0, .int 0])), (q44, .inl (cs 0, 48, .inl (fun _ => 0)))]) rfl rfl rfl ?_
  refine AG.astore_n (ls' := [(0, .ref b), (1, .ref q1)]) dL_law_7 rfl (Nat.le_of_ble_eq_true rfl) rfl ?_
  refine AG.new dL_law_8 nwRL_10 ⟨Nat.le_of_ble_eq_true rfl, Nat.le_of_ble_eq_true rfl⟩ (fun q45 => ?_)
  refine AG.fit (nc' := 45) (ns' := 3022) (ws' := [(q1, .inr (10, [.ref q2, .ref q8, .ref q10, .ref q13, .ref q16, .ref q20, .ref q25, .ref q28, .ref q33, .ref q35, .ref q36, .int 1, .int 0])), (q2, .inr (4, [.ref q3, .ref q4, .ref q5, .ref q6, .ref q7, .int 0, .int 0, .int 0, .int 0, .int (-1)])), (q3, .inl (cs 0, 60, .inl (fun _ => 0))), (q4, .inl (cs 0, 99, .inl (fun _ => 0))), (q5, .inl (cs 0, 99, .inl (fun _ => 0))), (q6, .inl (cs 0, 99, .inl (fun _ => 0))), (q7, .inl (cs 0, 6, .inl (fun _ => 0))), (q8, .inr (6, [.ref q9])), (q9, .inl (cs 0, 9, .inl (upd (upd (upd (upd (upd (upd (upd (upd (upd (fun _ => 0) 0 14) 1 2) 2 1) 3 13) 4 20) 5 30) 6 12) 7 1) 8 1))), (q10, .inr (3, [.ref q11, .ref q12])), (q11, .inl (cs 0, 3, .inl (upd (upd (upd (fun _ => 0) 0 2) 1 1) 2 3))), (q12, .inl (cs 0, 3, .inl (upd (upd (upd (fun _ => 0) 0 1) 1 3) 2 2))), (q13, .inr (3, [.ref q14, .ref q15])), (q14, .inl (cs 0, 3, .inl (upd (upd (upd (fun _ => 0) 0 2) 1 1) 2 3))), (q15, .inl (cs 0, 3, .inl (upd (upd (upd (fun _ => 0) 0 1) 1 3) 2 2))), (q16, .inr (2, [.ref q17, .ref q18, .ref q19, .int 0])), (q17, .inl (cs 0, 4, .inl (fun _ => 0))), (q18, .inl (cs 0, 4, .inl (fun _ => 0))), (q19, .inl (cs 0, 4, .inl (fun _ => 0))), (q20, .inr (9, [.ref q2, .ref q10, .ref q16, .ref q8, .ref q21, .ref q22, .ref q23, .ref q24])), (q21, .inl (cs 1, 2079, .inr (.inl (fun _ => 0)))), (q22, .inl (cs 1, 111, .inr (.inl (fun _ => 0)))), (q23, .inl (cs 1, 21, .inr (.inl (fun _ => 0)))), (q24, .inl (cs 1, 21, .inr (.inl (fun _ => 0)))), (q25, .inr (8, [.ref q2, .ref q26, .ref q27])), (q26, .inl (cs 1, 21, .inr (.inl (fun _ => 0)))), (q27, .inl (cs 1, 21, .inr (.inl (fun _ => 0)))), (q28, .inr (5, [.ref q29, .ref q30, .ref q31, .ref q32, .int 0])), (q29, .inl (cs 0, 8, .inl (fun _ => 0))), (q30, .inl (cs 0, 8, .inl (fun _ => 0))), (q31, .inl (cs 0, 8, .inl (fun _ => 0))), (q32, .inl (cs 0, 8, .inl (fun _ => 0))), (q33, .inr (0, [.ref q34, .int 0, .int 0])), (q34, .inl (cs 0, 20, .inl (fun _ => 0))), (q35, .inr (1, [.int 0])), (q36, .inl (cs 3, 4, .inr (.inr (.inr (.inr (va_up (va_up (va_up (va_up (fun _ => none) 0 (some q37)) 1 (some q39)) 2 (some q41)) 3 (some q43))))))), (q37, .inr (7, [.ref q38, .int 1, .int 0, .int 0])), (q38, .inl (cs 0, 48, .inl (fun _ => 0))), (q39, .inr (7, [.ref q40, .int 1, .int 0, .int 0])), (q40, .inl (cs 0, 48, .inl (fun _ => 0))), (q41, .inr (7, [.ref q42, .int 1, .int 0, .int 0])), (q42, .inl (cs 0, 48, .inl (fun _ => 0))), (q43, .inr (7, [.ref q44, .int 1, .int 0, .int 0])), (q44, .inl (cs 0, 48, .inl (fun _ => 0))), (q45, .inr (11, [.null, .int 0, .int 0, .null, .null, .null, .int 0, .int 0, .null, .null, .null, .null, .int 0, .null, .int 0, .int 0, .null, .null, .null, .null, .null, .null, .long 0, .null, .null, .long 0, .int 0, .null, .null, .null, .null, .null, .null, .null, .null, .int 0]))]) rfl rfl rfl ?_
  refine AG.dup dL_law_11 rfl ?_
  refine AG.callI (As := []) (rest := [.ref q45]) [(q1, .inr (10, [.ref q2, .ref q8, .ref q10, .ref q13, .ref q16, .ref q20, .ref q25, .ref q28, .ref q33, .ref q35, .ref q36, .int 1, .int 0])), (q2, .inr (4, [.ref q3, .ref q4, .ref q5, .ref q6, .ref q7, .int 0, .int 0, .int 0, .int 0, .int (-1)])), (q3, .inl (cs 0, 60, .inl (fun _ => 0))), (q4, .inl (cs 0, 99, .inl (fun _ => 0))), (q5, .inl (cs 0, 99, .inl (fun _ => 0))), (q6, .inl (cs 0, 99, .inl (fun _ => 0))), (q7, .inl (cs 0, 6, .inl (fun _ => 0))), (q8, .inr (6, [.ref q9])), (q9, .inl (cs 0, 9, .inl (upd (upd (upd (upd (upd (upd (upd (upd (upd (fun _ => 0) 0 14) 1 2) 2 1) 3 13) 4 20) 5 30) 6 12) 7 1) 8 1))), (q10, .inr (3, [.ref q11, .ref q12])), (q11, .inl (cs 0, 3, .inl (upd (upd (upd (fun _ => 0) 0 2) 1 1) 2 3))), (q12, .inl (cs 0, 3, .inl (upd (upd (upd (fun _ => 0) 0 1) 1 3) 2 2))), (q13, .inr (3, [.ref q14, .ref q15])), (q14, .inl (cs 0, 3, .inl (upd (upd (upd (fun _ => 0) 0 2) 1 1) 2 3))), (q15, .inl (cs 0, 3, .inl (upd (upd (upd (fun _ => 0) 0 1) 1 3) 2 2))), (q16, .inr (2, [.ref q17, .ref q18, .ref q19, .int 0])), (q17, .inl (cs 0, 4, .inl (fun _ => 0))), (q18, .inl (cs 0, 4, .inl (fun _ => 0))), (q19, .inl (cs 0, 4, .inl (fun _ => 0))), (q20, .inr (9, [.ref q2, .ref q10, .ref q16, .ref q8, .ref q21, .ref q22, .ref q23, .ref q24])), (q21, .inl (cs 1, 2079, .inr (.inl (fun _ => 0)))), (q22, .inl (cs 1, 111, .inr (.inl (fun _ => 0)))), (q23, .inl (cs 1, 21, .inr (.inl (fun _ => 0)))), (q24, .inl (cs 1, 21, .inr (.inl (fun _ => 0)))), (q25, .inr (8, [.ref q2, .ref q26, .ref q27])), (q26, .inl (cs 1, 21, .inr (.inl (fun _ => 0)))), (q27, .inl (cs 1, 21, .inr (.inl (fun _ => 0)))), (q28, .inr (5, [.ref q29, .ref q30, .ref q31, .ref q32, .int 0])), (q29, .inl (cs 0, 8, .inl (fun _ => 0))), (q30, .inl (cs 0, 8, .inl (fun _ => 0))), (q31, .inl (cs 0, 8, .inl (fun _ => 0))), (q32, .inl (cs 0, 8, .inl (fun _ => 0))), (q33, .inr (0, [.ref q34, .int 0, .int 0])), (q34, .inl (cs 0, 20, .inl (fun _ => 0))), (q35, .inr (1, [.int 0])), (q36, .inl (cs 3, 4, .inr (.inr (.inr (.inr (va_up (va_up (va_up (va_up (fun _ => none) 0 (some q37)) 1 (some q39)) 2 (some q41)) 3 (some q43))))))), (q37, .inr (7, [.ref q38, .int 1, .int 0, .int 0])), (q38, .inl (cs 0, 48, .inl (fun _ => 0))), (q39, .inr (7, [.ref q40, .int 1, .int 0, .int 0])), (q40, .inl (cs 0, 48, .inl (fun _ => 0))), (q41, .inr (7, [.ref q42, .int 1, .int 0, .int 0])), (q42, .inl (cs 0, 48, .inl (fun _ => 0))), (q43, .inr (7, [.ref q44, .int 1, .int 0, .int 0])), (q44, .inl (cs 0, 48, .inl (fun _ => 0)))] dL_law_12 mlRL_12 yiX11_init rfl rfl rfl (Nat.le_of_ble_eq_true rfl) ⟨Nat.le_of_ble_eq_true rfl, Nat.le_of_ble_eq_true rfl⟩ ⟨Nat.le_of_ble_eq_true rfl, Nat.le_of_ble_eq_true rfl⟩ (cgX11_init D cs q45) ?_
  rintro _ ⟨q46, q47, q48, q49, q50, q51, q52, q53, q54, q55, q56, q57, q58, q59, q60, q61, q62, q63, q64, q65, q66, q67, q68, q69, q70, rfl⟩
  refine AG.fit (nc' := 70) (ns' := 4169) (ws' := [(q1, .inr (10, [.ref q2, .ref q8, .ref q10, .ref q13, .ref q16, .ref q20, .ref q25, .ref q28, .ref q33, .ref q35, .ref q36, .int 1, .int 0])), (q2, .inr (4, [.ref q3, .ref q4, .ref q5, .ref q6, .ref q7, .int 0, .int 0, .int 0, .int 0, .int (-1)])), (q3, .inl (cs 0, 60, .inl (fun _ => 0))), (q4, .inl (cs 0, 99, .inl (fun _ => 0))), (q5, .inl (cs 0, 99, .inl (fun _ => 0))), (q6, .inl (cs 0, 99, .inl (fun _ => 0))), (q7, .inl (cs 0, 6, .inl (fun _ => 0))), (q8, .inr (6, [.ref q9])), (q9, .inl (cs 0, 9, .inl (upd (upd (upd (upd (upd (upd (upd (upd (upd (fun _ => 0) 0 14) 1 2) 2 1) 3 13) 4 20) 5 30) 6 12) 7 1) 8 1))), (q10, .inr (3, [.ref q11, .ref q12])), (q11, .inl (cs 0, 3, .inl (upd (upd (upd (fun _ => 0) 0 2) 1 1) 2 3))), (q12, .inl (cs 0, 3, .inl (upd (upd (upd (fun _ => 0) 0 1) 1 3) 2 2))), (q13, .inr (3, [.ref q14, .ref q15])), (q14, .inl (cs 0, 3, .inl (upd (upd (upd (fun _ => 0) 0 2) 1 1) 2 3))), (q15, .inl (cs 0, 3, .inl (upd (upd (upd (fun _ => 0) 0 1) 1 3) 2 2))), (q16, .inr (2, [.ref q17, .ref q18, .ref q19, .int 0])), (q17, .inl (cs 0, 4, .inl (fun _ => 0))), (q18, .inl (cs 0, 4, .inl (fun _ => 0))), (q19, .inl (cs 0, 4, .inl (fun _ => 0))), (q20, .inr (9, [.ref q2, .ref q10, .ref q16, .ref q8, .ref q21, .ref q22, .ref q23, .ref q24])), (q21, .inl (cs 1, 2079, .inr (.inl (fun _ => 0)))), (q22, .inl (cs 1, 111, .inr (.inl (fun _ => 0)))), (q23, .inl (cs 1, 21, .inr (.inl (fun _ => 0)))), (q24, .inl (cs 1, 21, .inr (.inl (fun _ => 0)))), (q25, .inr (8, [.ref q2, .ref q26, .ref q27])), (q26, .inl (cs 1, 21, .inr (.inl (fun _ => 0)))), (q27, .inl (cs 1, 21, .inr (.inl (fun _ => 0)))), (q28, .inr (5, [.ref q29, .ref q30, .ref q31, .ref q32, .int 0])), (q29, .inl (cs 0, 8, .inl (fun _ => 0))), (q30, .inl (cs 0, 8, .inl (fun _ => 0))), (q31, .inl (cs 0, 8, .inl (fun _ => 0))), (q32, .inl (cs 0, 8, .inl (fun _ => 0))), (q33, .inr (0, [.ref q34, .int 0, .int 0])), (q34, .inl (cs 0, 20, .inl (fun _ => 0))), (q35, .inr (1, [.int 0])), (q36, .inl (cs 3, 4, .inr (.inr (.inr (.inr (va_up (va_up (va_up (va_up (fun _ => none) 0 (some q37)) 1 (some q39)) 2 (some q41)) 3 (some q43))))))), (q37, .inr (7, [.ref q38, .int 1, .int 0, .int 0])), (q38, .inl (cs 0, 48, .inl (fun _ => 0))), (q39, .inr (7, [.ref q40, .int 1, .int 0, .int 0])), (q40, .inl (cs 0, 48, .inl (fun _ => 0))), (q41, .inr (7, [.ref q42, .int 1, .int 0, .int 0])), (q42, .inl (cs 0, 48, .inl (fun _ => 0))), (q43, .inr (7, [.ref q44, .int 1, .int 0, .int 0])), (q44, .inl (cs 0, 48, .inl (fun _ => 0))), (q45, .inr (11, [.ref q46, .int 0, .int 0, .ref q47, .ref q48, .ref q49, .int 0, .int 0, .ref q50, .ref q51, .ref q52, .ref q53, .int 0, .ref q54, .int 0, .int 0, .ref q55, .ref q56, .ref q57, .ref q58, .ref q59, .ref q60, .long 0, .ref q61, .ref q62, .long 0, .int 0, .ref q63, .ref q64, .ref q65, .ref q66, .ref q67, .ref q68, .ref q69, .ref q70, .int 0])), (q46, .inl (cs 0, 60, .inl (fun _ => 0))), (q47, .inl (cs 0, 100, .inl (fun _ => 0))), (q48, .inl (cs 0, 100, .inl (fun _ => 0))), (q49, .inl (cs 0, 100, .inl (fun _ => 0))), (q50, .inl (cs 0, 7, .inl (fun _ => 0))), (q51, .inl (cs 0, 3, .inl (upd (upd (upd (fun _ => 0) 0 2) 1 1) 2 3))), (q52, .inl (cs 0, 3, .inl (upd (upd (upd (fun _ => 0) 0 1) 1 3) 2 2))), (q53, .inl (cs 0, 9, .inl (upd (upd (upd (upd (upd (upd (upd (upd (upd (fun _ => 0) 0 14) 1 2) 2 1) 3 13) 4 20) 5 30) 6 12) 7 1) 8 1))), (q54, .inl (cs 0, 20, .inl (fun _ => 0))), (q55, .inl (cs 0, 4, .inl (fun _ => 0))), (q56, .inl (cs 0, 4, .inl (fun _ => 0))), (q57, .inl (cs 0, 4, .inl (fun _ => 0))), (q58, .inl (cs 1, 112, .inr (.inl (fun _ => 0)))), (q59, .inl (cs 1, 112, .inr (.inl (fun _ => 0)))), (q60, .inl (cs 1, 100, .inr (.inl (fun _ => 0)))), (q61, .inl (cs 1, 21, .inr (.inl (fun _ => 0)))), (q62, .inl (cs 1, 21, .inr (.inl (fun _ => 0)))), (q63, .inl (cs 0, 8, .inl (fun _ => 0))), (q64, .inl (cs 0, 8, .inl (fun _ => 0))), (q65, .inl (cs 0, 99, .inl (fun _ => 0))), (q66, .inl (cs 2, 4, .inl (fun _ => 0))), (q67, .inl (cs 0, 4, .inl (fun _ => 0))), (q68, .inl (cs 0, 4, .inl (fun _ => 0))), (q69, .inl (cs 0, 192, .inl (fun _ => 0))), (q70, .inl (cs 0, 48, .inl (fun _ => 0)))]) rfl rfl rfl ?_
  refine AG.astore_n (ls' := [(0, .ref b), (1, .ref q1), (2, .ref q45)]) dL_law_15 rfl (Nat.le_of_ble_eq_true rfl) rfl ?_
  exact kk q1 q2 q3 q4 q5 q6 q7 q8 q9 q10 q11 q12 q13 q14 q15 q16 q17 q18 q19 q20 q21 q22 q23 q24 q25 q26 q27 q28 q29 q30 q31 q32 q33 q34 q35 q36 q37 q38 q39 q40 q41 q42 q43 q44 q45 q46 q47 q48 q49 q50 q51 q52 q53 q54 q55 q56 q57 q58 q59 q60 q61 q62 q63 q64 q65 q66 q67 q68 q69 q70
def σ0 : St := (fun k => if k = 0 then (fun j => if j = 11 then 1 else 0) else if k = 1 then (fun j => if j = 9 then (-1) else 0) else if k = 8 then ((upd (upd (upd (upd (upd (upd (upd (upd (upd (fun _ => 0) 0 14) 1 2) 2 1) 3 13) 4 20) 5 30) 6 12) 7 1) 8 1)) else if k = 10 then ((upd (upd (upd (fun _ => 0) 0 2) 1 1) 2 3)) else if k = 11 then ((upd (upd (upd (fun _ => 0) 0 1) 1 3) 2 2)) else if k = 13 then ((upd (upd (upd (fun _ => 0) 0 2) 1 1) 2 3)) else if k = 14 then ((upd (upd (upd (fun _ => 0) 0 1) 1 3) 2 2)) else if k = 36 then (fun j => if j = 1 then 1 else 0) else if k = 38 then (fun j => if j = 1 then 1 else 0) else if k = 40 then (fun j => if j = 1 then 1 else 0) else if k = 42 then (fun j => if j = 1 then 1 else 0) else if k = 50 then ((upd (upd (upd (fun _ => 0) 0 2) 1 1) 2 3)) else if k = 51 then ((upd (upd (upd (fun _ => 0) 0 1) 1 3) 2 2)) else if k = 52 then ((upd (upd (upd (upd (upd (upd (upd (upd (upd (fun _ => 0) 0 14) 1 2) 2 1) 3 13) 4 20) 5 30) 6 12) 7 1) 8 1)) else fun _ => 0, fun _ _ => 0)
def gq (l : List Nat) (tD tM b k : Nat) : Nat := if k = 1000 then tD else if k = 1001 then tM else if k = 1002 then b else l.getD k 0
def mpx {α β : Type} (f : Nat → α → β) : Nat → List α → List β
  | _, [] => []
  | k, a :: l => f k a :: mpx f (k + 1) l
theorem mpx_ix {α β : Type} (f : Nat → α → β) : ∀ (l : List α) (k : Nat), mpx f k l = l.mapIdx (fun i a => f (k + i) a)
  | [], _ => rfl
  | a :: l, k => by
    rw [List.mapIdx_cons]
    show f k a :: mpx f (k + 1) l = _
    rw [mpx_ix f l (k + 1)]
    congr 1
    congr 1
    funext i a
    rw [Nat.add_assoc, Nat.add_comm 1 i]
theorem mpx_0 {α β : Type} (f : Nat → α → β) (l : List α) : l.mapIdx f = mpx f 0 l := by
  rw [mpx_ix]
  congr 1
  funext i a
  rw [Nat.zero_add]
def tw_cell' (G : ag_G) (σ : St) (k : Nat) (d : tw_D) : va_E := match d with
  | .inl o => .inr (o.1, mpx (tw_fld G σ k) 0 o.2)
  | .inr x => tw_cell G σ k (.inr x)
theorem tw_cell_eq (G : ag_G) (σ : St) (k : Nat) (d : tw_D) : tw_cell G σ k d = tw_cell' G σ k d := by
  cases d with
  | inl o => show Sum.inr (o.1, o.2.mapIdx (tw_fld G σ k)) = Sum.inr (o.1, mpx (tw_fld G σ k) 0 o.2); rw [mpx_0]
  | inr x => rfl
theorem tw_W_mpx (G : ag_G) (σ : St) : tw_W G σ = mpx (fun k d => (G.2.2.1 k, tw_cell' G σ k d)) 0 tw := by
  unfold tw_W
  rw [mpx_0]
  congr 1
  funext k d
  rw [tw_cell_eq]
set_option maxRecDepth 100000 in
theorem law_w0 (D : va_G) (cs : Nat → ClassId) (tD tM b L : Nat) (xs : Nat → Int32) (q1 q2 q3 q4 q5 q6 q7 q8 q9 q10 q11 q12 q13 q14 q15 q16 q17 q18 q19 q20 q21 q22 q23 q24 q25 q26 q27 q28 q29 q30 q31 q32 q33 q34 q35 q36 q37 q38 q39 q40 q41 q42 q43 q44 q45 q46 q47 q48 q49 q50 q51 q52 q53 q54 q55 q56 q57 q58 q59 q60 q61 q62 q63 q64 q65 q66 q67 q68 q69 q70 : Nat) (F : Nat → Option Nat) (hF : F = fun i => (([36, 38, 40, 42] : List Nat)[i]?).map (gq [q1, q2, q3, q4, q5, q6, q7, q8, q9, q10, q11, q12, q13, q14, q15, q16, q17, q18, q19, q20, q21, q22, q23, q24, q25, q26, q27, q28, q29, q30, q31, q32, q33, q34, q35, q36, q37, q38, q39, q40, q41, q42, q43, q44, q45, q46, q47, q48, q49, q50, q51, q52, q53, q54, q55, q56, q57, q58, q59, q60, q61, q62, q63, q64, q65, q66, q67, q68, q69, q70] tD tM b)) : [(q1, .inr (10, [.ref q2, .ref q8, .ref q10, .ref q13, .ref q16, .ref q20, .ref q25, .ref q28, .ref q33, .ref q35, .ref q36, .int 1, .int 0])), (q2, .inr (4, [.ref q3, .ref q4, .ref q5, .ref q6, .ref q7, .int 0, .int 0, .int 0, .int 0, .int (-1)])), (q3, .inl (cs 0, 60, .inl (fun _ => 0))), (q4, .inl (cs 0, 99, .inl (fun _ => 0))), (q5, .inl (cs 0, 99, .inl (fun _ => 0))), (q6, .inl (cs 0, 99, .inl (fun _ => 0))), (q7, .inl (cs 0, 6, .inl (fun _ => 0))), (q8, .inr (6, [.ref q9])), (q9, .inl (cs 0, 9, .inl (upd (upd (upd (upd (upd (upd (upd (upd (upd (fun _ => 0) 0 14) 1 2) 2 1) 3 13) 4 20) 5 30) 6 12) 7 1) 8 1))), (q10, .inr (3, [.ref q11, .ref q12])), (q11, .inl (cs 0, 3, .inl (upd (upd (upd (fun _ => 0) 0 2) 1 1) 2 3))), (q12, .inl (cs 0, 3, .inl (upd (upd (upd (fun _ => 0) 0 1) 1 3) 2 2))), (q13, .inr (3, [.ref q14, .ref q15])), (q14, .inl (cs 0, 3, .inl (upd (upd (upd (fun _ => 0) 0 2) 1 1) 2 3))), (q15, .inl (cs 0, 3, .inl (upd (upd (upd (fun _ => 0) 0 1) 1 3) 2 2))), (q16, .inr (2, [.ref q17, .ref q18, .ref q19, .int 0])), (q17, .inl (cs 0, 4, .inl (fun _ => 0))), (q18, .inl (cs 0, 4, .inl (fun _ => 0))), (q19, .inl (cs 0, 4, .inl (fun _ => 0))), (q20, .inr (9, [.ref q2, .ref q10, .ref q16, .ref q8, .ref q21, .ref q22, .ref q23, .ref q24])), (q21, .inl (cs 1, 2079, .inr (.inl (fun _ => 0)))), (q22, .inl (cs 1, 111, .inr (.inl (fun _ => 0)))), (q23, .inl (cs 1, 21, .inr (.inl (fun _ => 0)))), (q24, .inl (cs 1, 21, .inr (.inl (fun _ => 0)))), (q25, .inr (8, [.ref q2, .ref q26, .ref q27])), (q26, .inl (cs 1, 21, .inr (.inl (fun _ => 0)))), (q27, .inl (cs 1, 21, .inr (.inl (fun _ => 0)))), (q28, .inr (5, [.ref q29, .ref q30, .ref q31, .ref q32, .int 0])), (q29, .inl (cs 0, 8, .inl (fun _ => 0))), (q30, .inl (cs 0, 8, .inl (fun _ => 0))), (q31, .inl (cs 0, 8, .inl (fun _ => 0))), (q32, .inl (cs 0, 8, .inl (fun _ => 0))), (q33, .inr (0, [.ref q34, .int 0, .int 0])), (q34, .inl (cs 0, 20, .inl (fun _ => 0))), (q35, .inr (1, [.int 0])), (q36, .inl (cs 3, 4, .inr (.inr (.inr (.inr F))))), (q37, .inr (7, [.ref q38, .int 1, .int 0, .int 0])), (q38, .inl (cs 0, 48, .inl (fun _ => 0))), (q39, .inr (7, [.ref q40, .int 1, .int 0, .int 0])), (q40, .inl (cs 0, 48, .inl (fun _ => 0))), (q41, .inr (7, [.ref q42, .int 1, .int 0, .int 0])), (q42, .inl (cs 0, 48, .inl (fun _ => 0))), (q43, .inr (7, [.ref q44, .int 1, .int 0, .int 0])), (q44, .inl (cs 0, 48, .inl (fun _ => 0))), (q45, .inr (11, [.ref q46, .int 0, .int 0, .ref q47, .ref q48, .ref q49, .int 0, .int 0, .ref q50, .ref q51, .ref q52, .ref q53, .int 0, .ref q54, .int 0, .int 0, .ref q55, .ref q56, .ref q57, .ref q58, .ref q59, .ref q60, .long 0, .ref q61, .ref q62, .long 0, .int 0, .ref q63, .ref q64, .ref q65, .ref q66, .ref q67, .ref q68, .ref q69, .ref q70, .int 0])), (q46, .inl (cs 0, 60, .inl (fun _ => 0))), (q47, .inl (cs 0, 100, .inl (fun _ => 0))), (q48, .inl (cs 0, 100, .inl (fun _ => 0))), (q49, .inl (cs 0, 100, .inl (fun _ => 0))), (q50, .inl (cs 0, 7, .inl (fun _ => 0))), (q51, .inl (cs 0, 3, .inl (upd (upd (upd (fun _ => 0) 0 2) 1 1) 2 3))), (q52, .inl (cs 0, 3, .inl (upd (upd (upd (fun _ => 0) 0 1) 1 3) 2 2))), (q53, .inl (cs 0, 9, .inl (upd (upd (upd (upd (upd (upd (upd (upd (upd (fun _ => 0) 0 14) 1 2) 2 1) 3 13) 4 20) 5 30) 6 12) 7 1) 8 1))), (q54, .inl (cs 0, 20, .inl (fun _ => 0))), (q55, .inl (cs 0, 4, .inl (fun _ => 0))), (q56, .inl (cs 0, 4, .inl (fun _ => 0))), (q57, .inl (cs 0, 4, .inl (fun _ => 0))), (q58, .inl (cs 1, 112, .inr (.inl (fun _ => 0)))), (q59, .inl (cs 1, 112, .inr (.inl (fun _ => 0)))), (q60, .inl (cs 1, 100, .inr (.inl (fun _ => 0)))), (q61, .inl (cs 1, 21, .inr (.inl (fun _ => 0)))), (q62, .inl (cs 1, 21, .inr (.inl (fun _ => 0)))), (q63, .inl (cs 0, 8, .inl (fun _ => 0))), (q64, .inl (cs 0, 8, .inl (fun _ => 0))), (q65, .inl (cs 0, 99, .inl (fun _ => 0))), (q66, .inl (cs 2, 4, .inl (fun _ => 0))), (q67, .inl (cs 0, 4, .inl (fun _ => 0))), (q68, .inl (cs 0, 4, .inl (fun _ => 0))), (q69, .inl (cs 0, 192, .inl (fun _ => 0))), (q70, .inl (cs 0, 48, .inl (fun _ => 0)))] = tw_W (D, cs, gq [q1, q2, q3, q4, q5, q6, q7, q8, q9, q10, q11, q12, q13, q14, q15, q16, q17, q18, q19, q20, q21, q22, q23, q24, q25, q26, q27, q28, q29, q30, q31, q32, q33, q34, q35, q36, q37, q38, q39, q40, q41, q42, q43, q44, q45, q46, q47, q48, q49, q50, q51, q52, q53, q54, q55, q56, q57, q58, q59, q60, q61, q62, q63, q64, q65, q66, q67, q68, q69, q70] tD tM b, L, xs) σ0 := by
  subst hF
  rw [tw_W_mpx]
  rfl
theorem law_shF (a0 a1 a2 a3 : Nat) (g : Nat → Nat) (h0 : g 36 = a0) (h1 : g 38 = a1) (h2 : g 40 = a2) (h3 : g 42 = a3) : va_up (va_up (va_up (va_up (fun _ => none) 0 (some a0)) 1 (some a1)) 2 (some a2)) 3 (some a3) = fun i => (([36, 38, 40, 42] : List Nat)[i]?).map g := by
  funext i
  subst h0; subst h1; subst h2; subst h3
  match i with
  | 0 => rfl
  | 1 => rfl
  | 2 => rfl
  | 3 => rfl
  | i + 4 =>
    have e : (([36, 38, 40, 42] : List Nat)[i + 4]?) = none := by simp
    rw [e]
    simp [va_up]
def ax_E (tD tM b L : Nat) (xs : Nat → Int32) (s : State) (A : Nat → Prop) : Prop :=
  (va_Z "OneTriangle" "DIGEST_NUMBERS" "[I" (.ref tD) A s s.heap ∧ va_Z "OneTriangle$Settings" "MOST" "[I" (.ref tM) A s s.heap) ∧
  va_T .int tD 3 (fun j => .int (xa_D.getD j 0)) A s s.heap ∧ va_T .int tM 9 (fun j => .int (xa_M.getD j 0)) A s s.heap ∧ va_T .int b L (fun j => .int (xs j)) A s s.heap
theorem AG.ofAX {G : ag_G} {M : am_M} {nm : String} {h k mc ms nc ns pc : Nat} {ws : va_W} {ls : List (Nat × Value)} {st : List Value} {σ : St} {Qv : Option Value → Prop} (hw : ws = tw_W G σ) (hc : nc ≤ mc ∧ ns ≤ ms) (hx : AX G M h k pc ls st σ (fun v _ => Qv v)) : AG (ax_E (G.2.2.1 1000) (G.2.2.1 1001) (G.2.2.1 1002) G.2.2.2.1 G.2.2.2.2) G.1 G.2.1 M nm h k mc ms [] ws nc ns pc ls st (fun v _ => Qv v) := by
  intro p l e R s m args below meth c H locs Z A lsA C hP hD hS hl hr
  rw [List.nil_append, hw] at hP hD
  obtain ⟨c1, c2, c3, c4, c5, c6, c7, c8, c9, c10, c11, c12, c13⟩ := C
  refine W.widen hc.1 hc.2 ?_
  exact hx (p := p) (R := R) (A := A) ⟨c1, c2, c3, c4, c5, c6, c7, c13, c9, c10, c11.1, c11.2⟩ hP hD hS hl (fun v σ' H' locs' pc' lsB a q hp hd hs => hr v (tw_W G σ') H' locs' pc' lsB a q (by rw [List.nil_append]; exact hp) (by rw [List.nil_append]; exact hd) hs)
set_option maxRecDepth 100000 in
theorem law_lsM : Cond.laysStatic "OneTriangle$Settings" "MOST" "[I" ∈ lw_tbl := List.mem_append_right _ (tb2 (List.mem_of_getElem? (i := 148) rfl))
set_option maxRecDepth 100000 in
theorem law_lsD : Cond.laysStatic "OneTriangle" "DIGEST_NUMBERS" "[I" ∈ lw_tbl := List.mem_append_right _ (tb4 (List.mem_of_getElem? (i := 49) rfl))
set_option maxRecDepth 100000 in
theorem law_ao : Cond.arrayOver (.object "OneTriangle$Sheet") ∈ lw_tbl := List.mem_append_right _ (tb1 (List.mem_of_getElem? (i := 213) rfl))
set_option maxRecDepth 100000 in
theorem law_in0 : Cond.instantiable RX0 3 ∈ lw_gd := gd1 (i := 184) rfl rfl
set_option maxRecDepth 100000 in
theorem law_in1 : Cond.instantiable RX1 1 ∈ lw_gd := gd1 (i := 202) rfl rfl
set_option maxRecDepth 100000 in
theorem law_in2 : Cond.instantiable RX2 4 ∈ lw_gd := gd1 (i := 93) rfl rfl
set_option maxRecDepth 100000 in
theorem law_in3 : Cond.instantiable RX3 2 ∈ lw_gd := gd1 (i := 80) rfl rfl
set_option maxRecDepth 100000 in
theorem law_in4 : Cond.instantiable RX4 10 ∈ lw_gd := gd1 (i := 26) rfl rfl
set_option maxRecDepth 100000 in
theorem law_in5 : Cond.instantiable RX5 5 ∈ lw_gd := gd1 (i := 161) rfl rfl
set_option maxRecDepth 100000 in
theorem law_in6 : Cond.instantiable RX6 1 ∈ lw_gd := gd1 (i := 70) rfl rfl
set_option maxRecDepth 100000 in
theorem law_in7 : Cond.instantiable RX7 4 ∈ lw_gd := gd1 (i := 214) rfl rfl
set_option maxRecDepth 100000 in
theorem law_in8 : Cond.instantiable RX8 3 ∈ lw_gd := gd1 (i := 145) rfl rfl
set_option maxRecDepth 100000 in
theorem law_in9 : Cond.instantiable RX9 8 ∈ lw_gd := gd1 (i := 113) rfl rfl
set_option maxRecDepth 100000 in
theorem law_in10 : Cond.instantiable RX10 13 ∈ lw_gd := gd1 (i := 18) rfl rfl
set_option maxRecDepth 100000 in
theorem law_in11 : Cond.instantiable RX11 36 ∈ lw_gd := gd4 (i := 68) rfl rfl
set_option maxRecDepth 100000 in
theorem law_iS : Cond.initialized "OneTriangle$Settings" ∈ lw_gd := gd1 (i := 3) rfl rfl
set_option maxRecDepth 100000 in
theorem law_iO : Cond.initialized "OneTriangle" ∈ lw_gd := gd1 (i := 1) rfl rfl
theorem law_known {s : State} {args : Array Value} (hts : ∀ w ∈ lw_gd, w.before args s = true) : ∃ (dC : Nat → ClassId) (dI : Nat → Nat → Nat), ∀ (k : Nat) (q : vw_C), classes[k]? = some q → u_Kn s q.1 q.2.1 q.2.2 (dC k) (dI k) := by
  obtain ⟨c0, i0, h0⟩ := u_known (C := RX0) (T := TX0) (N := 3) (n := 3) hts giX0 (hts _ law_in0)
  obtain ⟨c1, i1, h1⟩ := u_known (C := RX1) (T := TX1) (N := 1) (n := 1) hts giX1 (hts _ law_in1)
  obtain ⟨c2, i2, h2⟩ := u_known (C := RX2) (T := TX2) (N := 4) (n := 4) hts giX2 (hts _ law_in2)
  obtain ⟨c3, i3, h3⟩ := u_known (C := RX3) (T := TX3) (N := 2) (n := 2) hts giX3 (hts _ law_in3)
  obtain ⟨c4, i4, h4⟩ := u_known (C := RX4) (T := TX4) (N := 10) (n := 10) hts giX4 (hts _ law_in4)
  obtain ⟨c5, i5, h5⟩ := u_known (C := RX5) (T := TX5) (N := 5) (n := 5) hts giX5 (hts _ law_in5)
  obtain ⟨c6, i6, h6⟩ := u_known (C := RX6) (T := TX6) (N := 1) (n := 1) hts giX6 (hts _ law_in6)
  obtain ⟨c7, i7, h7⟩ := u_known (C := RX7) (T := TX7) (N := 4) (n := 4) hts giX7 (hts _ law_in7)
  obtain ⟨c8, i8, h8⟩ := u_known (C := RX8) (T := TX8) (N := 3) (n := 3) hts giX8 (hts _ law_in8)
  obtain ⟨c9, i9, h9⟩ := u_known (C := RX9) (T := TX9) (N := 8) (n := 8) hts giX9 (hts _ law_in9)
  obtain ⟨c10, i10, h10⟩ := u_known (C := RX10) (T := TX10) (N := 13) (n := 13) hts giX10 (hts _ law_in10)
  obtain ⟨c11, i11, h11⟩ := u_known (C := RX11) (T := TX11) (N := 36) (n := 36) hts giX11 (hts _ law_in11)
  refine ⟨fun k => if k = 0 then c0 else if k = 1 then c1 else if k = 2 then c2 else if k = 3 then c3 else if k = 4 then c4 else if k = 5 then c5 else if k = 6 then c6 else if k = 7 then c7 else if k = 8 then c8 else if k = 9 then c9 else if k = 10 then c10 else c11, fun k => if k = 0 then i0 else if k = 1 then i1 else if k = 2 then i2 else if k = 3 then i3 else if k = 4 then i4 else if k = 5 then i5 else if k = 6 then i6 else if k = 7 then i7 else if k = 8 then i8 else if k = 9 then i9 else if k = 10 then i10 else i11, ?_⟩
  intro k q hq
  match k, hq with
  | 0, hq => cases hq; exact h0
  | 1, hq => cases hq; exact h1
  | 2, hq => cases hq; exact h2
  | 3, hq => cases hq; exact h3
  | 4, hq => cases hq; exact h4
  | 5, hq => cases hq; exact h5
  | 6, hq => cases hq; exact h6
  | 7, hq => cases hq; exact h7
  | 8, hq => cases hq; exact h8
  | 9, hq => cases hq; exact h9
  | 10, hq => cases hq; exact h10
  | 11, hq => cases hq; exact h11
  | k + 12, hq => simp [classes] at hq
theorem law_arr {s : State} {args : Array Value} {ty : FieldType} (hty : ∀ C, ty ≠ .object C) (h : (Cond.arrayClass ty).before args s = true) : ∃ c, ArrOfT s c ty ∧ va_RA s c ty := by
  obtain ⟨c, k, comp, h1, h2, h3⟩ := Cond.arrayClass_spec h
  refine ⟨c, fun n z => ⟨fun k h => (by cases h), k, h2, comp, h3⟩, ?_⟩
  cases ty with
  | object C => exact absurd rfl (hty C)
  | _ => exact h1
theorem law_arrS {s : State} {args : Array Value} {C : String} (h : (Cond.arrayOver (.object C)).before args s = true) : ∃ c, ArrOfT s c (.object C) ∧ va_RA s c (.object C) := by
  obtain ⟨comp, c, k, h1, -, h2, h3, h4⟩ := Cond.arrayOver_spec h
  exact ⟨c, fun n z => ⟨fun k h => (by cases h), k, h2, comp, h3⟩, k, comp, h2, h3, h1, h4⟩
theorem law_K {s : State} {args : Array Value} (hts : ∀ w ∈ lw_gd, w.before args s = true) (hao : (Cond.arrayOver (.object "OneTriangle$Sheet")).before args s = true) : ∃ (D : va_G) (cs : Nat → ClassId), va_K D classes (gtys cs) s := by
  obtain ⟨dC, dI, hc⟩ := law_known hts
  obtain ⟨cI, hI⟩ := law_arr (ty := .int) (fun C h => by cases h) (hts _ wac_int)
  obtain ⟨cJ, hJ⟩ := law_arr (ty := .long) (fun C h => by cases h) (hts _ wac_long)
  obtain ⟨cZ, hZ⟩ := law_arr (ty := .boolean) (fun C h => by cases h) (hts _ wac_boolean)
  obtain ⟨cS, hS⟩ := law_arrS hao
  refine ⟨(dC, dI), fun t => if t = 0 then cI else if t = 1 then cJ else if t = 2 then cZ else cS, hc, ?_⟩
  intro k q hq
  match k, hq with
  | 0, hq => cases hq; exact hI
  | 1, hq => cases hq; exact hJ
  | 2, hq => cases hq; exact hZ
  | 3, hq => cases hq; exact hS
  | k + 4, hq => simp [gtys] at hq
theorem law_stat {s : State} {args : Array Value} (hts : ∀ w ∈ lw_tbl, w.before args s = true) (hgv : (Jvm.Cond.and given_1 narrow_1).before args s = true) {A : Nat → Prop} (hA : ∀ a : Nat, a < s.heap.size → ¬ A a) :
    ∃ tD tM, (va_Z "OneTriangle" "DIGEST_NUMBERS" "[I" (.ref tD) A s s.heap ∧ va_Z "OneTriangle$Settings" "MOST" "[I" (.ref tM) A s s.heap) ∧ va_T .int tD 3 (fun j => .int (xa_D.getD j 0)) A s s.heap ∧ va_T .int tM 9 (fun j => .int (xa_M.getD j 0)) A s s.heap := by
  have hs := flat_of_before _ hgv
  obtain ⟨tD, eD, hTD⟩ := va_Tof (tm := .static "OneTriangle" "DIGEST_NUMBERS" "[I") (ty := .int) (N := 3) (f := fun j => .int (xa_D.getD j 0)) (by omega) (hs _ (by decide +kernel)) (va_eqt (hs (.eq (.length (.static "OneTriangle" "DIGEST_NUMBERS" "[I")) (.int 3)) (by decide +kernel))) (fun j hj => by
      match j, hj with
      | 0, _ => exact va_eqt (hs (.eq (.elem (.static "OneTriangle" "DIGEST_NUMBERS" "[I") (.int 0)) (.int 1)) (by decide +kernel))
      | 1, _ => exact va_eqt (hs (.eq (.elem (.static "OneTriangle" "DIGEST_NUMBERS" "[I") (.int 1)) (.int 10)) (by decide +kernel))
      | 2, _ => exact va_eqt (hs (.eq (.elem (.static "OneTriangle" "DIGEST_NUMBERS" "[I") (.int 2)) (.int 30)) (by decide +kernel))
      | j + 3, hj => exact absurd hj (by omega)) hA
  obtain ⟨tM, eM, hTM⟩ := va_Tof (tm := .static "OneTriangle$Settings" "MOST" "[I") (ty := .int) (N := 9) (f := fun j => .int (xa_M.getD j 0)) (by omega) (hs _ (by decide +kernel)) (va_eqt (hs (.eq (.length (.static "OneTriangle$Settings" "MOST" "[I")) (.int 9)) (by decide +kernel))) (fun j hj => by
      match j, hj with
      | 0, _ => exact va_eqt (hs (.eq (.elem (.static "OneTriangle$Settings" "MOST" "[I") (.int 0)) (.int 16)) (by decide +kernel))
      | 1, _ => exact va_eqt (hs (.eq (.elem (.static "OneTriangle$Settings" "MOST" "[I") (.int 1)) (.int 16)) (by decide +kernel))
      | 2, _ => exact va_eqt (hs (.eq (.elem (.static "OneTriangle$Settings" "MOST" "[I") (.int 2)) (.int 16)) (by decide +kernel))
      | 3, _ => exact va_eqt (hs (.eq (.elem (.static "OneTriangle$Settings" "MOST" "[I") (.int 3)) (.int 16)) (by decide +kernel))
      | 4, _ => exact va_eqt (hs (.eq (.elem (.static "OneTriangle$Settings" "MOST" "[I") (.int 4)) (.int 99)) (by decide +kernel))
      | 5, _ => exact va_eqt (hs (.eq (.elem (.static "OneTriangle$Settings" "MOST" "[I") (.int 5)) (.int 99)) (by decide +kernel))
      | 6, _ => exact va_eqt (hs (.eq (.elem (.static "OneTriangle$Settings" "MOST" "[I") (.int 6)) (.int 16)) (by decide +kernel))
      | 7, _ => exact va_eqt (hs (.eq (.elem (.static "OneTriangle$Settings" "MOST" "[I") (.int 7)) (.int 4)) (by decide +kernel))
      | 8, _ => exact va_eqt (hs (.eq (.elem (.static "OneTriangle$Settings" "MOST" "[I") (.int 8)) (.int 4)) (by decide +kernel))
      | j + 9, hj => exact absurd hj (by omega)) hA
  exact ⟨tD, tM, ⟨va_Zref (hts _ law_lsD) (hts _ (lw_gd_in law_iO)) eD hA, va_Zref (hts _ law_lsM) (hts _ (lw_gd_in law_iS)) eM hA⟩, hTD, hTM⟩
/-! THE CLAIM OUT OF ONE WALK OF THE LAW'S BODY. Your part is whole_start (and what it stands on); all else here is the same for every law, but numbers. -/
def R_law : String := "OneTriangleLaw"
def lw_P (b : Addr) (xs : List Int32) (args : Array Value) (s : State) : Prop := args = #[.ref b] ∧ s.IntsAt b xs ∧ xs.length ≤ 384 ∧ (Jvm.Cond.and given_1 narrow_1).before args s = true
def lw_Q (_ : Array Value) (s : State) (o : Outcome) (t : State) : Prop := o = .returned (some (.int 1)) ∧ Framed s o t [] 600000 7302250
def lw_Z (below : List Frame) (a : Array Value) (s : State) : State → Prop := fun t => ∃ o, t.status = .running ∧ Ended t below o ∧ lw_Q a s o t
/-- the law's own end, with 1 on the stack, nothing written that was there before, its room as the claim has it -/
theorem lw_ret {p : Program} {l : Launch} {e : Env} {s : State} {m : MethodId} {below : List Frame} {meth : Method} {c : Code} {b : Nat} (hx : p.tables.exec = Jvm.exec) (hb : c.code = code) (hr : meth.sig.returnType = ret) (hlocks : meth.locks = false) {pc : Nat} {H : Heap} {ls : Array Slot} (hdg : decode code pc = .ok (.ireturn, 1)) : W p l e room_1 s m #[Value.ref b] below meth c H [] 600000 7302250 (lw_Z below #[Value.ref b] s) (F0 m pc ls [.int 1]) := by
  intro T hT X
  obtain ⟨fs, hret, hrun, hended, hW, hframe⟩ := X.leave (v := some (.int 1)) (hlocks := hlocks) (fun h => by rw [hr] at h; cases h)
  have hmeth' : T.vm.method? m = some meth := X.method'
  refine ⟨T.setFrames fs, ?_, .returned (some (.int 1)), hrun, hended, rfl, ⟨_, rfl⟩, hW, hframe⟩
  jvm_step X.here [X.here.top, hx, hb, hdg, hmeth', hr, ret, narrow_b1]
  (try refine ⟨rfl, ?_⟩); (try refine ⟨rfl, ?_⟩)
  first | (intro acts; rw [hret _ acts rfl rfl rfl]) | rw [hret _ _ rfl rfl rfl]
  exact Steps.refl _
/-- what holds at the law's entry: the machine, the code, the tables' words (any of lw_tbl by 'hts w (by decide +kernel)'), the script of L ints xs at the cell b, what the Statement gives of the start (any of its parts by flat_of_before) -/
def lw_At (p : Program) (s : State) (m : MethodId) (meth : Method) (c : Code) (b L : Nat) (xs : Nat → Int32) : Prop :=
  p.tables.exec = Jvm.exec ∧ c.code = code ∧ meth.sig.returnType = ret ∧ c.maxLocals = 4 ∧ s.vm.findClass R_law = some m.cls ∧ (∀ w ∈ lw_tbl, w.before #[Value.ref b] s = true) ∧ va_X b L xs s s.heap ∧ b < s.heap.size ∧ meth.locks = false ∧ (Jvm.Cond.and given_1 narrow_1).before #[Value.ref b] s = true
set_option maxRecDepth 100000 in
theorem whole_start_of {Inv : St → Prop} (hls : LawS Inv) (hi0 : Inv σ0) {p : Program} {e : Env} {s : State} {m : MethodId} {below : List Frame} {meth : Method} {c : Code} (l : Launch) {b L : Nat} {xs : Nat → Int32} (hL : L ≤ 384) (C0 : lw_At p s m meth c b L xs) : W p l e room_1 s m #[Value.ref b] below meth c s.heap [] 0 0 (lw_Z below #[Value.ref b] s) (entryFrame m ([Value.ref b] : List Value).toArray 4) := by
  obtain ⟨hx, hb, hr, hml, hown, hts, hX, hbl, hlocks, hgv⟩ := id C0
  have hgd : ∀ w ∈ lw_gd, w.before #[Value.ref b] s = true := fun w hw => hts w (lw_gd_in hw)
  have hnw : ∀ w ∈ lw_nw, va_Nw w s := fun w hw => by
    have h1 := hts w (lw_nw_in hw)
    have hn := (List.mem_filter.mp hw).2
    cases w <;> first | exact va_Nw.of rfl h1 | (exfalso; revert hn; simp [lw_isN])
  have hao := hts _ law_ao
  obtain ⟨D, cs, hK⟩ := law_K hgd hao
  have hA : ∀ a : Nat, a < s.heap.size → ¬ (fun q : Nat => s.heap.size ≤ q) a := fun a h => Nat.not_le.mpr h
  obtain ⟨tD, tM, hZ, hTD, hTM⟩ := law_stat hts hgv hA
  have hTX : va_T .int b L (fun j => .int (xs j)) (fun q : Nat => s.heap.size ≤ q) s s.heap := by
    obtain ⟨scr, h1, h2, h3, h4, h5⟩ := hX
    exact ⟨scr, h1, h2, h3, Nat.le_of_eq h4.symm, by rw [h4], h5, hA b hbl⟩
  have hl := lv_entry ([.ref b]) (n := 4) (Nat.le_of_ble_eq_true rfl)
  rw [lg_entry_eq]
  refine law_ag (E := ax_E tD tM b L xs) D cs b (fun v _ => v = some (.int 1)) ?_ (A := fun q : Nat => s.heap.size ≤ q) (R := room_1) ⟨hx, hb, hml, hown, hgd, hnw, hK, hao, fun q h => h, ⟨Nat.le_of_ble_eq_true rfl, Nat.le_of_ble_eq_true rfl⟩, ⟨Nat.le_refl _, Nat.le_refl _⟩, rfl, hZ, hTD, hTM, hTX⟩ (fun k q h => by simp at h) ⟨fun i j p q h => by simp at h, fun k q h => by simp at h⟩ va_S.rf hl ?_
  · intro q1 q2 q3 q4 q5 q6 q7 q8 q9 q10 q11 q12 q13 q14 q15 q16 q17 q18 q19 q20 q21 q22 q23 q24 q25 q26 q27 q28 q29 q30 q31 q32 q33 q34 q35 q36 q37 q38 q39 q40 q41 q42 q43 q44 q45 q46 q47 q48 q49 q50 q51 q52 q53 q54 q55 q56 q57 q58 q59 q60 q61 q62 q63 q64 q65 q66 q67 q68 q69 q70
    refine AG.ofAX (G := (D, cs, gq [q1, q2, q3, q4, q5, q6, q7, q8, q9, q10, q11, q12, q13, q14, q15, q16, q17, q18, q19, q20, q21, q22, q23, q24, q25, q26, q27, q28, q29, q30, q31, q32, q33, q34, q35, q36, q37, q38, q39, q40, q41, q42, q43, q44, q45, q46, q47, q48, q49, q50, q51, q52, q53, q54, q55, q56, q57, q58, q59, q60, q61, q62, q63, q64, q65, q66, q67, q68, q69, q70] tD tM b, L, xs)) (law_w0 D cs tD tM b L xs q1 q2 q3 q4 q5 q6 q7 q8 q9 q10 q11 q12 q13 q14 q15 q16 q17 q18 q19 q20 q21 q22 q23 q24 q25 q26 q27 q28 q29 q30 q31 q32 q33 q34 q35 q36 q37 q38 q39 q40 q41 q42 q43 q44 q45 q46 q47 q48 q49 q50 q51 q52 q53 q54 q55 q56 q57 q58 q59 q60 q61 q62 q63 q64 q65 q66 q67 q68 q69 q70 _ (law_shF _ _ _ _ _ rfl rfl rfl rfl)) ⟨Nat.le_of_ble_eq_true rfl, Nat.le_of_ble_eq_true rfl⟩ ?_
    refine AX.iconst dL_law_16 ic_0 ?_
    refine AX.istore_n (ls' := [(0, .ref b), (1, .ref q1), (2, .ref q45), (3, .int 0)]) dL_law_17 rfl (Nat.le_of_ble_eq_true rfl) rfl ?_
    exact law_loop (G := (D, cs, gq [q1, q2, q3, q4, q5, q6, q7, q8, q9, q10, q11, q12, q13, q14, q15, q16, q17, q18, q19, q20, q21, q22, q23, q24, q25, q26, q27, q28, q29, q30, q31, q32, q33, q34, q35, q36, q37, q38, q39, q40, q41, q42, q43, q44, q45, q46, q47, q48, q49, q50, q51, q52, q53, q54, q55, q56, q57, q58, q59, q60, q61, q62, q63, q64, q65, q66, q67, q68, q69, q70] tD tM b, L, xs)) hls hL (fun _ _ => rfl) (L + 6) 0 σ0 (by show L + 6 ≤ 0 + (L + 6); omega) (by omega) hi0
  · intro v ws' H' locs' pc' lsB hR hq hP' hD' hS'
    subst hq
    obtain ⟨ty, -, -, hdd⟩ := hR
    refine va_forget (fun q hq => hS'.2.2 q hq) ?_
    exact lw_ret hx hb hr hlocks hdd
