/-! methods: what they mean, and that their bytecode means it (printed by a program of mine) -/
def wp_X9_has (v1 : Int) (m : Mem) (post : Int → Mem → Prop) : Prop :=
  ((v1 < 0 → (post 0 m)) ∧
  (¬ v1 < 0 → (((m 28 4 ≤ v1 → (post 0 m)) ∧
  (¬ m 28 4 ≤ v1 → (post 1 m))))))
set_option maxRecDepth 100000 in
theorem pf_X9_has {l : Launch} {x : WX} {G : GT} {post : Int → Mem → Prop} (X : Ax l x cX9_has RX9 2 (rmd 0) 67 G) (hr : RZ cX9_has post G) (v1 : Int) (m : Mem) (h : wp_X9_has v1 m post) : G 0 [(0, (2, 28)), (1, (0, v1))] [] m := by
  unfold wp_X9_has at h
  refine g_iload_n 1 (i := 1) X dX9_has_0 rfl rfl ?_
  refine g_if_lt X dX9_has_1 (tgt := 16) (by decide) (fun hc => ?_) (fun hc => ?_)
  · have h := h.1 hc
    refine g_iconst X dX9_has_16 (by decide) ?_
    exact hr _ _ _ _ _ dX9_has_17 ⟨by decide, h⟩
  · have h := h.2 hc
    refine g_iload_n 1 (i := 1) X dX9_has_4 rfl rfl ?_
    refine g_aload_n 0 (i := 0) X dX9_has_5 rfl rfl ?_
    refine g_getI X dX9_has_6 fX9_43 ?_
    refine g_icmp_ge X dX9_has_9 (tgt := 16) (by decide) (fun hc => ?_) (fun hc => ?_)
    · have h := h.1 hc
      refine g_iconst X dX9_has_16 (by decide) ?_
      exact hr _ _ _ _ _ dX9_has_17 ⟨by decide, h⟩
    · have h := h.2 hc
      refine g_iconst X dX9_has_12 (by decide) ?_
      refine g_goto X dX9_has_13 (tgt := 17) (by decide) ?_
      exact hr _ _ _ _ _ dX9_has_17 ⟨by decide, h⟩
theorem im_X9_has (l : Launch) (x : WX) (v1 : Int) (m : Mem) (post : Int → Mem → Prop) (h : wp_X9_has v1 m post) : MetI l x 67 0 yX9_has cX9_has 2 .boolean [(2, 28), (0, v1)] m post := met_Z (by decide) (Nat.le_of_ble_eq_true rfl) (fun _ X hr => pf_X9_has X hr v1 m h)
def wp_X9_add (v1 : Int) (v2 : Int) (m : Mem) (post : Int → Mem → Prop) : Prop :=
  ∀ v3_4 : Int, v3_4 = m 28 4 → ((0 ≤ v3_4 ∧ v3_4 < 30) ∧ (∀ m11 : Mem, m11 = mset m 31 v3_4 v1 → ((0 ≤ v3_4 ∧ v3_4 < 30) ∧ (∀ m18 : Mem, m18 = mset m11 32 v3_4 v2 → ((0 ≤ v3_4 ∧ v3_4 < 30) ∧ (∀ m25 : Mem, m25 = mset m18 33 v3_4 (-1) → ((0 ≤ v3_4 ∧ v3_4 < 30) ∧ (∀ m35 : Mem, m35 = mset m25 34 v3_4 (m25 28 0) → ((0 ≤ v3_4 ∧ v3_4 < 30) ∧ (∀ m42 : Mem, m42 = mset m35 35 v3_4 0 → ((0 ≤ v3_4 ∧ v3_4 < 30) ∧ (∀ m49 : Mem, m49 = mset m42 36 v3_4 0 → (∀ m57 : Mem, m57 = mset m49 28 4 (w32 (m49 28 4 + 1)) → (post v3_4 m57))))))))))))))
set_option maxRecDepth 100000 in
theorem pf_X9_add {l : Launch} {x : WX} {G : GT} {post : Int → Mem → Prop} (X : Ax l x cX9_add RX9 4 (rmd 0) 67 G) (hr : RI cX9_add post G) (v1 : Int) (v2 : Int) (m : Mem) (h : wp_X9_add v1 v2 m post) : G 0 [(0, (2, 28)), (1, (0, v1)), (2, (0, v2))] [] m := by
  unfold wp_X9_add at h
  refine g_aload_n 0 (i := 0) X dX9_add_0 rfl rfl ?_
  refine g_getI X dX9_add_1 fX9_43 ?_
  refine g_nmI (fun v3_4 ev3_4 => ?_)
  have h := h v3_4 ev3_4
  refine g_istore_n (i := 3) (lv' := [(3, (0, v3_4)), (0, (2, 28)), (1, (0, v1)), (2, (0, v2))]) X dX9_add_4 rfl (by decide) rfl ?_
  refine g_aload_n 1 (i := 0) X dX9_add_5 rfl rfl ?_
  refine g_getR X dX9_add_6 fX9_18 ?_
  refine g_iload_n 0 (i := 3) X dX9_add_9 rfl rfl ?_
  refine g_iload_n 2 (i := 1) X dX9_add_10 rfl rfl ?_
  obtain ⟨hi, h⟩ := h
  refine g_iast X dX9_add_11 rfl hi (fun m11 em11 => ?_)
  have h := h m11 em11
  refine g_aload_n 1 (i := 0) X dX9_add_12 rfl rfl ?_
  refine g_getR X dX9_add_13 fX9_21 ?_
  refine g_iload_n 0 (i := 3) X dX9_add_16 rfl rfl ?_
  refine g_iload_n 3 (i := 2) X dX9_add_17 rfl rfl ?_
  obtain ⟨hi, h⟩ := h
  refine g_iast X dX9_add_18 rfl hi (fun m18 em18 => ?_)
  have h := h m18 em18
  refine g_aload_n 1 (i := 0) X dX9_add_19 rfl rfl ?_
  refine g_getR X dX9_add_20 fX9_24 ?_
  refine g_iload_n 0 (i := 3) X dX9_add_23 rfl rfl ?_
  refine g_iconst X dX9_add_24 (by decide) ?_
  obtain ⟨hi, h⟩ := h
  refine g_iast X dX9_add_25 rfl hi (fun m25 em25 => ?_)
  have h := h m25 em25
  refine g_aload_n 1 (i := 0) X dX9_add_26 rfl rfl ?_
  refine g_getR X dX9_add_27 fX9_27 ?_
  refine g_iload_n 0 (i := 3) X dX9_add_30 rfl rfl ?_
  refine g_aload_n 1 (i := 0) X dX9_add_31 rfl rfl ?_
  refine g_getI X dX9_add_32 fX9_36 ?_
  obtain ⟨hi, h⟩ := h
  refine g_iast X dX9_add_35 rfl hi (fun m35 em35 => ?_)
  have h := h m35 em35
  refine g_aload_n 1 (i := 0) X dX9_add_36 rfl rfl ?_
  refine g_getR X dX9_add_37 fX9_30 ?_
  refine g_iload_n 0 (i := 3) X dX9_add_40 rfl rfl ?_
  refine g_iconst X dX9_add_41 (by decide) ?_
  obtain ⟨hi, h⟩ := h
  refine g_iast X dX9_add_42 rfl hi (fun m42 em42 => ?_)
  have h := h m42 em42
  refine g_aload_n 1 (i := 0) X dX9_add_43 rfl rfl ?_
  refine g_getR X dX9_add_44 fX9_33 ?_
  refine g_iload_n 0 (i := 3) X dX9_add_47 rfl rfl ?_
  refine g_iconst X dX9_add_48 (by decide) ?_
  obtain ⟨hi, h⟩ := h
  refine g_iast X dX9_add_49 rfl hi (fun m49 em49 => ?_)
  have h := h m49 em49
  refine g_aload_n 1 (i := 0) X dX9_add_50 rfl rfl ?_
  refine g_dup X dX9_add_51 rfl ?_
  refine g_getI X dX9_add_52 fX9_43 ?_
  refine g_iconst X dX9_add_55 (by decide) ?_
  refine g_iadd X dX9_add_56 ?_
  refine g_putI X dX9_add_57 pX9_43 (fun m57 em57 => ?_)
  have h := h m57 em57
  refine g_iload_n 0 (i := 3) X dX9_add_60 rfl rfl ?_
  exact hr _ _ _ _ _ dX9_add_61 h
theorem im_X9_add (l : Launch) (x : WX) (v1 : Int) (v2 : Int) (m : Mem) (post : Int → Mem → Prop) (h : wp_X9_add v1 v2 m post) : MetI l x 67 0 yX9_add cX9_add 4 .int [(2, 28), (0, v1), (0, v2)] m post := met_I (by decide) (Nat.le_of_ble_eq_true rfl) (fun _ X hr => pf_X9_add X hr v1 v2 m h)
def wp_X9_comeIn_2  (post : Mem → Prop) : Nat → Int → Mem → Prop
  | 0, _, _ => False
  | n + 1, v2, m =>
  ((m 28 4 ≤ v2 → (post m)) ∧
  (¬ m 28 4 ≤ v2 → ((0 ≤ v2 ∧ v2 < 30) ∧ (((m 33 v2 = (-1) → (wp_X9_comeIn_2  post n (w32 (v2 + 1)) m)) ∧
  (¬ m 33 v2 = (-1) → ((0 ≤ v2 ∧ v2 < 30) ∧ (((m 34 v2 = m 28 0 → ((0 ≤ v2 ∧ v2 < 30) ∧ ((0 ≤ m 33 v2 ∧ m 33 v2 < 12) ∧ (∀ v3_47 : Int, v3_47 = m 17 (m 33 v2) → ((0 ≤ v2 ∧ v2 < 30) ∧ (∀ m54 : Mem, m54 = mset m 33 v2 (-1) → ((0 ≤ v2 ∧ v2 < 30) ∧ (((¬ m54 32 v2 = v3_47 → ((0 ≤ v2 ∧ v2 < 30) ∧ (∀ m81 : Mem, m81 = mset m54 31 v2 v3_47 → ((0 ≤ v2 ∧ v2 < 30) ∧ (∀ m96 : Mem, m96 = mset m81 34 v2 (w32 (m81 28 0 + m81 28 1)) → (wp_X9_comeIn_2  post n (w32 (v2 + 1)) m96)))))) ∧
  (m54 32 v2 = v3_47 → ((0 ≤ v2 ∧ v2 < 30) ∧ (∀ m71 : Mem, m71 = mset m54 36 v2 1 → (wp_X9_comeIn_2  post n (w32 (v2 + 1)) m71))))))))))))) ∧
  (¬ m 34 v2 = m 28 0 → (wp_X9_comeIn_2  post n (w32 (v2 + 1)) m)))))))))))
set_option maxRecDepth 100000 in
theorem pf_X9_comeIn_2 {l : Launch} {x : WX} {G : GT} {post : Mem → Prop}  (X : Ax l x cX9_comeIn RX9 4 (rmd 0) 67 G) (hr : RV cX9_comeIn post G) : ∀ (n : Nat) (v2 : Int) (m : Mem) (_ : wp_X9_comeIn_2  post n v2 m), G 2 [(0, (2, 28)), (1, (2, 13)), (2, (0, v2))] [] m := by
  intro n
  induction n with
  | zero => intro v2 m h; exact absurd h id
  | succ n ih =>
  intro v2 m h
  unfold wp_X9_comeIn_2 at h
  refine g_iload_n 2 (i := 2) X dX9_comeIn_2 rfl rfl ?_
  refine g_aload_n 0 (i := 0) X dX9_comeIn_3 rfl rfl ?_
  refine g_getI X dX9_comeIn_4 fX9_43 ?_
  refine g_icmp_ge X dX9_comeIn_7 (tgt := 103) (by decide) (fun hc => ?_) (fun hc => ?_)
  · have h := h.1 hc
    exact hr _ _ _ _ dX9_comeIn_103 h
  · have h := h.2 hc
    refine g_aload_n 0 (i := 0) X dX9_comeIn_10 rfl rfl ?_
    refine g_getR X dX9_comeIn_11 fX9_24 ?_
    refine g_iload_n 2 (i := 2) X dX9_comeIn_14 rfl rfl ?_
    obtain ⟨hi, h⟩ := h
    refine g_iald X dX9_comeIn_15 rfl hi ?_
    refine g_iconst X dX9_comeIn_16 (by decide) ?_
    refine g_icmp_eq X dX9_comeIn_17 (tgt := 97) (by decide) (fun hc => ?_) (fun hc => ?_)
    · have h := h.1 hc
      refine g_iinc 2 (lv' := [(2, (0, w32 (v2 + 1))), (0, (2, 28)), (1, (2, 13))]) X dX9_comeIn_97 rfl (by decide) rfl ?_
      refine g_goto X dX9_comeIn_100 (tgt := 2) (by decide) ?_
      exact g_sub X [1, 2, 0] rfl (ih _ _ h)
    · have h := h.2 hc
      refine g_aload_n 0 (i := 0) X dX9_comeIn_20 rfl rfl ?_
      refine g_getR X dX9_comeIn_21 fX9_27 ?_
      refine g_iload_n 2 (i := 2) X dX9_comeIn_24 rfl rfl ?_
      obtain ⟨hi, h⟩ := h
      refine g_iald X dX9_comeIn_25 rfl hi ?_
      refine g_aload_n 0 (i := 0) X dX9_comeIn_26 rfl rfl ?_
      refine g_getI X dX9_comeIn_27 fX9_36 ?_
      refine g_icmp_eq X dX9_comeIn_30 (tgt := 36) (by decide) (fun hc => ?_) (fun hc => ?_)
      · have h := h.1 hc
        refine g_aload_n 1 (i := 1) X dX9_comeIn_36 rfl rfl ?_
        refine g_getR X dX9_comeIn_37 fX9_67 ?_
        refine g_aload_n 0 (i := 0) X dX9_comeIn_40 rfl rfl ?_
        refine g_getR X dX9_comeIn_41 fX9_24 ?_
        refine g_iload_n 2 (i := 2) X dX9_comeIn_44 rfl rfl ?_
        obtain ⟨hi, h⟩ := h
        refine g_iald X dX9_comeIn_45 rfl hi ?_
        obtain ⟨hi, h⟩ := h
        refine g_iald X dX9_comeIn_46 rfl hi ?_
        refine g_nmI (fun v3_47 ev3_47 => ?_)
        have h := h v3_47 ev3_47
        refine g_istore_n (i := 3) (lv' := [(3, (0, v3_47)), (0, (2, 28)), (1, (2, 13)), (2, (0, v2))]) X dX9_comeIn_47 rfl (by decide) rfl ?_
        refine g_aload_n 1 (i := 0) X dX9_comeIn_48 rfl rfl ?_
        refine g_getR X dX9_comeIn_49 fX9_24 ?_
        refine g_iload_n 3 (i := 2) X dX9_comeIn_52 rfl rfl ?_
        refine g_iconst X dX9_comeIn_53 (by decide) ?_
        obtain ⟨hi, h⟩ := h
        refine g_iast X dX9_comeIn_54 rfl hi (fun m54 em54 => ?_)
        have h := h m54 em54
        refine g_aload_n 1 (i := 0) X dX9_comeIn_55 rfl rfl ?_
        refine g_getR X dX9_comeIn_56 fX9_21 ?_
        refine g_iload_n 3 (i := 2) X dX9_comeIn_59 rfl rfl ?_
        obtain ⟨hi, h⟩ := h
        refine g_iald X dX9_comeIn_60 rfl hi ?_
        refine g_iload_n 0 (i := 3) X dX9_comeIn_61 rfl rfl ?_
        refine g_icmp_ne X dX9_comeIn_62 (tgt := 75) (by decide) (fun hc => ?_) (fun hc => ?_)
        · have h := h.1 hc
          refine g_aload_n 1 (i := 0) X dX9_comeIn_75 rfl rfl ?_
          refine g_getR X dX9_comeIn_76 fX9_18 ?_
          refine g_iload_n 3 (i := 2) X dX9_comeIn_79 rfl rfl ?_
          refine g_iload_n 0 (i := 3) X dX9_comeIn_80 rfl rfl ?_
          obtain ⟨hi, h⟩ := h
          refine g_iast X dX9_comeIn_81 rfl hi (fun m81 em81 => ?_)
          have h := h m81 em81
          refine g_aload_n 1 (i := 0) X dX9_comeIn_82 rfl rfl ?_
          refine g_getR X dX9_comeIn_83 fX9_27 ?_
          refine g_iload_n 3 (i := 2) X dX9_comeIn_86 rfl rfl ?_
          refine g_aload_n 1 (i := 0) X dX9_comeIn_87 rfl rfl ?_
          refine g_getI X dX9_comeIn_88 fX9_36 ?_
          refine g_aload_n 1 (i := 0) X dX9_comeIn_91 rfl rfl ?_
          refine g_getI X dX9_comeIn_92 fX9_40 ?_
          refine g_iadd X dX9_comeIn_95 ?_
          obtain ⟨hi, h⟩ := h
          refine g_iast X dX9_comeIn_96 rfl hi (fun m96 em96 => ?_)
          have h := h m96 em96
          refine g_iinc 3 (lv' := [(2, (0, w32 (v2 + 1))), (3, (0, v3_47)), (0, (2, 28)), (1, (2, 13))]) X dX9_comeIn_97 rfl (by decide) rfl ?_
          refine g_goto X dX9_comeIn_100 (tgt := 2) (by decide) ?_
          exact g_sub X [2, 3, 0] rfl (ih _ _ h)
        · have h := h.2 hc
          refine g_aload_n 1 (i := 0) X dX9_comeIn_65 rfl rfl ?_
          refine g_getR X dX9_comeIn_66 fX9_33 ?_
          refine g_iload_n 3 (i := 2) X dX9_comeIn_69 rfl rfl ?_
          refine g_iconst X dX9_comeIn_70 (by decide) ?_
          obtain ⟨hi, h⟩ := h
          refine g_iast X dX9_comeIn_71 rfl hi (fun m71 em71 => ?_)
          have h := h m71 em71
          refine g_goto X dX9_comeIn_72 (tgt := 97) (by decide) ?_
          refine g_iinc 3 (lv' := [(2, (0, w32 (v2 + 1))), (3, (0, v3_47)), (0, (2, 28)), (1, (2, 13))]) X dX9_comeIn_97 rfl (by decide) rfl ?_
          refine g_goto X dX9_comeIn_100 (tgt := 2) (by decide) ?_
          exact g_sub X [2, 3, 0] rfl (ih _ _ h)
      · have h := h.2 hc
        refine g_goto X dX9_comeIn_33 (tgt := 97) (by decide) ?_
        refine g_iinc 2 (lv' := [(2, (0, w32 (v2 + 1))), (0, (2, 28)), (1, (2, 13))]) X dX9_comeIn_97 rfl (by decide) rfl ?_
        refine g_goto X dX9_comeIn_100 (tgt := 2) (by decide) ?_
        exact g_sub X [1, 2, 0] rfl (ih _ _ h)
def wp_X9_comeIn  (m : Mem) (post : Mem → Prop) : Prop :=
  ∃ n_2 : Nat, wp_X9_comeIn_2  post n_2 0 m
set_option maxRecDepth 100000 in
theorem pf_X9_comeIn {l : Launch} {x : WX} {G : GT} {post : Mem → Prop} (X : Ax l x cX9_comeIn RX9 4 (rmd 0) 67 G) (hr : RV cX9_comeIn post G)  (m : Mem) (h : wp_X9_comeIn  m post) : G 0 [(0, (2, 28)), (1, (2, 13))] [] m := by
  unfold wp_X9_comeIn at h
  refine g_iconst X dX9_comeIn_0 (by decide) ?_
  refine g_istore_n (i := 2) (lv' := [(2, (0, 0)), (0, (2, 28)), (1, (2, 13))]) X dX9_comeIn_1 rfl (by decide) rfl ?_
  obtain ⟨n_2, h⟩ := h
  refine g_sub X [1, 2, 0] rfl (pf_X9_comeIn_2 X hr  n_2 _ _ h)
theorem im_X9_comeIn (l : Launch) (x : WX)  (m : Mem) (post : Mem → Prop) (h : wp_X9_comeIn  m post) : MetV l x 67 0 yX9_comeIn cX9_comeIn 4 [(2, 28), (2, 13)] m post := met_V (by decide) (Nat.le_of_ble_eq_true rfl) (fun _ X hr => pf_X9_comeIn X hr  m h)
def wp_X9_isClosed (v1 : Int) (m : Mem) (post : Int → Mem → Prop) : Prop :=
  ∀ v2_7 : Int, v2_7 = w32 (Int.tdiv (m 28 0) 24) → ((0 ≤ v1 ∧ v1 < 8) ∧ (((v2_7 < m 29 v1 → (post 0 m)) ∧
  (¬ v2_7 < m 29 v1 → ((0 ≤ v1 ∧ v1 < 8) ∧ (((m 30 v1 < v2_7 → (post 0 m)) ∧
  (¬ m 30 v1 < v2_7 → (post 1 m)))))))))
set_option maxRecDepth 100000 in
theorem pf_X9_isClosed {l : Launch} {x : WX} {G : GT} {post : Int → Mem → Prop} (X : Ax l x cX9_isClosed RX9 3 (rmd 0) 67 G) (hr : RZ cX9_isClosed post G) (v1 : Int) (m : Mem) (h : wp_X9_isClosed v1 m post) : G 0 [(0, (2, 28)), (1, (0, v1))] [] m := by
  unfold wp_X9_isClosed at h
  refine g_aload_n 0 (i := 0) X dX9_isClosed_0 rfl rfl ?_
  refine g_getI X dX9_isClosed_1 fX9_36 ?_
  refine g_bipush X dX9_isClosed_4 (by decide) ?_
  refine g_idiv X dX9_isClosed_6 (by decide) ?_
  refine g_nmI (fun v2_7 ev2_7 => ?_)
  have h := h v2_7 ev2_7
  refine g_istore_n (i := 2) (lv' := [(2, (0, v2_7)), (0, (2, 28)), (1, (0, v1))]) X dX9_isClosed_7 rfl (by decide) rfl ?_
  refine g_iload_n 0 (i := 2) X dX9_isClosed_8 rfl rfl ?_
  refine g_aload_n 1 (i := 0) X dX9_isClosed_9 rfl rfl ?_
  refine g_getR X dX9_isClosed_10 fX9_9 ?_
  refine g_iload_n 2 (i := 1) X dX9_isClosed_13 rfl rfl ?_
  obtain ⟨hi, h⟩ := h
  refine g_iald X dX9_isClosed_14 rfl hi ?_
  refine g_icmp_lt X dX9_isClosed_15 (tgt := 32) (by decide) (fun hc => ?_) (fun hc => ?_)
  · have h := h.1 hc
    refine g_iconst X dX9_isClosed_32 (by decide) ?_
    exact hr _ _ _ _ _ dX9_isClosed_33 ⟨by decide, h⟩
  · have h := h.2 hc
    refine g_iload_n 0 (i := 2) X dX9_isClosed_18 rfl rfl ?_
    refine g_aload_n 1 (i := 0) X dX9_isClosed_19 rfl rfl ?_
    refine g_getR X dX9_isClosed_20 fX9_15 ?_
    refine g_iload_n 2 (i := 1) X dX9_isClosed_23 rfl rfl ?_
    obtain ⟨hi, h⟩ := h
    refine g_iald X dX9_isClosed_24 rfl hi ?_
    refine g_icmp_gt X dX9_isClosed_25 (tgt := 32) (by decide) (fun hc => ?_) (fun hc => ?_)
    · have h := h.1 hc
      refine g_iconst X dX9_isClosed_32 (by decide) ?_
      exact hr _ _ _ _ _ dX9_isClosed_33 ⟨by decide, h⟩
    · have h := h.2 hc
      refine g_iconst X dX9_isClosed_28 (by decide) ?_
      refine g_goto X dX9_isClosed_29 (tgt := 33) (by decide) ?_
      exact hr _ _ _ _ _ dX9_isClosed_33 ⟨by decide, h⟩
theorem im_X9_isClosed (l : Launch) (x : WX) (v1 : Int) (m : Mem) (post : Int → Mem → Prop) (h : wp_X9_isClosed v1 m post) : MetI l x 67 0 yX9_isClosed cX9_isClosed 3 .boolean [(2, 28), (0, v1)] m post := met_Z (by decide) (Nat.le_of_ble_eq_true rfl) (fun _ X hr => pf_X9_isClosed X hr v1 m h)
def wp_X9_nextFor_79 (v1 : Int) (v3 : Int) (v4 : Int) (s0 : Int) (m : Mem) (K5 : Int → Int → Int → Mem → Prop) (post : Int → Mem → Prop) : Prop :=
  ((s0 = 0 → (K5 v1 v3 (w32 (v4 + 1)) m)) ∧
  (¬ s0 = 0 → (((v3 = (-1) → (K5 v1 v4 (w32 (v4 + 1)) m)) ∧
  (¬ v3 = (-1) → ((0 ≤ v4 ∧ v4 < 30) ∧ ((0 ≤ v3 ∧ v3 < 30) ∧ (((m 34 v3 ≤ m 34 v4 → (K5 v1 v3 (w32 (v4 + 1)) m)) ∧
  (¬ m 34 v3 ≤ m 34 v4 → (K5 v1 v4 (w32 (v4 + 1)) m)))))))))))
set_option maxRecDepth 100000 in
theorem pf_X9_nextFor_79 {l : Launch} {x : WX} {G : GT} {post : Int → Mem → Prop} {K5 : Int → Int → Int → Mem → Prop} (X : Ax l x cX9_nextFor RX9 6 (rmd 0) 67 G) (hr : RI cX9_nextFor post G) (hK5 : ∀ (v1 : Int) (v3 : Int) (v4 : Int) (m : Mem), K5 v1 v3 v4 m → G 5 [(0, (2, 28)), (1, (0, v1)), (2, (2, 6)), (3, (0, v3)), (4, (0, v4))] [] m) (v1 : Int) (v3 : Int) (v4 : Int) (s0 : Int) (m : Mem) (h : wp_X9_nextFor_79 v1 v3 v4 s0 m K5 post) : G 79 [(0, (2, 28)), (1, (0, v1)), (2, (2, 6)), (3, (0, v3)), (4, (0, v4))] [(0, s0)] m := by
  unfold wp_X9_nextFor_79 at h
  refine g_istore (i := 5) (lv' := [(5, (0, s0)), (0, (2, 28)), (1, (0, v1)), (2, (2, 6)), (3, (0, v3)), (4, (0, v4))]) X dX9_nextFor_79 (by decide) rfl ?_
  refine g_iload 0 (i := 5) X dX9_nextFor_81 rfl ?_
  refine g_if_eq X dX9_nextFor_83 (tgt := 110) (by decide) (fun hc => ?_) (fun hc => ?_)
  · have h := h.1 hc
    refine g_iinc 5 (lv' := [(4, (0, w32 (v4 + 1))), (5, (0, s0)), (0, (2, 28)), (1, (0, v1)), (2, (2, 6)), (3, (0, v3))]) X dX9_nextFor_110 rfl (by decide) rfl ?_
    refine g_goto X dX9_nextFor_113 (tgt := 5) (by decide) ?_
    exact g_sub X [2, 3, 4, 5, 0] rfl (hK5 _ _ _ _ h)
  · have h := h.2 hc
    refine g_iload_n 4 (i := 3) X dX9_nextFor_86 rfl rfl ?_
    refine g_iconst X dX9_nextFor_87 (by decide) ?_
    refine g_icmp_eq X dX9_nextFor_88 (tgt := 107) (by decide) (fun hc => ?_) (fun hc => ?_)
    · have h := h.1 hc
      refine g_iload 5 (i := 4) X dX9_nextFor_107 rfl ?_
      refine g_istore_n (i := 3) (lv' := [(3, (0, v4)), (5, (0, s0)), (0, (2, 28)), (1, (0, v1)), (2, (2, 6)), (4, (0, v4))]) X dX9_nextFor_109 rfl (by decide) rfl ?_
      refine g_iinc 5 (lv' := [(4, (0, w32 (v4 + 1))), (3, (0, v4)), (5, (0, s0)), (0, (2, 28)), (1, (0, v1)), (2, (2, 6))]) X dX9_nextFor_110 rfl (by decide) rfl ?_
      refine g_goto X dX9_nextFor_113 (tgt := 5) (by decide) ?_
      exact g_sub X [3, 4, 5, 1, 0] rfl (hK5 _ _ _ _ h)
    · have h := h.2 hc
      refine g_aload_n 1 (i := 0) X dX9_nextFor_91 rfl rfl ?_
      refine g_getR X dX9_nextFor_92 fX9_27 ?_
      refine g_iload 5 (i := 4) X dX9_nextFor_95 rfl ?_
      obtain ⟨hi, h⟩ := h
      refine g_iald X dX9_nextFor_97 rfl hi ?_
      refine g_aload_n 1 (i := 0) X dX9_nextFor_98 rfl rfl ?_
      refine g_getR X dX9_nextFor_99 fX9_27 ?_
      refine g_iload_n 4 (i := 3) X dX9_nextFor_102 rfl rfl ?_
      obtain ⟨hi, h⟩ := h
      refine g_iald X dX9_nextFor_103 rfl hi ?_
      refine g_icmp_ge X dX9_nextFor_104 (tgt := 110) (by decide) (fun hc => ?_) (fun hc => ?_)
      · have h := h.1 hc
        refine g_iinc 5 (lv' := [(4, (0, w32 (v4 + 1))), (5, (0, s0)), (0, (2, 28)), (1, (0, v1)), (2, (2, 6)), (3, (0, v3))]) X dX9_nextFor_110 rfl (by decide) rfl ?_
        refine g_goto X dX9_nextFor_113 (tgt := 5) (by decide) ?_
        exact g_sub X [2, 3, 4, 5, 0] rfl (hK5 _ _ _ _ h)
      · have h := h.2 hc
        refine g_iload 5 (i := 4) X dX9_nextFor_107 rfl ?_
        refine g_istore_n (i := 3) (lv' := [(3, (0, v4)), (5, (0, s0)), (0, (2, 28)), (1, (0, v1)), (2, (2, 6)), (4, (0, v4))]) X dX9_nextFor_109 rfl (by decide) rfl ?_
        refine g_iinc 5 (lv' := [(4, (0, w32 (v4 + 1))), (3, (0, v4)), (5, (0, s0)), (0, (2, 28)), (1, (0, v1)), (2, (2, 6))]) X dX9_nextFor_110 rfl (by decide) rfl ?_
        refine g_goto X dX9_nextFor_113 (tgt := 5) (by decide) ?_
        exact g_sub X [3, 4, 5, 1, 0] rfl (hK5 _ _ _ _ h)
def wp_X9_nextFor_5  (post : Int → Mem → Prop) : Nat → Int → Int → Int → Mem → Prop
  | 0, _, _, _, _ => False
  | n + 1, v1, v3, v4, m =>
  ((m 28 4 ≤ v4 → (post v3 m)) ∧
  (¬ m 28 4 ≤ v4 → ((0 ≤ v4 ∧ v4 < 30) ∧ ((0 ≤ v1 ∧ v1 < 20) ∧ (((¬ m 31 v4 = m 7 v1 → (wp_X9_nextFor_5  post n v1 v3 (w32 (v4 + 1)) m)) ∧
  (m 31 v4 = m 7 v1 → ((0 ≤ v4 ∧ v4 < 30) ∧ (((m 34 v4 ≤ m 28 0 → ((0 ≤ v4 ∧ v4 < 30) ∧ ((0 ≤ v4 ∧ v4 < 30) ∧ ((0 ≤ w32 (w32 (m 31 v4 * 8) + m 32 v4) ∧ w32 (w32 (m 31 v4 * 8) + m 32 v4) < 64) ∧ (((¬ m 11 (w32 (w32 (m 31 v4 * 8) + m 32 v4)) = v1 → (wp_X9_nextFor_79 v1 v3 v4 0 m (fun v1_1 v3_1 v4_1 m_1 => wp_X9_nextFor_5  post n v1_1 v3_1 v4_1 m_1) post)) ∧
  (m 11 (w32 (w32 (m 31 v4 * 8) + m 32 v4)) = v1 → (wp_X9_nextFor_79 v1 v3 v4 1 m (fun v1_2 v3_2 v4_2 m_2 => wp_X9_nextFor_5  post n v1_2 v3_2 v4_2 m_2) post)))))))) ∧
  (¬ m 34 v4 ≤ m 28 0 → (wp_X9_nextFor_5  post n v1 v3 (w32 (v4 + 1)) m))))))))))))
set_option maxRecDepth 100000 in
theorem pf_X9_nextFor_5 {l : Launch} {x : WX} {G : GT} {post : Int → Mem → Prop}  (X : Ax l x cX9_nextFor RX9 6 (rmd 0) 67 G) (hr : RI cX9_nextFor post G) : ∀ (n : Nat) (v1 : Int) (v3 : Int) (v4 : Int) (m : Mem) (_ : wp_X9_nextFor_5  post n v1 v3 v4 m), G 5 [(0, (2, 28)), (1, (0, v1)), (2, (2, 6)), (3, (0, v3)), (4, (0, v4))] [] m := by
  intro n
  induction n with
  | zero => intro v1 v3 v4 m h; exact absurd h id
  | succ n ih =>
  intro v1 v3 v4 m h
  unfold wp_X9_nextFor_5 at h
  refine g_iload 4 (i := 4) X dX9_nextFor_5 rfl ?_
  refine g_aload_n 0 (i := 0) X dX9_nextFor_7 rfl rfl ?_
  refine g_getI X dX9_nextFor_8 fX9_43 ?_
  refine g_icmp_ge X dX9_nextFor_11 (tgt := 116) (by decide) (fun hc => ?_) (fun hc => ?_)
  · have h := h.1 hc
    refine g_iload_n 3 (i := 3) X dX9_nextFor_116 rfl rfl ?_
    exact hr _ _ _ _ _ dX9_nextFor_117 h
  · have h := h.2 hc
    refine g_aload_n 0 (i := 0) X dX9_nextFor_14 rfl rfl ?_
    refine g_getR X dX9_nextFor_15 fX9_18 ?_
    refine g_iload 4 (i := 4) X dX9_nextFor_18 rfl ?_
    obtain ⟨hi, h⟩ := h
    refine g_iald X dX9_nextFor_20 rfl hi ?_
    refine g_aload_n 2 (i := 2) X dX9_nextFor_21 rfl rfl ?_
    refine g_getR X dX9_nextFor_22 fX9_105 ?_
    refine g_iload_n 1 (i := 1) X dX9_nextFor_25 rfl rfl ?_
    obtain ⟨hi, h⟩ := h
    refine g_iald X dX9_nextFor_26 rfl hi ?_
    refine g_icmp_ne X dX9_nextFor_27 (tgt := 110) (by decide) (fun hc => ?_) (fun hc => ?_)
    · have h := h.1 hc
      refine g_iinc 4 (lv' := [(4, (0, w32 (v4 + 1))), (0, (2, 28)), (1, (0, v1)), (2, (2, 6)), (3, (0, v3))]) X dX9_nextFor_110 rfl (by decide) rfl ?_
      refine g_goto X dX9_nextFor_113 (tgt := 5) (by decide) ?_
      exact g_sub X [1, 2, 3, 4, 0] rfl (ih _ _ _ _ h)
    · have h := h.2 hc
      refine g_aload_n 0 (i := 0) X dX9_nextFor_30 rfl rfl ?_
      refine g_getR X dX9_nextFor_31 fX9_27 ?_
      refine g_iload 4 (i := 4) X dX9_nextFor_34 rfl ?_
      obtain ⟨hi, h⟩ := h
      refine g_iald X dX9_nextFor_36 rfl hi ?_
      refine g_aload_n 0 (i := 0) X dX9_nextFor_37 rfl rfl ?_
      refine g_getI X dX9_nextFor_38 fX9_36 ?_
      refine g_icmp_le X dX9_nextFor_41 (tgt := 47) (by decide) (fun hc => ?_) (fun hc => ?_)
      · have h := h.1 hc
        refine g_aload_n 2 (i := 2) X dX9_nextFor_47 rfl rfl ?_
        refine g_getR X dX9_nextFor_48 fX9_108 ?_
        refine g_aload_n 0 (i := 0) X dX9_nextFor_51 rfl rfl ?_
        refine g_getR X dX9_nextFor_52 fX9_18 ?_
        refine g_iload 4 (i := 4) X dX9_nextFor_55 rfl ?_
        obtain ⟨hi, h⟩ := h
        refine g_iald X dX9_nextFor_57 rfl hi ?_
        refine g_bipush X dX9_nextFor_58 (by decide) ?_
        refine g_imul X dX9_nextFor_60 ?_
        refine g_aload_n 0 (i := 0) X dX9_nextFor_61 rfl rfl ?_
        refine g_getR X dX9_nextFor_62 fX9_21 ?_
        refine g_iload 4 (i := 4) X dX9_nextFor_65 rfl ?_
        obtain ⟨hi, h⟩ := h
        refine g_iald X dX9_nextFor_67 rfl hi ?_
        refine g_iadd X dX9_nextFor_68 ?_
        obtain ⟨hi, h⟩ := h
        refine g_iald X dX9_nextFor_69 rfl hi ?_
        refine g_iload_n 1 (i := 1) X dX9_nextFor_70 rfl rfl ?_
        refine g_icmp_ne X dX9_nextFor_71 (tgt := 78) (by decide) (fun hc => ?_) (fun hc => ?_)
        · have h := h.1 hc
          refine g_iconst X dX9_nextFor_78 (by decide) ?_
          refine g_sub X [0, 1, 2, 3, 4] rfl (pf_X9_nextFor_79 X hr (fun v1_1 v3_1 v4_1 m_1 h => ?_) _ _ _ _ _ h)
          · exact g_sub X [0, 1, 2, 3, 4] rfl (ih _ _ _ _ h)
        · have h := h.2 hc
          refine g_iconst X dX9_nextFor_74 (by decide) ?_
          refine g_goto X dX9_nextFor_75 (tgt := 79) (by decide) ?_
          refine g_sub X [0, 1, 2, 3, 4] rfl (pf_X9_nextFor_79 X hr (fun v1_2 v3_2 v4_2 m_2 h => ?_) _ _ _ _ _ h)
          · exact g_sub X [0, 1, 2, 3, 4] rfl (ih _ _ _ _ h)
      · have h := h.2 hc
        refine g_goto X dX9_nextFor_44 (tgt := 110) (by decide) ?_
        refine g_iinc 4 (lv' := [(4, (0, w32 (v4 + 1))), (0, (2, 28)), (1, (0, v1)), (2, (2, 6)), (3, (0, v3))]) X dX9_nextFor_110 rfl (by decide) rfl ?_
        refine g_goto X dX9_nextFor_113 (tgt := 5) (by decide) ?_
        exact g_sub X [1, 2, 3, 4, 0] rfl (ih _ _ _ _ h)
def wp_X9_nextFor (v1 : Int) (m : Mem) (post : Int → Mem → Prop) : Prop :=
  ∃ n_3 : Nat, wp_X9_nextFor_5  post n_3 v1 (-1) 0 m
set_option maxRecDepth 100000 in
theorem pf_X9_nextFor {l : Launch} {x : WX} {G : GT} {post : Int → Mem → Prop} (X : Ax l x cX9_nextFor RX9 6 (rmd 0) 67 G) (hr : RI cX9_nextFor post G) (v1 : Int) (m : Mem) (h : wp_X9_nextFor v1 m post) : G 0 [(0, (2, 28)), (1, (0, v1)), (2, (2, 6))] [] m := by
  unfold wp_X9_nextFor at h
  refine g_iconst X dX9_nextFor_0 (by decide) ?_
  refine g_istore_n (i := 3) (lv' := [(3, (0, (-1))), (0, (2, 28)), (1, (0, v1)), (2, (2, 6))]) X dX9_nextFor_1 rfl (by decide) rfl ?_
  refine g_iconst X dX9_nextFor_2 (by decide) ?_
  refine g_istore (i := 4) (lv' := [(4, (0, 0)), (3, (0, (-1))), (0, (2, 28)), (1, (0, v1)), (2, (2, 6))]) X dX9_nextFor_3 (by decide) rfl ?_
  obtain ⟨n_3, h⟩ := h
  refine g_sub X [2, 3, 4, 1, 0] rfl (pf_X9_nextFor_5 X hr  n_3 _ _ _ _ h)
theorem im_X9_nextFor (l : Launch) (x : WX) (v1 : Int) (m : Mem) (post : Int → Mem → Prop) (h : wp_X9_nextFor v1 m post) : MetI l x 67 0 yX9_nextFor cX9_nextFor 6 .int [(2, 28), (0, v1), (2, 6)] m post := met_I (by decide) (Nat.le_of_ble_eq_true rfl) (fun _ X hr => pf_X9_nextFor X hr v1 m h)
def wp_X9_take_3  (post : Int → Mem → Prop) : Nat → Int → Int → Int → Int → Mem → Prop
  | 0, _, _, _, _, _ => False
  | n + 1, v1, v2, v3, v6, m =>
  ((v3 ≤ v6 → (post v3 m)) ∧
  (¬ v3 ≤ v6 → (wp_X9_nextFor v2 m (fun r13 m13 => ((¬ r13 = (-1) → ((0 ≤ r13 ∧ r13 < 30) ∧ (∀ m34 : Mem, m34 = mset m13 31 r13 (-1) → ((0 ≤ r13 ∧ r13 < 30) ∧ (∀ m42 : Mem, m42 = mset m34 33 r13 v1 → ((0 ≤ v1 ∧ v1 < 12) ∧ ((0 ≤ r13 ∧ r13 < 30) ∧ (∀ m61 : Mem, m61 = mset m42 34 r13 (w32 (m42 28 0 + m42 18 v1)) → ((0 ≤ r13 ∧ r13 < 30) ∧ ((0 ≤ r13 ∧ r13 < 30) ∧ (∀ m72 : Mem, m72 = mset m61 35 r13 (w32 (m61 35 r13 + 1)) → (wp_X9_take_3  post n v1 v2 v3 (w32 (v6 + 1)) m72)))))))))))) ∧
  (r13 = (-1) → (post v6 m13)))))))
set_option maxRecDepth 100000 in
theorem pf_X9_take_3 {l : Launch} {x : WX} {G : GT} {post : Int → Mem → Prop}  (X : Ax l x cX9_take RX9 8 (rmd 1) 67 G) (hr : RI cX9_take post G) : ∀ (n : Nat) (v1 : Int) (v2 : Int) (v3 : Int) (v6 : Int) (m : Mem) (_ : wp_X9_take_3  post n v1 v2 v3 v6 m), G 3 [(0, (2, 28)), (1, (0, v1)), (2, (0, v2)), (3, (0, v3)), (4, (2, 13)), (5, (2, 6)), (6, (0, v6))] [] m := by
  intro n
  induction n with
  | zero => intro v1 v2 v3 v6 m h; exact absurd h id
  | succ n ih =>
  intro v1 v2 v3 v6 m h
  unfold wp_X9_take_3 at h
  refine g_iload 6 (i := 6) X dX9_take_3 rfl ?_
  refine g_iload_n 3 (i := 3) X dX9_take_5 rfl rfl ?_
  refine g_icmp_ge X dX9_take_6 (tgt := 79) (by decide) (fun hc => ?_) (fun hc => ?_)
  · have h := h.1 hc
    refine g_iload_n 3 (i := 3) X dX9_take_79 rfl rfl ?_
    exact hr _ _ _ _ _ dX9_take_80 h
  · have h := h.2 hc
    refine g_aload_n 0 (i := 0) X dX9_take_9 rfl rfl ?_
    refine g_iload_n 2 (i := 2) X dX9_take_10 rfl rfl ?_
    refine g_aload 5 (i := 5) X dX9_take_11 rfl ?_
    refine g_cVI (st := []) X dX9_take_13 YX9_nextFor lX9_98 (by decide) (im_X9_nextFor l x _ _ _ h) rfl ⟨by decide, by decide⟩ rfl (Nat.le_of_ble_eq_true rfl) (fun r13 m13 h => ?_)
    refine g_istore (i := 7) (lv' := [(7, (0, r13)), (0, (2, 28)), (1, (0, v1)), (2, (0, v2)), (3, (0, v3)), (4, (2, 13)), (5, (2, 6)), (6, (0, v6))]) X dX9_take_16 (by decide) rfl ?_
    refine g_iload 0 (i := 7) X dX9_take_18 rfl ?_
    refine g_iconst X dX9_take_20 (by decide) ?_
    refine g_icmp_ne X dX9_take_21 (tgt := 27) (by decide) (fun hc => ?_) (fun hc => ?_)
    · have h := h.1 hc
      refine g_aload_n 1 (i := 0) X dX9_take_27 rfl rfl ?_
      refine g_getR X dX9_take_28 fX9_18 ?_
      refine g_iload 0 (i := 7) X dX9_take_31 rfl ?_
      refine g_iconst X dX9_take_33 (by decide) ?_
      obtain ⟨hi, h⟩ := h
      refine g_iast X dX9_take_34 rfl hi (fun m34 em34 => ?_)
      have h := h m34 em34
      refine g_aload_n 1 (i := 0) X dX9_take_35 rfl rfl ?_
      refine g_getR X dX9_take_36 fX9_24 ?_
      refine g_iload 0 (i := 7) X dX9_take_39 rfl ?_
      refine g_iload_n 2 (i := 1) X dX9_take_41 rfl rfl ?_
      obtain ⟨hi, h⟩ := h
      refine g_iast X dX9_take_42 rfl hi (fun m42 em42 => ?_)
      have h := h m42 em42
      refine g_aload_n 1 (i := 0) X dX9_take_43 rfl rfl ?_
      refine g_getR X dX9_take_44 fX9_27 ?_
      refine g_iload 0 (i := 7) X dX9_take_47 rfl ?_
      refine g_aload_n 1 (i := 0) X dX9_take_49 rfl rfl ?_
      refine g_getI X dX9_take_50 fX9_36 ?_
      refine g_aload 5 (i := 4) X dX9_take_53 rfl ?_
      refine g_getR X dX9_take_55 fX9_102 ?_
      refine g_iload_n 2 (i := 1) X dX9_take_58 rfl rfl ?_
      obtain ⟨hi, h⟩ := h
      refine g_iald X dX9_take_59 rfl hi ?_
      refine g_iadd X dX9_take_60 ?_
      obtain ⟨hi, h⟩ := h
      refine g_iast X dX9_take_61 rfl hi (fun m61 em61 => ?_)
      have h := h m61 em61
      refine g_aload_n 1 (i := 0) X dX9_take_62 rfl rfl ?_
      refine g_getR X dX9_take_63 fX9_30 ?_
      refine g_iload 0 (i := 7) X dX9_take_66 rfl ?_
      refine g_dup2 X dX9_take_68 rfl rfl ?_
      obtain ⟨hi, h⟩ := h
      refine g_iald X dX9_take_69 rfl hi ?_
      refine g_iconst X dX9_take_70 (by decide) ?_
      refine g_iadd X dX9_take_71 ?_
      obtain ⟨hi, h⟩ := h
      refine g_iast X dX9_take_72 rfl hi (fun m72 em72 => ?_)
      have h := h m72 em72
      refine g_iinc 7 (lv' := [(6, (0, w32 (v6 + 1))), (7, (0, r13)), (0, (2, 28)), (1, (0, v1)), (2, (0, v2)), (3, (0, v3)), (4, (2, 13)), (5, (2, 6))]) X dX9_take_73 rfl (by decide) rfl ?_
      refine g_goto X dX9_take_76 (tgt := 3) (by decide) ?_
      exact g_sub X [2, 3, 4, 5, 6, 7, 0] rfl (ih _ _ _ _ _ h)
    · have h := h.2 hc
      refine g_iload 7 (i := 6) X dX9_take_24 rfl ?_
      exact hr _ _ _ _ _ dX9_take_26 h
def wp_X9_take (v1 : Int) (v2 : Int) (v3 : Int) (m : Mem) (post : Int → Mem → Prop) : Prop :=
  ∃ n_1 : Nat, wp_X9_take_3  post n_1 v1 v2 v3 0 m
set_option maxRecDepth 100000 in
theorem pf_X9_take {l : Launch} {x : WX} {G : GT} {post : Int → Mem → Prop} (X : Ax l x cX9_take RX9 8 (rmd 1) 67 G) (hr : RI cX9_take post G) (v1 : Int) (v2 : Int) (v3 : Int) (m : Mem) (h : wp_X9_take v1 v2 v3 m post) : G 0 [(0, (2, 28)), (1, (0, v1)), (2, (0, v2)), (3, (0, v3)), (4, (2, 13)), (5, (2, 6))] [] m := by
  unfold wp_X9_take at h
  refine g_iconst X dX9_take_0 (by decide) ?_
  refine g_istore (i := 6) (lv' := [(6, (0, 0)), (0, (2, 28)), (1, (0, v1)), (2, (0, v2)), (3, (0, v3)), (4, (2, 13)), (5, (2, 6))]) X dX9_take_1 (by decide) rfl ?_
  obtain ⟨n_1, h⟩ := h
  refine g_sub X [1, 2, 3, 4, 5, 6, 0] rfl (pf_X9_take_3 X hr  n_1 _ _ _ _ _ h)
theorem im_X9_take (l : Launch) (x : WX) (v1 : Int) (v2 : Int) (v3 : Int) (m : Mem) (post : Int → Mem → Prop) (h : wp_X9_take v1 v2 v3 m post) : MetI l x 67 1 yX9_take cX9_take 8 .int [(2, 28), (0, v1), (0, v2), (0, v3), (2, 13), (2, 6)] m post := met_I (by decide) (Nat.le_of_ble_eq_true rfl) (fun _ X hr => pf_X9_take X hr v1 v2 v3 m h)
def wp_X9_leaveOrStay_90 (v1 : Int) (v4 : Int) (m : Mem)  (post : Mem → Prop) : Prop :=
  wp_X8_noteLeaving v1 (m 28 0) v4 m (fun m98 => post m98)
set_option maxRecDepth 100000 in
theorem pf_X9_leaveOrStay_90 {l : Launch} {x : WX} {G : GT} {post : Mem → Prop}  (X : Ax l x cX9_leaveOrStay RX9 5 (rmd 2) 67 G) (hr : RV cX9_leaveOrStay post G) (v1 : Int) (v4 : Int) (m : Mem) (h : wp_X9_leaveOrStay_90 v1 v4 m  post) : G 90 [(0, (2, 28)), (1, (0, v1)), (2, (2, 13)), (4, (0, v4))] [] m := by
  unfold wp_X9_leaveOrStay_90 at h
  refine g_aload_n 2 (i := 2) X dX9_leaveOrStay_90 rfl rfl ?_
  refine g_iload_n 1 (i := 1) X dX9_leaveOrStay_91 rfl rfl ?_
  refine g_aload_n 0 (i := 0) X dX9_leaveOrStay_92 rfl rfl ?_
  refine g_getI X dX9_leaveOrStay_93 fX9_36 ?_
  refine g_iload 3 (i := 4) X dX9_leaveOrStay_96 rfl ?_
  refine g_cVV (st := []) X dX9_leaveOrStay_98 YX8_noteLeaving lX9_94 (by decide) (im_X8_noteLeaving l x _ _ _ _ _ h) rfl ⟨by decide, by decide⟩ rfl (Nat.le_of_ble_eq_true rfl) (fun m98 h => ?_)
  exact hr _ _ _ _ dX9_leaveOrStay_101 h
def wp_X9_leaveOrStay (v1 : Int) (m : Mem) (post : Mem → Prop) : Prop :=
  (0 ≤ v1 ∧ v1 < 12) ∧ (wp_X9_isClosed (m 16 v1) m (fun r7 m7 => ((¬ r7 = 0 → (wp_X8_noteShut v1 m7 (fun m28 => post m28))) ∧
  (r7 = 0 → ((0 ≤ v1 ∧ v1 < 12) ∧ (wp_X9_isClosed (m7 17 v1) m7 (fun r20 m20 => ((r20 = 0 → ((0 ≤ v1 ∧ v1 < 12) ∧ ((0 ≤ v1 ∧ v1 < 12) ∧ (wp_X9_take v1 (m20 14 v1) (m20 19 v1) m20 (fun r48 m48 => (0 ≤ v1 ∧ v1 < 12) ∧ (((m48 15 v1 = (-1) → (wp_X9_leaveOrStay_90 v1 r48 m48  post)) ∧
  (¬ m48 15 v1 = (-1) → ((0 ≤ v1 ∧ v1 < 12) ∧ ((0 ≤ v1 ∧ v1 < 12) ∧ (wp_X9_take v1 (m48 15 v1) (w32 (m48 19 v1 - r48)) m48 (fun r84 m84 => ∀ v4_88 : Int, v4_88 = w32 (r48 + r84) → (wp_X9_leaveOrStay_90 v1 v4_88 m84  post))))))))))))) ∧
  (¬ r20 = 0 → (wp_X8_noteShut v1 m20 (fun m28 => post m28)))))))))))
set_option maxRecDepth 100000 in
theorem pf_X9_leaveOrStay {l : Launch} {x : WX} {G : GT} {post : Mem → Prop} (X : Ax l x cX9_leaveOrStay RX9 5 (rmd 2) 67 G) (hr : RV cX9_leaveOrStay post G) (v1 : Int) (m : Mem) (h : wp_X9_leaveOrStay v1 m post) : G 0 [(0, (2, 28)), (1, (0, v1)), (2, (2, 13)), (3, (2, 6))] [] m := by
  unfold wp_X9_leaveOrStay at h
  refine g_aload_n 0 (i := 0) X dX9_leaveOrStay_0 rfl rfl ?_
  refine g_aload_n 2 (i := 2) X dX9_leaveOrStay_1 rfl rfl ?_
  refine g_getR X dX9_leaveOrStay_2 fX9_70 ?_
  refine g_iload_n 1 (i := 1) X dX9_leaveOrStay_5 rfl rfl ?_
  obtain ⟨hi, h⟩ := h
  refine g_iald X dX9_leaveOrStay_6 rfl hi ?_
  refine g_cVI (st := []) X dX9_leaveOrStay_7 YX9_isClosed lX9_73 (by decide) (im_X9_isClosed l x _ _ _ h) rfl ⟨by decide, by decide⟩ rfl (Nat.le_of_ble_eq_true rfl) (fun r7 m7 h => ?_)
  refine g_if_ne X dX9_leaveOrStay_10 (tgt := 26) (by decide) (fun hc => ?_) (fun hc => ?_)
  · have h := h.1 hc
    refine g_aload_n 2 (i := 2) X dX9_leaveOrStay_26 rfl rfl ?_
    refine g_iload_n 1 (i := 1) X dX9_leaveOrStay_27 rfl rfl ?_
    refine g_cVV (st := []) X dX9_leaveOrStay_28 YX8_noteShut lX9_77 (by decide) (im_X8_noteShut l x _ _ _ h) rfl ⟨by decide, by decide⟩ rfl (Nat.le_of_ble_eq_true rfl) (fun m28 h => ?_)
    exact hr _ _ _ _ dX9_leaveOrStay_31 h
  · have h := h.2 hc
    refine g_aload_n 0 (i := 0) X dX9_leaveOrStay_13 rfl rfl ?_
    refine g_aload_n 2 (i := 2) X dX9_leaveOrStay_14 rfl rfl ?_
    refine g_getR X dX9_leaveOrStay_15 fX9_67 ?_
    refine g_iload_n 1 (i := 1) X dX9_leaveOrStay_18 rfl rfl ?_
    obtain ⟨hi, h⟩ := h
    refine g_iald X dX9_leaveOrStay_19 rfl hi ?_
    refine g_cVI (st := []) X dX9_leaveOrStay_20 YX9_isClosed lX9_73 (by decide) (im_X9_isClosed l x _ _ _ h) rfl ⟨by decide, by decide⟩ rfl (Nat.le_of_ble_eq_true rfl) (fun r20 m20 h => ?_)
    refine g_if_eq X dX9_leaveOrStay_23 (tgt := 32) (by decide) (fun hc => ?_) (fun hc => ?_)
    · have h := h.1 hc
      refine g_aload_n 0 (i := 0) X dX9_leaveOrStay_32 rfl rfl ?_
      refine g_iload_n 1 (i := 1) X dX9_leaveOrStay_33 rfl rfl ?_
      refine g_aload_n 2 (i := 2) X dX9_leaveOrStay_34 rfl rfl ?_
      refine g_getR X dX9_leaveOrStay_35 fX9_81 ?_
      refine g_iload_n 1 (i := 1) X dX9_leaveOrStay_38 rfl rfl ?_
      obtain ⟨hi, h⟩ := h
      refine g_iald X dX9_leaveOrStay_39 rfl hi ?_
      refine g_aload_n 2 (i := 2) X dX9_leaveOrStay_40 rfl rfl ?_
      refine g_getR X dX9_leaveOrStay_41 fX9_84 ?_
      refine g_iload_n 1 (i := 1) X dX9_leaveOrStay_44 rfl rfl ?_
      obtain ⟨hi, h⟩ := h
      refine g_iald X dX9_leaveOrStay_45 rfl hi ?_
      refine g_aload_n 2 (i := 2) X dX9_leaveOrStay_46 rfl rfl ?_
      refine g_aload_n 3 (i := 3) X dX9_leaveOrStay_47 rfl rfl ?_
      refine g_cVI (st := []) X dX9_leaveOrStay_48 YX9_take lX9_87 (by decide) (im_X9_take l x _ _ _ _ _ h) rfl ⟨by decide, by decide⟩ rfl (Nat.le_of_ble_eq_true rfl) (fun r48 m48 h => ?_)
      refine g_istore (i := 4) (lv' := [(4, (0, r48)), (0, (2, 28)), (1, (0, v1)), (2, (2, 13)), (3, (2, 6))]) X dX9_leaveOrStay_51 (by decide) rfl ?_
      refine g_aload_n 3 (i := 2) X dX9_leaveOrStay_53 rfl rfl ?_
      refine g_getR X dX9_leaveOrStay_54 fX9_91 ?_
      refine g_iload_n 2 (i := 1) X dX9_leaveOrStay_57 rfl rfl ?_
      obtain ⟨hi, h⟩ := h
      refine g_iald X dX9_leaveOrStay_58 rfl hi ?_
      refine g_iconst X dX9_leaveOrStay_59 (by decide) ?_
      refine g_icmp_eq X dX9_leaveOrStay_60 (tgt := 90) (by decide) (fun hc => ?_) (fun hc => ?_)
      · have h := h.1 hc
        refine g_sub X [1, 2, 3, 0] rfl (pf_X9_leaveOrStay_90 X hr  _ _ _ h)
      · have h := h.2 hc
        refine g_iload 0 (i := 4) X dX9_leaveOrStay_63 rfl ?_
        refine g_aload_n 1 (i := 0) X dX9_leaveOrStay_65 rfl rfl ?_
        refine g_iload_n 2 (i := 1) X dX9_leaveOrStay_66 rfl rfl ?_
        refine g_aload_n 3 (i := 2) X dX9_leaveOrStay_67 rfl rfl ?_
        refine g_getR X dX9_leaveOrStay_68 fX9_91 ?_
        refine g_iload_n 2 (i := 1) X dX9_leaveOrStay_71 rfl rfl ?_
        obtain ⟨hi, h⟩ := h
        refine g_iald X dX9_leaveOrStay_72 rfl hi ?_
        refine g_aload_n 3 (i := 2) X dX9_leaveOrStay_73 rfl rfl ?_
        refine g_getR X dX9_leaveOrStay_74 fX9_84 ?_
        refine g_iload_n 2 (i := 1) X dX9_leaveOrStay_77 rfl rfl ?_
        obtain ⟨hi, h⟩ := h
        refine g_iald X dX9_leaveOrStay_78 rfl hi ?_
        refine g_iload 0 (i := 4) X dX9_leaveOrStay_79 rfl ?_
        refine g_isub X dX9_leaveOrStay_81 ?_
        refine g_aload_n 3 (i := 2) X dX9_leaveOrStay_82 rfl rfl ?_
        refine g_aload_n 4 (i := 3) X dX9_leaveOrStay_83 rfl rfl ?_
        refine g_cVI (st := [(0, r48)]) X dX9_leaveOrStay_84 YX9_take lX9_87 (by decide) (im_X9_take l x _ _ _ _ _ h) rfl ⟨by decide, by decide⟩ rfl (Nat.le_of_ble_eq_true rfl) (fun r84 m84 h => ?_)
        refine g_iadd X dX9_leaveOrStay_87 ?_
        refine g_nmI (fun v4_88 ev4_88 => ?_)
        have h := h v4_88 ev4_88
        refine g_istore (i := 4) (lv' := [(4, (0, v4_88)), (0, (2, 28)), (1, (0, v1)), (2, (2, 13)), (3, (2, 6))]) X dX9_leaveOrStay_88 (by decide) rfl ?_
        refine g_sub X [1, 2, 3, 0] rfl (pf_X9_leaveOrStay_90 X hr  _ _ _ h)
    · have h := h.2 hc
      refine g_aload_n 2 (i := 2) X dX9_leaveOrStay_26 rfl rfl ?_
      refine g_iload_n 1 (i := 1) X dX9_leaveOrStay_27 rfl rfl ?_
      refine g_cVV (st := []) X dX9_leaveOrStay_28 YX8_noteShut lX9_77 (by decide) (im_X8_noteShut l x _ _ _ h) rfl ⟨by decide, by decide⟩ rfl (Nat.le_of_ble_eq_true rfl) (fun m28 h => ?_)
      exact hr _ _ _ _ dX9_leaveOrStay_31 h
theorem im_X9_leaveOrStay (l : Launch) (x : WX) (v1 : Int) (m : Mem) (post : Mem → Prop) (h : wp_X9_leaveOrStay v1 m post) : MetV l x 67 2 yX9_leaveOrStay cX9_leaveOrStay 5 [(2, 28), (0, v1), (2, 13), (2, 6)] m post := met_V (by decide) (Nat.le_of_ble_eq_true rfl) (fun _ X hr => pf_X9_leaveOrStay X hr v1 m h)
def wp_X9_passHour_7  (post : Mem → Prop) : Nat → Int → Mem → Prop
  | 0, _, _ => False
  | n + 1, v3, m =>
  ((m 13 0 ≤ v3 → (∀ m47 : Mem, m47 = mset m 28 0 (w32 (m 28 0 + 1)) → (post m47))) ∧
  (¬ m 13 0 ≤ v3 → (wp_X8_isDue v3 (m 28 0) m (fun r21 m21 => ((r21 = 0 → (wp_X9_passHour_7  post n (w32 (v3 + 1)) m21)) ∧
  (¬ r21 = 0 → (wp_X9_leaveOrStay v3 m21 (fun m31 => wp_X9_passHour_7  post n (w32 (v3 + 1)) m31))))))))
set_option maxRecDepth 100000 in
theorem pf_X9_passHour_7 {l : Launch} {x : WX} {G : GT} {post : Mem → Prop}  (X : Ax l x cX9_passHour RX9 4 (rmd 3) 67 G) (hr : RV cX9_passHour post G) : ∀ (n : Nat) (v3 : Int) (m : Mem) (_ : wp_X9_passHour_7  post n v3 m), G 7 [(0, (2, 28)), (1, (2, 13)), (2, (2, 6)), (3, (0, v3))] [] m := by
  intro n
  induction n with
  | zero => intro v3 m h; exact absurd h id
  | succ n ih =>
  intro v3 m h
  unfold wp_X9_passHour_7 at h
  refine g_iload_n 3 (i := 3) X dX9_passHour_7 rfl rfl ?_
  refine g_aload_n 1 (i := 1) X dX9_passHour_8 rfl rfl ?_
  refine g_getI X dX9_passHour_9 fX9_56 ?_
  refine g_icmp_ge X dX9_passHour_12 (tgt := 40) (by decide) (fun hc => ?_) (fun hc => ?_)
  · have h := h.1 hc
    refine g_aload_n 0 (i := 0) X dX9_passHour_40 rfl rfl ?_
    refine g_dup X dX9_passHour_41 rfl ?_
    refine g_getI X dX9_passHour_42 fX9_36 ?_
    refine g_iconst X dX9_passHour_45 (by decide) ?_
    refine g_iadd X dX9_passHour_46 ?_
    refine g_putI X dX9_passHour_47 pX9_36 (fun m47 em47 => ?_)
    have h := h m47 em47
    exact hr _ _ _ _ dX9_passHour_50 h
  · have h := h.2 hc
    refine g_aload_n 1 (i := 1) X dX9_passHour_15 rfl rfl ?_
    refine g_iload_n 3 (i := 3) X dX9_passHour_16 rfl rfl ?_
    refine g_aload_n 0 (i := 0) X dX9_passHour_17 rfl rfl ?_
    refine g_getI X dX9_passHour_18 fX9_36 ?_
    refine g_cVI (st := []) X dX9_passHour_21 YX8_isDue lX9_59 (by decide) (im_X8_isDue l x _ _ _ _ h) rfl ⟨by decide, by decide⟩ rfl (Nat.le_of_ble_eq_true rfl) (fun r21 m21 h => ?_)
    refine g_if_eq X dX9_passHour_24 (tgt := 34) (by decide) (fun hc => ?_) (fun hc => ?_)
    · have h := h.1 hc
      refine g_iinc 3 (lv' := [(3, (0, w32 (v3 + 1))), (0, (2, 28)), (1, (2, 13)), (2, (2, 6))]) X dX9_passHour_34 rfl (by decide) rfl ?_
      refine g_goto X dX9_passHour_37 (tgt := 7) (by decide) ?_
      exact g_sub X [1, 2, 3, 0] rfl (ih _ _ h)
    · have h := h.2 hc
      refine g_aload_n 0 (i := 0) X dX9_passHour_27 rfl rfl ?_
      refine g_iload_n 3 (i := 3) X dX9_passHour_28 rfl rfl ?_
      refine g_aload_n 1 (i := 1) X dX9_passHour_29 rfl rfl ?_
      refine g_aload_n 2 (i := 2) X dX9_passHour_30 rfl rfl ?_
      refine g_cVV (st := []) X dX9_passHour_31 YX9_leaveOrStay lX9_63 (by decide) (im_X9_leaveOrStay l x _ _ _ h) rfl ⟨by decide, by decide⟩ rfl (Nat.le_of_ble_eq_true rfl) (fun m31 h => ?_)
      refine g_iinc 3 (lv' := [(3, (0, w32 (v3 + 1))), (0, (2, 28)), (1, (2, 13)), (2, (2, 6))]) X dX9_passHour_34 rfl (by decide) rfl ?_
      refine g_goto X dX9_passHour_37 (tgt := 7) (by decide) ?_
      exact g_sub X [1, 2, 3, 0] rfl (ih _ _ h)
def wp_X9_passHour  (m : Mem) (post : Mem → Prop) : Prop :=
  wp_X9_comeIn m (fun m2 => ∃ n_1 : Nat, wp_X9_passHour_7  post n_1 0 m2)
set_option maxRecDepth 100000 in
theorem pf_X9_passHour {l : Launch} {x : WX} {G : GT} {post : Mem → Prop} (X : Ax l x cX9_passHour RX9 4 (rmd 3) 67 G) (hr : RV cX9_passHour post G)  (m : Mem) (h : wp_X9_passHour  m post) : G 0 [(0, (2, 28)), (1, (2, 13)), (2, (2, 6))] [] m := by
  unfold wp_X9_passHour at h
  refine g_aload_n 0 (i := 0) X dX9_passHour_0 rfl rfl ?_
  refine g_aload_n 1 (i := 1) X dX9_passHour_1 rfl rfl ?_
  refine g_cVV (st := []) X dX9_passHour_2 YX9_comeIn lX9_52 (by decide) (im_X9_comeIn l x  _ _ h) rfl ⟨by decide, by decide⟩ rfl (Nat.le_of_ble_eq_true rfl) (fun m2 h => ?_)
  refine g_iconst X dX9_passHour_5 (by decide) ?_
  refine g_istore_n (i := 3) (lv' := [(3, (0, 0)), (0, (2, 28)), (1, (2, 13)), (2, (2, 6))]) X dX9_passHour_6 rfl (by decide) rfl ?_
  obtain ⟨n_1, h⟩ := h
  refine g_sub X [1, 2, 3, 0] rfl (pf_X9_passHour_7 X hr  n_1 _ _ h)
theorem im_X9_passHour (l : Launch) (x : WX)  (m : Mem) (post : Mem → Prop) (h : wp_X9_passHour  m post) : MetV l x 67 3 yX9_passHour cX9_passHour 4 [(2, 28), (2, 13), (2, 6)] m post := met_V (by decide) (Nat.le_of_ble_eq_true rfl) (fun _ X hr => pf_X9_passHour X hr  m h)
def wp_X9_standingAt_5  (post : Int → Mem → Prop) : Nat → Int → Int → Int → Int → Mem → Prop
  | 0, _, _, _, _, _ => False
  | n + 1, v1, v2, v3, v4, m =>
  ((m 28 4 ≤ v4 → (post v3 m)) ∧
  (¬ m 28 4 ≤ v4 → ((0 ≤ v4 ∧ v4 < 30) ∧ (((¬ m 31 v4 = v1 → (wp_X9_standingAt_5  post n v1 v2 v3 (w32 (v4 + 1)) m)) ∧
  (m 31 v4 = v1 → (((v2 = 0 → (wp_X9_standingAt_5  post n v1 v2 (w32 (v3 + 1)) (w32 (v4 + 1)) m)) ∧
  (¬ v2 = 0 → ((0 ≤ v4 ∧ v4 < 30) ∧ (((m 28 0 < m 34 v4 → (wp_X9_standingAt_5  post n v1 v2 v3 (w32 (v4 + 1)) m)) ∧
  (¬ m 28 0 < m 34 v4 → (wp_X9_standingAt_5  post n v1 v2 (w32 (v3 + 1)) (w32 (v4 + 1)) m))))))))))))))
set_option maxRecDepth 100000 in
theorem pf_X9_standingAt_5 {l : Launch} {x : WX} {G : GT} {post : Int → Mem → Prop}  (X : Ax l x cX9_standingAt RX9 5 (rmd 0) 67 G) (hr : RI cX9_standingAt post G) : ∀ (n : Nat) (v1 : Int) (v2 : Int) (v3 : Int) (v4 : Int) (m : Mem) (_ : wp_X9_standingAt_5  post n v1 v2 v3 v4 m), G 5 [(0, (2, 28)), (1, (0, v1)), (2, (0, v2)), (3, (0, v3)), (4, (0, v4))] [] m := by
  intro n
  induction n with
  | zero => intro v1 v2 v3 v4 m h; exact absurd h id
  | succ n ih =>
  intro v1 v2 v3 v4 m h
  unfold wp_X9_standingAt_5 at h
  refine g_iload 4 (i := 4) X dX9_standingAt_5 rfl ?_
  refine g_aload_n 0 (i := 0) X dX9_standingAt_7 rfl rfl ?_
  refine g_getI X dX9_standingAt_8 fX9_43 ?_
  refine g_icmp_ge X dX9_standingAt_11 (tgt := 52) (by decide) (fun hc => ?_) (fun hc => ?_)
  · have h := h.1 hc
    refine g_iload_n 3 (i := 3) X dX9_standingAt_52 rfl rfl ?_
    exact hr _ _ _ _ _ dX9_standingAt_53 h
  · have h := h.2 hc
    refine g_aload_n 0 (i := 0) X dX9_standingAt_14 rfl rfl ?_
    refine g_getR X dX9_standingAt_15 fX9_18 ?_
    refine g_iload 4 (i := 4) X dX9_standingAt_18 rfl ?_
    obtain ⟨hi, h⟩ := h
    refine g_iald X dX9_standingAt_20 rfl hi ?_
    refine g_iload_n 1 (i := 1) X dX9_standingAt_21 rfl rfl ?_
    refine g_icmp_ne X dX9_standingAt_22 (tgt := 46) (by decide) (fun hc => ?_) (fun hc => ?_)
    · have h := h.1 hc
      refine g_iinc 4 (lv' := [(4, (0, w32 (v4 + 1))), (0, (2, 28)), (1, (0, v1)), (2, (0, v2)), (3, (0, v3))]) X dX9_standingAt_46 rfl (by decide) rfl ?_
      refine g_goto X dX9_standingAt_49 (tgt := 5) (by decide) ?_
      exact g_sub X [1, 2, 3, 4, 0] rfl (ih _ _ _ _ _ h)
    · have h := h.2 hc
      refine g_iload_n 2 (i := 2) X dX9_standingAt_25 rfl rfl ?_
      refine g_if_eq X dX9_standingAt_26 (tgt := 43) (by decide) (fun hc => ?_) (fun hc => ?_)
      · have h := h.1 hc
        refine g_iinc 3 (lv' := [(3, (0, w32 (v3 + 1))), (0, (2, 28)), (1, (0, v1)), (2, (0, v2)), (4, (0, v4))]) X dX9_standingAt_43 rfl (by decide) rfl ?_
        refine g_iinc 4 (lv' := [(4, (0, w32 (v4 + 1))), (3, (0, w32 (v3 + 1))), (0, (2, 28)), (1, (0, v1)), (2, (0, v2))]) X dX9_standingAt_46 rfl (by decide) rfl ?_
        refine g_goto X dX9_standingAt_49 (tgt := 5) (by decide) ?_
        exact g_sub X [2, 3, 4, 1, 0] rfl (ih _ _ _ _ _ h)
      · have h := h.2 hc
        refine g_aload_n 0 (i := 0) X dX9_standingAt_29 rfl rfl ?_
        refine g_getR X dX9_standingAt_30 fX9_27 ?_
        refine g_iload 4 (i := 4) X dX9_standingAt_33 rfl ?_
        obtain ⟨hi, h⟩ := h
        refine g_iald X dX9_standingAt_35 rfl hi ?_
        refine g_aload_n 0 (i := 0) X dX9_standingAt_36 rfl rfl ?_
        refine g_getI X dX9_standingAt_37 fX9_36 ?_
        refine g_icmp_gt X dX9_standingAt_40 (tgt := 46) (by decide) (fun hc => ?_) (fun hc => ?_)
        · have h := h.1 hc
          refine g_iinc 4 (lv' := [(4, (0, w32 (v4 + 1))), (0, (2, 28)), (1, (0, v1)), (2, (0, v2)), (3, (0, v3))]) X dX9_standingAt_46 rfl (by decide) rfl ?_
          refine g_goto X dX9_standingAt_49 (tgt := 5) (by decide) ?_
          exact g_sub X [1, 2, 3, 4, 0] rfl (ih _ _ _ _ _ h)
        · have h := h.2 hc
          refine g_iinc 3 (lv' := [(3, (0, w32 (v3 + 1))), (0, (2, 28)), (1, (0, v1)), (2, (0, v2)), (4, (0, v4))]) X dX9_standingAt_43 rfl (by decide) rfl ?_
          refine g_iinc 4 (lv' := [(4, (0, w32 (v4 + 1))), (3, (0, w32 (v3 + 1))), (0, (2, 28)), (1, (0, v1)), (2, (0, v2))]) X dX9_standingAt_46 rfl (by decide) rfl ?_
          refine g_goto X dX9_standingAt_49 (tgt := 5) (by decide) ?_
          exact g_sub X [2, 3, 4, 1, 0] rfl (ih _ _ _ _ _ h)
def wp_X9_standingAt (v1 : Int) (v2 : Int) (m : Mem) (post : Int → Mem → Prop) : Prop :=
  ∃ n_1 : Nat, wp_X9_standingAt_5  post n_1 v1 v2 0 0 m
set_option maxRecDepth 100000 in
theorem pf_X9_standingAt {l : Launch} {x : WX} {G : GT} {post : Int → Mem → Prop} (X : Ax l x cX9_standingAt RX9 5 (rmd 0) 67 G) (hr : RI cX9_standingAt post G) (v1 : Int) (v2 : Int) (m : Mem) (h : wp_X9_standingAt v1 v2 m post) : G 0 [(0, (2, 28)), (1, (0, v1)), (2, (0, v2))] [] m := by
  unfold wp_X9_standingAt at h
  refine g_iconst X dX9_standingAt_0 (by decide) ?_
  refine g_istore_n (i := 3) (lv' := [(3, (0, 0)), (0, (2, 28)), (1, (0, v1)), (2, (0, v2))]) X dX9_standingAt_1 rfl (by decide) rfl ?_
  refine g_iconst X dX9_standingAt_2 (by decide) ?_
  refine g_istore (i := 4) (lv' := [(4, (0, 0)), (3, (0, 0)), (0, (2, 28)), (1, (0, v1)), (2, (0, v2))]) X dX9_standingAt_3 (by decide) rfl ?_
  obtain ⟨n_1, h⟩ := h
  refine g_sub X [2, 3, 4, 1, 0] rfl (pf_X9_standingAt_5 X hr  n_1 _ _ _ _ _ h)
theorem im_X9_standingAt (l : Launch) (x : WX) (v1 : Int) (v2 : Int) (m : Mem) (post : Int → Mem → Prop) (h : wp_X9_standingAt v1 v2 m post) : MetI l x 67 0 yX9_standingAt cX9_standingAt 5 .int [(2, 28), (0, v1), (0, v2)] m post := met_I (by decide) (Nat.le_of_ble_eq_true rfl) (fun _ X hr => pf_X9_standingAt X hr v1 v2 m h)
def wp_X9_doneMany_4  (post : Int → Mem → Prop) : Nat → Int → Int → Mem → Prop
  | 0, _, _, _ => False
  | n + 1, v1, v2, m =>
  ((m 28 4 ≤ v2 → (post v1 m)) ∧
  (¬ m 28 4 ≤ v2 → ((0 ≤ v2 ∧ v2 < 30) ∧ (∀ v1_20 : Int, v1_20 = w32 (v1 + m 36 v2) → (wp_X9_doneMany_4  post n v1_20 (w32 (v2 + 1)) m)))))
set_option maxRecDepth 100000 in
theorem pf_X9_doneMany_4 {l : Launch} {x : WX} {G : GT} {post : Int → Mem → Prop}  (X : Ax l x cX9_doneMany RX9 3 (rmd 0) 67 G) (hr : RI cX9_doneMany post G) : ∀ (n : Nat) (v1 : Int) (v2 : Int) (m : Mem) (_ : wp_X9_doneMany_4  post n v1 v2 m), G 4 [(0, (2, 28)), (1, (0, v1)), (2, (0, v2))] [] m := by
  intro n
  induction n with
  | zero => intro v1 v2 m h; exact absurd h id
  | succ n ih =>
  intro v1 v2 m h
  unfold wp_X9_doneMany_4 at h
  refine g_iload_n 2 (i := 2) X dX9_doneMany_4 rfl rfl ?_
  refine g_aload_n 0 (i := 0) X dX9_doneMany_5 rfl rfl ?_
  refine g_getI X dX9_doneMany_6 fX9_43 ?_
  refine g_icmp_ge X dX9_doneMany_9 (tgt := 27) (by decide) (fun hc => ?_) (fun hc => ?_)
  · have h := h.1 hc
    refine g_iload_n 1 (i := 1) X dX9_doneMany_27 rfl rfl ?_
    exact hr _ _ _ _ _ dX9_doneMany_28 h
  · have h := h.2 hc
    refine g_iload_n 1 (i := 1) X dX9_doneMany_12 rfl rfl ?_
    refine g_aload_n 0 (i := 0) X dX9_doneMany_13 rfl rfl ?_
    refine g_getR X dX9_doneMany_14 fX9_33 ?_
    refine g_iload_n 2 (i := 2) X dX9_doneMany_17 rfl rfl ?_
    obtain ⟨hi, h⟩ := h
    refine g_iald X dX9_doneMany_18 rfl hi ?_
    refine g_iadd X dX9_doneMany_19 ?_
    refine g_nmI (fun v1_20 ev1_20 => ?_)
    have h := h v1_20 ev1_20
    refine g_istore_n (i := 1) (lv' := [(1, (0, v1_20)), (0, (2, 28)), (2, (0, v2))]) X dX9_doneMany_20 rfl (by decide) rfl ?_
    refine g_iinc 2 (lv' := [(2, (0, w32 (v2 + 1))), (1, (0, v1_20)), (0, (2, 28))]) X dX9_doneMany_21 rfl (by decide) rfl ?_
    refine g_goto X dX9_doneMany_24 (tgt := 4) (by decide) ?_
    exact g_sub X [2, 1, 0] rfl (ih _ _ _ h)
def wp_X9_doneMany  (m : Mem) (post : Int → Mem → Prop) : Prop :=
  ∃ n_2 : Nat, wp_X9_doneMany_4  post n_2 0 0 m
set_option maxRecDepth 100000 in
theorem pf_X9_doneMany {l : Launch} {x : WX} {G : GT} {post : Int → Mem → Prop} (X : Ax l x cX9_doneMany RX9 3 (rmd 0) 67 G) (hr : RI cX9_doneMany post G)  (m : Mem) (h : wp_X9_doneMany  m post) : G 0 [(0, (2, 28))] [] m := by
  unfold wp_X9_doneMany at h
  refine g_iconst X dX9_doneMany_0 (by decide) ?_
  refine g_istore_n (i := 1) (lv' := [(1, (0, 0)), (0, (2, 28))]) X dX9_doneMany_1 rfl (by decide) rfl ?_
  refine g_iconst X dX9_doneMany_2 (by decide) ?_
  refine g_istore_n (i := 2) (lv' := [(2, (0, 0)), (1, (0, 0)), (0, (2, 28))]) X dX9_doneMany_3 rfl (by decide) rfl ?_
  obtain ⟨n_2, h⟩ := h
  refine g_sub X [2, 1, 0] rfl (pf_X9_doneMany_4 X hr  n_2 _ _ _ h)
theorem im_X9_doneMany (l : Launch) (x : WX)  (m : Mem) (post : Int → Mem → Prop) (h : wp_X9_doneMany  m post) : MetI l x 67 0 yX9_doneMany cX9_doneMany 3 .int [(2, 28)] m post := met_I (by decide) (Nat.le_of_ble_eq_true rfl) (fun _ X hr => pf_X9_doneMany X hr  m h)
def wp_X9_runningMany_4  (post : Int → Mem → Prop) : Nat → Int → Int → Mem → Prop
  | 0, _, _, _ => False
  | n + 1, v1, v2, m =>
  ((m 28 4 ≤ v2 → (post v1 m)) ∧
  (¬ m 28 4 ≤ v2 → ((0 ≤ v2 ∧ v2 < 30) ∧ (((m 33 v2 = (-1) → (∀ v1_29 : Int, v1_29 = w32 (v1 + 0) → (wp_X9_runningMany_4  post n v1_29 (w32 (v2 + 1)) m))) ∧
  (¬ m 33 v2 = (-1) → (∀ v1_29 : Int, v1_29 = w32 (v1 + 1) → (wp_X9_runningMany_4  post n v1_29 (w32 (v2 + 1)) m))))))))
set_option maxRecDepth 100000 in
theorem pf_X9_runningMany_4 {l : Launch} {x : WX} {G : GT} {post : Int → Mem → Prop}  (X : Ax l x cX9_runningMany RX9 3 (rmd 0) 67 G) (hr : RI cX9_runningMany post G) : ∀ (n : Nat) (v1 : Int) (v2 : Int) (m : Mem) (_ : wp_X9_runningMany_4  post n v1 v2 m), G 4 [(0, (2, 28)), (1, (0, v1)), (2, (0, v2))] [] m := by
  intro n
  induction n with
  | zero => intro v1 v2 m h; exact absurd h id
  | succ n ih =>
  intro v1 v2 m h
  unfold wp_X9_runningMany_4 at h
  refine g_iload_n 2 (i := 2) X dX9_runningMany_4 rfl rfl ?_
  refine g_aload_n 0 (i := 0) X dX9_runningMany_5 rfl rfl ?_
  refine g_getI X dX9_runningMany_6 fX9_43 ?_
  refine g_icmp_ge X dX9_runningMany_9 (tgt := 36) (by decide) (fun hc => ?_) (fun hc => ?_)
  · have h := h.1 hc
    refine g_iload_n 1 (i := 1) X dX9_runningMany_36 rfl rfl ?_
    exact hr _ _ _ _ _ dX9_runningMany_37 h
  · have h := h.2 hc
    refine g_iload_n 1 (i := 1) X dX9_runningMany_12 rfl rfl ?_
    refine g_aload_n 0 (i := 0) X dX9_runningMany_13 rfl rfl ?_
    refine g_getR X dX9_runningMany_14 fX9_24 ?_
    refine g_iload_n 2 (i := 2) X dX9_runningMany_17 rfl rfl ?_
    obtain ⟨hi, h⟩ := h
    refine g_iald X dX9_runningMany_18 rfl hi ?_
    refine g_iconst X dX9_runningMany_19 (by decide) ?_
    refine g_icmp_eq X dX9_runningMany_20 (tgt := 27) (by decide) (fun hc => ?_) (fun hc => ?_)
    · have h := h.1 hc
      refine g_iconst X dX9_runningMany_27 (by decide) ?_
      refine g_iadd X dX9_runningMany_28 ?_
      refine g_nmI (fun v1_29 ev1_29 => ?_)
      have h := h v1_29 ev1_29
      refine g_istore_n (i := 1) (lv' := [(1, (0, v1_29)), (0, (2, 28)), (2, (0, v2))]) X dX9_runningMany_29 rfl (by decide) rfl ?_
      refine g_iinc 2 (lv' := [(2, (0, w32 (v2 + 1))), (1, (0, v1_29)), (0, (2, 28))]) X dX9_runningMany_30 rfl (by decide) rfl ?_
      refine g_goto X dX9_runningMany_33 (tgt := 4) (by decide) ?_
      exact g_sub X [2, 1, 0] rfl (ih _ _ _ h)
    · have h := h.2 hc
      refine g_iconst X dX9_runningMany_23 (by decide) ?_
      refine g_goto X dX9_runningMany_24 (tgt := 28) (by decide) ?_
      refine g_iadd X dX9_runningMany_28 ?_
      refine g_nmI (fun v1_29 ev1_29 => ?_)
      have h := h v1_29 ev1_29
      refine g_istore_n (i := 1) (lv' := [(1, (0, v1_29)), (0, (2, 28)), (2, (0, v2))]) X dX9_runningMany_29 rfl (by decide) rfl ?_
      refine g_iinc 2 (lv' := [(2, (0, w32 (v2 + 1))), (1, (0, v1_29)), (0, (2, 28))]) X dX9_runningMany_30 rfl (by decide) rfl ?_
      refine g_goto X dX9_runningMany_33 (tgt := 4) (by decide) ?_
      exact g_sub X [2, 1, 0] rfl (ih _ _ _ h)
def wp_X9_runningMany  (m : Mem) (post : Int → Mem → Prop) : Prop :=
  ∃ n_3 : Nat, wp_X9_runningMany_4  post n_3 0 0 m
set_option maxRecDepth 100000 in
theorem pf_X9_runningMany {l : Launch} {x : WX} {G : GT} {post : Int → Mem → Prop} (X : Ax l x cX9_runningMany RX9 3 (rmd 0) 67 G) (hr : RI cX9_runningMany post G)  (m : Mem) (h : wp_X9_runningMany  m post) : G 0 [(0, (2, 28))] [] m := by
  unfold wp_X9_runningMany at h
  refine g_iconst X dX9_runningMany_0 (by decide) ?_
  refine g_istore_n (i := 1) (lv' := [(1, (0, 0)), (0, (2, 28))]) X dX9_runningMany_1 rfl (by decide) rfl ?_
  refine g_iconst X dX9_runningMany_2 (by decide) ?_
  refine g_istore_n (i := 2) (lv' := [(2, (0, 0)), (1, (0, 0)), (0, (2, 28))]) X dX9_runningMany_3 rfl (by decide) rfl ?_
  obtain ⟨n_3, h⟩ := h
  refine g_sub X [2, 1, 0] rfl (pf_X9_runningMany_4 X hr  n_3 _ _ _ h)
theorem im_X9_runningMany (l : Launch) (x : WX)  (m : Mem) (post : Int → Mem → Prop) (h : wp_X9_runningMany  m post) : MetI l x 67 0 yX9_runningMany cX9_runningMany 3 .int [(2, 28)] m post := met_I (by decide) (Nat.le_of_ble_eq_true rfl) (fun _ X hr => pf_X9_runningMany X hr  m h)
def wp_X9_tell (v1 : Int) (v2 : Int) (m : Mem) (post : Int → Mem → Prop) : Prop :=
  ((v2 = 0 → ((0 ≤ v1 ∧ v1 < 30) ∧ (post (m 31 v1) m))) ∧
  ((v2 = 1 → ((0 ≤ v1 ∧ v1 < 30) ∧ (post (m 33 v1) m))) ∧
  ((v2 = 2 → ((0 ≤ v1 ∧ v1 < 30) ∧ (post (m 34 v1) m))) ∧
  ((v2 = 3 → ((0 ≤ v1 ∧ v1 < 30) ∧ (post (m 35 v1) m))) ∧
  ((v2 = 4 → ((0 ≤ v1 ∧ v1 < 30) ∧ (post (m 36 v1) m))) ∧
  (((v2 < 0 ∨ 4 < v2) → ((0 ≤ v1 ∧ v1 < 30) ∧ (post (m 32 v1) m)))))))))
set_option maxRecDepth 100000 in
theorem pf_X9_tell {l : Launch} {x : WX} {G : GT} {post : Int → Mem → Prop} (X : Ax l x cX9_tell RX9 3 (rmd 0) 67 G) (hr : RI cX9_tell post G) (v1 : Int) (v2 : Int) (m : Mem) (h : wp_X9_tell v1 v2 m post) : G 0 [(0, (2, 28)), (1, (0, v1)), (2, (0, v2))] [] m := by
  unfold wp_X9_tell at h
  refine g_iload_n 2 (i := 2) X dX9_tell_0 rfl rfl ?_
  by_cases c0 : v2 = 0
  · refine g_tabIn X dX9_tell_1 0 c0 (tgt := 36) (by decide) (by decide) rfl (by decide) ?_
    have h := h.1 c0
    refine g_aload_n 0 (i := 0) X dX9_tell_36 rfl rfl ?_
    refine g_getR X dX9_tell_37 fX9_18 ?_
    refine g_iload_n 1 (i := 1) X dX9_tell_40 rfl rfl ?_
    obtain ⟨hi, h⟩ := h
    refine g_iald X dX9_tell_41 rfl hi ?_
    exact hr _ _ _ _ _ dX9_tell_42 h
  have h := h.2
  by_cases c1 : v2 = 1
  · refine g_tabIn X dX9_tell_1 1 c1 (tgt := 43) (by decide) (by decide) rfl (by decide) ?_
    have h := h.1 c1
    refine g_aload_n 0 (i := 0) X dX9_tell_43 rfl rfl ?_
    refine g_getR X dX9_tell_44 fX9_24 ?_
    refine g_iload_n 1 (i := 1) X dX9_tell_47 rfl rfl ?_
    obtain ⟨hi, h⟩ := h
    refine g_iald X dX9_tell_48 rfl hi ?_
    exact hr _ _ _ _ _ dX9_tell_49 h
  have h := h.2
  by_cases c2 : v2 = 2
  · refine g_tabIn X dX9_tell_1 2 c2 (tgt := 50) (by decide) (by decide) rfl (by decide) ?_
    have h := h.1 c2
    refine g_aload_n 0 (i := 0) X dX9_tell_50 rfl rfl ?_
    refine g_getR X dX9_tell_51 fX9_27 ?_
    refine g_iload_n 1 (i := 1) X dX9_tell_54 rfl rfl ?_
    obtain ⟨hi, h⟩ := h
    refine g_iald X dX9_tell_55 rfl hi ?_
    exact hr _ _ _ _ _ dX9_tell_56 h
  have h := h.2
  by_cases c3 : v2 = 3
  · refine g_tabIn X dX9_tell_1 3 c3 (tgt := 57) (by decide) (by decide) rfl (by decide) ?_
    have h := h.1 c3
    refine g_aload_n 0 (i := 0) X dX9_tell_57 rfl rfl ?_
    refine g_getR X dX9_tell_58 fX9_30 ?_
    refine g_iload_n 1 (i := 1) X dX9_tell_61 rfl rfl ?_
    obtain ⟨hi, h⟩ := h
    refine g_iald X dX9_tell_62 rfl hi ?_
    exact hr _ _ _ _ _ dX9_tell_63 h
  have h := h.2
  by_cases c4 : v2 = 4
  · refine g_tabIn X dX9_tell_1 4 c4 (tgt := 64) (by decide) (by decide) rfl (by decide) ?_
    have h := h.1 c4
    refine g_aload_n 0 (i := 0) X dX9_tell_64 rfl rfl ?_
    refine g_getR X dX9_tell_65 fX9_33 ?_
    refine g_iload_n 1 (i := 1) X dX9_tell_68 rfl rfl ?_
    obtain ⟨hi, h⟩ := h
    refine g_iald X dX9_tell_69 rfl hi ?_
    exact hr _ _ _ _ _ dX9_tell_70 h
  have h := h.2
  have hc := swo_4 v2 c0 c1 c2 c3 c4
  have h := h hc
  refine g_tabOut X dX9_tell_1 (tgt := 71) (by decide) hc ?_
  refine g_aload_n 0 (i := 0) X dX9_tell_71 rfl rfl ?_
  refine g_getR X dX9_tell_72 fX9_21 ?_
  refine g_iload_n 1 (i := 1) X dX9_tell_75 rfl rfl ?_
  obtain ⟨hi, h⟩ := h
  refine g_iald X dX9_tell_76 rfl hi ?_
  exact hr _ _ _ _ _ dX9_tell_77 h
theorem im_X9_tell (l : Launch) (x : WX) (v1 : Int) (v2 : Int) (m : Mem) (post : Int → Mem → Prop) (h : wp_X9_tell v1 v2 m post) : MetI l x 67 0 yX9_tell cX9_tell 3 .int [(2, 28), (0, v1), (0, v2)] m post := met_I (by decide) (Nat.le_of_ble_eq_true rfl) (fun _ X hr => pf_X9_tell X hr v1 v2 m h)
def wp_X9_digestOnto_17 (K5 : Int → Int → Mem → Prop) (post : Int → Mem → Prop) : Nat → Int → Int → Int → Mem → Prop
  | 0, _, _, _, _ => False
  | n + 1, v3, v5, v6, m =>
  ((5 < v6 → (K5 v3 (w32 (v5 + 1)) m)) ∧
  (¬ 5 < v6 → (wp_X9_tell v5 v6 m (fun r33 m33 => ∀ v3_38 : Int, v3_38 = w64 (w64 (31 * v3) + r33) → (wp_X9_digestOnto_17 K5 post n v3_38 v5 (w32 (v6 + 1)) m33)))))
set_option maxRecDepth 100000 in
theorem pf_X9_digestOnto_17 {l : Launch} {x : WX} {G : GT} {post : Int → Mem → Prop} {K5 : Int → Int → Mem → Prop} (X : Ax l x cX9_digestOnto RX9 7 (rmd 1) 67 G) (hr : RJ cX9_digestOnto post G) (hK5 : ∀ (v3 : Int) (v5 : Int) (m : Mem), K5 v3 v5 m → G 5 [(0, (2, 28)), (3, (1, v3)), (5, (0, v5))] [] m) : ∀ (n : Nat) (v3 : Int) (v5 : Int) (v6 : Int) (m : Mem) (_ : wp_X9_digestOnto_17 K5 post n v3 v5 v6 m), G 17 [(0, (2, 28)), (3, (1, v3)), (5, (0, v5)), (6, (0, v6))] [] m := by
  intro n
  induction n with
  | zero => intro v3 v5 v6 m h; exact absurd h id
  | succ n ih =>
  intro v3 v5 v6 m h
  unfold wp_X9_digestOnto_17 at h
  refine g_iload 3 (i := 6) X dX9_digestOnto_17 rfl ?_
  refine g_iconst X dX9_digestOnto_19 (by decide) ?_
  refine g_icmp_gt X dX9_digestOnto_20 (tgt := 45) (by decide) (fun hc => ?_) (fun hc => ?_)
  · have h := h.1 hc
    refine g_iinc 2 (lv' := [(5, (0, w32 (v5 + 1))), (0, (2, 28)), (3, (1, v3)), (6, (0, v6))]) X dX9_digestOnto_45 rfl (by decide) rfl ?_
    refine g_goto X dX9_digestOnto_48 (tgt := 5) (by decide) ?_
    exact g_sub X [1, 2, 0] rfl (hK5 _ _ _ h)
  · have h := h.2 hc
    refine g_ldc2 X dX9_digestOnto_23 (by unfold r64; omega) kX9_111 ?_
    refine g_lload_n 1 (i := 3) X dX9_digestOnto_26 rfl rfl ?_
    refine g_lmul X dX9_digestOnto_27 ?_
    refine g_aload_n 0 (i := 0) X dX9_digestOnto_28 rfl rfl ?_
    refine g_iload 2 (i := 5) X dX9_digestOnto_29 rfl ?_
    refine g_iload 3 (i := 6) X dX9_digestOnto_31 rfl ?_
    refine g_cVI (st := [(1, w64 (31 * v3))]) X dX9_digestOnto_33 YX9_tell lX9_113 (by decide) (im_X9_tell l x _ _ _ _ h) rfl ⟨by decide, by decide⟩ rfl (Nat.le_of_ble_eq_true rfl) (fun r33 m33 h => ?_)
    refine g_i2l X dX9_digestOnto_36 ?_
    refine g_ladd X dX9_digestOnto_37 ?_
    refine g_nmI (fun v3_38 ev3_38 => ?_)
    have h := h v3_38 ev3_38
    refine g_lstore_n (i := 3) (lv' := [(3, (1, v3_38)), (0, (2, 28)), (5, (0, v5)), (6, (0, v6))]) X dX9_digestOnto_38 rfl (by decide) rfl ?_
    refine g_iinc 3 (lv' := [(6, (0, w32 (v6 + 1))), (3, (1, v3_38)), (0, (2, 28)), (5, (0, v5))]) X dX9_digestOnto_39 rfl (by decide) rfl ?_
    refine g_goto X dX9_digestOnto_42 (tgt := 17) (by decide) ?_
    exact g_sub X [2, 1, 3, 0] rfl (ih _ _ _ _ h)
def wp_X9_digestOnto_5 (K51 : Int → Mem → Prop) (post : Int → Mem → Prop) : Nat → Int → Int → Mem → Prop
  | 0, _, _, _ => False
  | n + 1, v3, v5, m =>
  ((m 28 4 ≤ v5 → (K51 v3 m)) ∧
  (¬ m 28 4 ≤ v5 → (∃ n_3 : Nat, wp_X9_digestOnto_17 (fun v3_2 v5_2 m_2 => wp_X9_digestOnto_5 K51 post n v3_2 v5_2 m_2) post n_3 v3 v5 0 m)))
set_option maxRecDepth 100000 in
theorem pf_X9_digestOnto_5 {l : Launch} {x : WX} {G : GT} {post : Int → Mem → Prop} {K51 : Int → Mem → Prop} (X : Ax l x cX9_digestOnto RX9 7 (rmd 1) 67 G) (hr : RJ cX9_digestOnto post G) (hK51 : ∀ (v3 : Int) (m : Mem), K51 v3 m → G 51 [(0, (2, 28)), (3, (1, v3))] [] m) : ∀ (n : Nat) (v3 : Int) (v5 : Int) (m : Mem) (_ : wp_X9_digestOnto_5 K51 post n v3 v5 m), G 5 [(0, (2, 28)), (3, (1, v3)), (5, (0, v5))] [] m := by
  intro n
  induction n with
  | zero => intro v3 v5 m h; exact absurd h id
  | succ n ih =>
  intro v3 v5 m h
  unfold wp_X9_digestOnto_5 at h
  refine g_iload 2 (i := 5) X dX9_digestOnto_5 rfl ?_
  refine g_aload_n 0 (i := 0) X dX9_digestOnto_7 rfl rfl ?_
  refine g_getI X dX9_digestOnto_8 fX9_43 ?_
  refine g_icmp_ge X dX9_digestOnto_11 (tgt := 51) (by decide) (fun hc => ?_) (fun hc => ?_)
  · have h := h.1 hc
    exact g_sub X [0, 1] rfl (hK51 _ _ h)
  · have h := h.2 hc
    refine g_iconst X dX9_digestOnto_14 (by decide) ?_
    refine g_istore (i := 6) (lv' := [(6, (0, 0)), (0, (2, 28)), (3, (1, v3)), (5, (0, v5))]) X dX9_digestOnto_15 (by decide) rfl ?_
    obtain ⟨n_3, h⟩ := h
    refine g_sub X [1, 2, 3, 0] rfl (pf_X9_digestOnto_17 X hr (fun v3_2 v5_2 m_2 h => ?_) n_3 _ _ _ _ h)
    · exact g_sub X [0, 1, 2] rfl (ih _ _ _ h)
def wp_X9_digestOnto (v1 : Int) (m : Mem) (post : Int → Mem → Prop) : Prop :=
  ∃ n_5 : Nat, wp_X9_digestOnto_5 (fun v3_4 m_4 => post (w64 (w64 (31 * v3_4) + m_4 28 0)) m_4) post n_5 v1 0 m
set_option maxRecDepth 100000 in
theorem pf_X9_digestOnto {l : Launch} {x : WX} {G : GT} {post : Int → Mem → Prop} (X : Ax l x cX9_digestOnto RX9 7 (rmd 1) 67 G) (hr : RJ cX9_digestOnto post G) (v1 : Int) (m : Mem) (h : wp_X9_digestOnto v1 m post) : G 0 [(0, (2, 28)), (1, (1, v1))] [] m := by
  unfold wp_X9_digestOnto at h
  refine g_lload_n 1 (i := 1) X dX9_digestOnto_0 rfl rfl ?_
  refine g_lstore_n (i := 3) (lv' := [(3, (1, v1)), (0, (2, 28)), (1, (1, v1))]) X dX9_digestOnto_1 rfl (by decide) rfl ?_
  refine g_iconst X dX9_digestOnto_2 (by decide) ?_
  refine g_istore (i := 5) (lv' := [(5, (0, 0)), (3, (1, v1)), (0, (2, 28)), (1, (1, v1))]) X dX9_digestOnto_3 (by decide) rfl ?_
  obtain ⟨n_5, h⟩ := h
  refine g_sub X [2, 1, 0] rfl (pf_X9_digestOnto_5 X hr (fun v3_4 m_4 h => ?_) n_5 _ _ _ h)
  · refine g_ldc2 X dX9_digestOnto_51 (by unfold r64; omega) kX9_111 ?_
    refine g_lload_n 1 (i := 3) X dX9_digestOnto_54 rfl rfl ?_
    refine g_lmul X dX9_digestOnto_55 ?_
    refine g_aload_n 0 (i := 0) X dX9_digestOnto_56 rfl rfl ?_
    refine g_getI X dX9_digestOnto_57 fX9_36 ?_
    refine g_i2l X dX9_digestOnto_60 ?_
    refine g_ladd X dX9_digestOnto_61 ?_
    exact hr _ _ _ _ _ dX9_digestOnto_62 h
theorem im_X9_digestOnto (l : Launch) (x : WX) (v1 : Int) (m : Mem) (post : Int → Mem → Prop) (h : wp_X9_digestOnto v1 m post) : MetJ l x 67 1 yX9_digestOnto cX9_digestOnto 7 [(2, 28), (1, v1)] m post := met_J (by decide) (Nat.le_of_ble_eq_true rfl) (fun _ X hr => pf_X9_digestOnto X hr v1 m h)
def wp_X10_begin (v1 : Int) (m : Mem) (post : Mem → Prop) : Prop :=
  wp_X3_begin v1 m (fun m5 => ∀ m13 : Mem, m13 = mset m5 4 0 0 → (wp_X0_begin m13 (fun m20 => wp_X8_begin m20 (fun m27 => wp_X9_begin m27 (fun m34 => ∀ m42 : Mem, m42 = mset m34 37 0 0 → (wp_X5_begin m42 (fun m49 => wp_X2_begin m49 (fun m56 => ∀ m64 : Mem, m64 = mset m56 59 0 0 → (∀ m72 : Mem, m72 = mset m64 63 0 0 → (post m72))))))))))
set_option maxRecDepth 100000 in
theorem pf_X10_begin {l : Launch} {x : WX} {G : GT} {post : Mem → Prop} (X : Ax l x cX10_begin RX10 2 (rmd 2) 67 G) (hr : RV cX10_begin post G) (v1 : Int) (m : Mem) (h : wp_X10_begin v1 m post) : G 0 [(0, (2, 0)), (1, (0, v1))] [] m := by
  unfold wp_X10_begin at h
  refine g_aload_n 0 (i := 0) X dX10_begin_0 rfl rfl ?_
  refine g_getR X dX10_begin_1 fX10_10 ?_
  refine g_iload_n 1 (i := 1) X dX10_begin_4 rfl rfl ?_
  refine g_cVV (st := []) X dX10_begin_5 YX3_begin lX10_83 (by decide) (im_X3_begin l x _ _ _ h) rfl ⟨by decide, by decide⟩ rfl (Nat.le_of_ble_eq_true rfl) (fun m5 h => ?_)
  refine g_aload_n 0 (i := 0) X dX10_begin_8 rfl rfl ?_
  refine g_getR X dX10_begin_9 fX10_19 ?_
  refine g_iconst X dX10_begin_12 (by decide) ?_
  refine g_putI X dX10_begin_13 pX10_84 (fun m13 em13 => ?_)
  have h := h m13 em13
  refine g_aload_n 0 (i := 0) X dX10_begin_16 rfl rfl ?_
  refine g_getR X dX10_begin_17 fX10_26 ?_
  refine g_cVV (st := []) X dX10_begin_20 YX0_begin lX10_88 (by decide) (im_X0_begin l x  _ _ h) rfl ⟨by decide, by decide⟩ rfl (Nat.le_of_ble_eq_true rfl) (fun m20 h => ?_)
  refine g_aload_n 0 (i := 0) X dX10_begin_23 rfl rfl ?_
  refine g_getR X dX10_begin_24 fX10_33 ?_
  refine g_cVV (st := []) X dX10_begin_27 YX8_begin lX10_90 (by decide) (im_X8_begin l x  _ _ h) rfl ⟨by decide, by decide⟩ rfl (Nat.le_of_ble_eq_true rfl) (fun m27 h => ?_)
  refine g_aload_n 0 (i := 0) X dX10_begin_30 rfl rfl ?_
  refine g_getR X dX10_begin_31 fX10_40 ?_
  refine g_cVV (st := []) X dX10_begin_34 YX9_begin lX10_91 (by decide) (im_X9_begin l x  _ _ h) rfl ⟨by decide, by decide⟩ rfl (Nat.le_of_ble_eq_true rfl) (fun m34 h => ?_)
  refine g_aload_n 0 (i := 0) X dX10_begin_37 rfl rfl ?_
  refine g_getR X dX10_begin_38 fX10_47 ?_
  refine g_iconst X dX10_begin_41 (by decide) ?_
  refine g_putI X dX10_begin_42 pX10_92 (fun m42 em42 => ?_)
  have h := h m42 em42
  refine g_aload_n 0 (i := 0) X dX10_begin_45 rfl rfl ?_
  refine g_getR X dX10_begin_46 fX10_54 ?_
  refine g_cVV (st := []) X dX10_begin_49 YX5_begin lX10_93 (by decide) (im_X5_begin l x  _ _ h) rfl ⟨by decide, by decide⟩ rfl (Nat.le_of_ble_eq_true rfl) (fun m49 h => ?_)
  refine g_aload_n 0 (i := 0) X dX10_begin_52 rfl rfl ?_
  refine g_getR X dX10_begin_53 fX10_61 ?_
  refine g_cVV (st := []) X dX10_begin_56 YX2_begin lX10_94 (by decide) (im_X2_begin l x  _ _ h) rfl ⟨by decide, by decide⟩ rfl (Nat.le_of_ble_eq_true rfl) (fun m56 h => ?_)
  refine g_aload_n 0 (i := 0) X dX10_begin_59 rfl rfl ?_
  refine g_getR X dX10_begin_60 fX10_68 ?_
  refine g_iconst X dX10_begin_63 (by decide) ?_
  refine g_putI X dX10_begin_64 pX10_95 (fun m64 em64 => ?_)
  have h := h m64 em64
  refine g_aload_n 0 (i := 0) X dX10_begin_67 rfl rfl ?_
  refine g_getR X dX10_begin_68 fX10_75 ?_
  refine g_iconst X dX10_begin_71 (by decide) ?_
  refine g_putI X dX10_begin_72 pX10_96 (fun m72 em72 => ?_)
  have h := h m72 em72
  exact hr _ _ _ _ dX10_begin_75 h
theorem im_X10_begin (l : Launch) (x : WX) (v1 : Int) (m : Mem) (post : Mem → Prop) (h : wp_X10_begin v1 m post) : MetV l x 67 2 yX10_begin cX10_begin 2 [(2, 0), (0, v1)] m post := met_V (by decide) (Nat.le_of_ble_eq_true rfl) (fun _ X hr => pf_X10_begin X hr v1 m h)
def wp_X10_land (v1 : Int) (m : Mem) (post : Int → Mem → Prop) : Prop :=
  ((v1 < 2 → (post (-102) m)) ∧
  (¬ v1 < 2 → (((v1 ≤ 8 → (wp_X10_begin v1 m (fun m16 => post v1 m16))) ∧
  (¬ v1 ≤ 8 → (post (-102) m))))))
set_option maxRecDepth 100000 in
theorem pf_X10_land {l : Launch} {x : WX} {G : GT} {post : Int → Mem → Prop} (X : Ax l x cX10_land RX10 2 (rmd 3) 67 G) (hr : RI cX10_land post G) (v1 : Int) (m : Mem) (h : wp_X10_land v1 m post) : G 0 [(0, (2, 0)), (1, (0, v1))] [] m := by
  unfold wp_X10_land at h
  refine g_iload_n 1 (i := 1) X dX10_land_0 rfl rfl ?_
  refine g_iconst X dX10_land_1 (by decide) ?_
  refine g_icmp_lt X dX10_land_2 (tgt := 11) (by decide) (fun hc => ?_) (fun hc => ?_)
  · have h := h.1 hc
    refine g_bipush X dX10_land_11 (by decide) ?_
    exact hr _ _ _ _ _ dX10_land_13 h
  · have h := h.2 hc
    refine g_iload_n 1 (i := 1) X dX10_land_5 rfl rfl ?_
    refine g_bipush X dX10_land_6 (by decide) ?_
    refine g_icmp_le X dX10_land_8 (tgt := 14) (by decide) (fun hc => ?_) (fun hc => ?_)
    · have h := h.1 hc
      refine g_aload_n 0 (i := 0) X dX10_land_14 rfl rfl ?_
      refine g_iload_n 1 (i := 1) X dX10_land_15 rfl rfl ?_
      refine g_cVV (st := []) X dX10_land_16 YX10_begin lX10_79 (by decide) (im_X10_begin l x _ _ _ h) rfl ⟨by decide, by decide⟩ rfl (Nat.le_of_ble_eq_true rfl) (fun m16 h => ?_)
      refine g_iload_n 1 (i := 1) X dX10_land_19 rfl rfl ?_
      exact hr _ _ _ _ _ dX10_land_20 h
    · have h := h.2 hc
      refine g_bipush X dX10_land_11 (by decide) ?_
      exact hr _ _ _ _ _ dX10_land_13 h
theorem im_X10_land (l : Launch) (x : WX) (v1 : Int) (m : Mem) (post : Int → Mem → Prop) (h : wp_X10_land v1 m post) : MetI l x 67 3 yX10_land cX10_land 2 .int [(2, 0), (0, v1)] m post := met_I (by decide) (Nat.le_of_ble_eq_true rfl) (fun _ X hr => pf_X10_land X hr v1 m h)
def wp_X10_miles (v1 : Int) (v2 : Int) (v3 : Int) (m : Mem) (post : Int → Mem → Prop) : Prop :=
  wp_X3_hasPair v1 v2 m (fun r6 m6 => ((¬ r6 = 0 → (((v3 < 1 → (post (-102) m6)) ∧
  (¬ v3 < 1 → (((v3 ≤ 99 → (wp_X5_forget m6 (fun m33 => wp_X3_setMiles v1 v2 v3 m33 (fun r43 m43 => post r43 m43)))) ∧
  (¬ v3 ≤ 99 → (post (-102) m6)))))))) ∧
  (r6 = 0 → (post (-101) m6))))
set_option maxRecDepth 100000 in
theorem pf_X10_miles {l : Launch} {x : WX} {G : GT} {post : Int → Mem → Prop} (X : Ax l x cX10_miles RX10 4 (rmd 2) 67 G) (hr : RI cX10_miles post G) (v1 : Int) (v2 : Int) (v3 : Int) (m : Mem) (h : wp_X10_miles v1 v2 v3 m post) : G 0 [(0, (2, 0)), (1, (0, v1)), (2, (0, v2)), (3, (0, v3))] [] m := by
  unfold wp_X10_miles at h
  refine g_aload_n 0 (i := 0) X dX10_miles_0 rfl rfl ?_
  refine g_getR X dX10_miles_1 fX10_10 ?_
  refine g_iload_n 1 (i := 1) X dX10_miles_4 rfl rfl ?_
  refine g_iload_n 2 (i := 2) X dX10_miles_5 rfl rfl ?_
  refine g_cVI (st := []) X dX10_miles_6 YX3_hasPair lX10_99 (by decide) (im_X3_hasPair l x _ _ _ _ h) rfl ⟨by decide, by decide⟩ rfl (Nat.le_of_ble_eq_true rfl) (fun r6 m6 h => ?_)
  refine g_if_ne X dX10_miles_9 (tgt := 15) (by decide) (fun hc => ?_) (fun hc => ?_)
  · have h := h.1 hc
    refine g_iload_n 3 (i := 3) X dX10_miles_15 rfl rfl ?_
    refine g_iconst X dX10_miles_16 (by decide) ?_
    refine g_icmp_lt X dX10_miles_17 (tgt := 26) (by decide) (fun hc => ?_) (fun hc => ?_)
    · have h := h.1 hc
      refine g_bipush X dX10_miles_26 (by decide) ?_
      exact hr _ _ _ _ _ dX10_miles_28 h
    · have h := h.2 hc
      refine g_iload_n 3 (i := 3) X dX10_miles_20 rfl rfl ?_
      refine g_bipush X dX10_miles_21 (by decide) ?_
      refine g_icmp_le X dX10_miles_23 (tgt := 29) (by decide) (fun hc => ?_) (fun hc => ?_)
      · have h := h.1 hc
        refine g_aload_n 0 (i := 0) X dX10_miles_29 rfl rfl ?_
        refine g_getR X dX10_miles_30 fX10_54 ?_
        refine g_cVV (st := []) X dX10_miles_33 YX5_forget lX10_103 (by decide) (im_X5_forget l x  _ _ h) rfl ⟨by decide, by decide⟩ rfl (Nat.le_of_ble_eq_true rfl) (fun m33 h => ?_)
        refine g_aload_n 0 (i := 0) X dX10_miles_36 rfl rfl ?_
        refine g_getR X dX10_miles_37 fX10_10 ?_
        refine g_iload_n 1 (i := 1) X dX10_miles_40 rfl rfl ?_
        refine g_iload_n 2 (i := 2) X dX10_miles_41 rfl rfl ?_
        refine g_iload_n 3 (i := 3) X dX10_miles_42 rfl rfl ?_
        refine g_cVI (st := []) X dX10_miles_43 YX3_setMiles lX10_106 (by decide) (im_X3_setMiles l x _ _ _ _ _ h) rfl ⟨by decide, by decide⟩ rfl (Nat.le_of_ble_eq_true rfl) (fun r43 m43 h => ?_)
        exact hr _ _ _ _ _ dX10_miles_46 h
      · have h := h.2 hc
        refine g_bipush X dX10_miles_26 (by decide) ?_
        exact hr _ _ _ _ _ dX10_miles_28 h
  · have h := h.2 hc
    refine g_bipush X dX10_miles_12 (by decide) ?_
    exact hr _ _ _ _ _ dX10_miles_14 h
theorem im_X10_miles (l : Launch) (x : WX) (v1 : Int) (v2 : Int) (v3 : Int) (m : Mem) (post : Int → Mem → Prop) (h : wp_X10_miles v1 v2 v3 m post) : MetI l x 67 2 yX10_miles cX10_miles 4 .int [(2, 0), (0, v1), (0, v2), (0, v3)] m post := met_I (by decide) (Nat.le_of_ble_eq_true rfl) (fun _ X hr => pf_X10_miles X hr v1 v2 v3 m h)
def wp_X10_far (v1 : Int) (v2 : Int) (m : Mem) (post : Int → Mem → Prop) : Prop :=
  wp_X3_has v1 m (fun r5 m5 => ((r5 = 0 → (post (-101) m5)) ∧
  (¬ r5 = 0 → (wp_X3_has v2 m5 (fun r16 m16 => ((¬ r16 = 0 → (wp_X3_measure m16 (fun m29 => (0 ≤ w32 (w32 (v1 * 8) + v2) ∧ w32 (w32 (v1 * 8) + v2) < 64) ∧ (post (m29 3 (w32 (w32 (v1 * 8) + v2))) m29)))) ∧
  (r16 = 0 → (post (-101) m16))))))))
set_option maxRecDepth 100000 in
theorem pf_X10_far {l : Launch} {x : WX} {G : GT} {post : Int → Mem → Prop} (X : Ax l x cX10_far RX10 3 (rmd 3) 67 G) (hr : RI cX10_far post G) (v1 : Int) (v2 : Int) (m : Mem) (h : wp_X10_far v1 v2 m post) : G 0 [(0, (2, 0)), (1, (0, v1)), (2, (0, v2))] [] m := by
  unfold wp_X10_far at h
  refine g_aload_n 0 (i := 0) X dX10_far_0 rfl rfl ?_
  refine g_getR X dX10_far_1 fX10_10 ?_
  refine g_iload_n 1 (i := 1) X dX10_far_4 rfl rfl ?_
  refine g_cVI (st := []) X dX10_far_5 YX3_has lX10_110 (by decide) (im_X3_has l x _ _ _ h) rfl ⟨by decide, by decide⟩ rfl (Nat.le_of_ble_eq_true rfl) (fun r5 m5 h => ?_)
  refine g_if_eq X dX10_far_8 (tgt := 22) (by decide) (fun hc => ?_) (fun hc => ?_)
  · have h := h.1 hc
    refine g_bipush X dX10_far_22 (by decide) ?_
    exact hr _ _ _ _ _ dX10_far_24 h
  · have h := h.2 hc
    refine g_aload_n 0 (i := 0) X dX10_far_11 rfl rfl ?_
    refine g_getR X dX10_far_12 fX10_10 ?_
    refine g_iload_n 2 (i := 2) X dX10_far_15 rfl rfl ?_
    refine g_cVI (st := []) X dX10_far_16 YX3_has lX10_110 (by decide) (im_X3_has l x _ _ _ h) rfl ⟨by decide, by decide⟩ rfl (Nat.le_of_ble_eq_true rfl) (fun r16 m16 h => ?_)
    refine g_if_ne X dX10_far_19 (tgt := 25) (by decide) (fun hc => ?_) (fun hc => ?_)
    · have h := h.1 hc
      refine g_aload_n 0 (i := 0) X dX10_far_25 rfl rfl ?_
      refine g_getR X dX10_far_26 fX10_10 ?_
      refine g_cVV (st := []) X dX10_far_29 YX3_measure lX10_114 (by decide) (im_X3_measure l x  _ _ h) rfl ⟨by decide, by decide⟩ rfl (Nat.le_of_ble_eq_true rfl) (fun m29 h => ?_)
      refine g_aload_n 0 (i := 0) X dX10_far_32 rfl rfl ?_
      refine g_getR X dX10_far_33 fX10_10 ?_
      refine g_getR X dX10_far_36 fX10_117 ?_
      refine g_iload_n 1 (i := 1) X dX10_far_39 rfl rfl ?_
      refine g_bipush X dX10_far_40 (by decide) ?_
      refine g_imul X dX10_far_42 ?_
      refine g_iload_n 2 (i := 2) X dX10_far_43 rfl rfl ?_
      refine g_iadd X dX10_far_44 ?_
      obtain ⟨hi, h⟩ := h
      refine g_iald X dX10_far_45 rfl hi ?_
      exact hr _ _ _ _ _ dX10_far_46 h
    · have h := h.2 hc
      refine g_bipush X dX10_far_22 (by decide) ?_
      exact hr _ _ _ _ _ dX10_far_24 h
theorem im_X10_far (l : Launch) (x : WX) (v1 : Int) (v2 : Int) (m : Mem) (post : Int → Mem → Prop) (h : wp_X10_far v1 v2 m post) : MetI l x 67 3 yX10_far cX10_far 3 .int [(2, 0), (0, v1), (0, v2)] m post := met_I (by decide) (Nat.le_of_ble_eq_true rfl) (fun _ X hr => pf_X10_far X hr v1 v2 m h)
def wp_X10_letters (v1 : Int) (m : Mem) (post : Int → Mem → Prop) : Prop :=
  wp_X6_lettersIn v1 m (fun r1 m1 => ((¬ r1 = (-1) → (((w32 (m1 4 0 + r1) ≤ 40 → (wp_X6_write v1 r1 m1 (fun m36 => post (m36 4 0) m36))) ∧
  (¬ w32 (m1 4 0 + r1) ≤ 40 → (post (-104) m1))))) ∧
  (r1 = (-1) → (post (-102) m1))))
set_option maxRecDepth 100000 in
theorem pf_X10_letters {l : Launch} {x : WX} {G : GT} {post : Int → Mem → Prop} (X : Ax l x cX10_letters RX10 4 (rmd 1) 67 G) (hr : RI cX10_letters post G) (v1 : Int) (m : Mem) (h : wp_X10_letters v1 m post) : G 0 [(0, (2, 0)), (1, (1, v1))] [] m := by
  unfold wp_X10_letters at h
  refine g_lload_n 1 (i := 1) X dX10_letters_0 rfl rfl ?_
  refine g_cSI (st := []) X dX10_letters_1 YX6_lettersIn lX10_121 (by decide) (im_X6_lettersIn l x _ _ _ h) rfl ⟨by decide, by decide⟩ rfl (Nat.le_of_ble_eq_true rfl) (fun r1 m1 h => ?_)
  refine g_istore_n (i := 3) (lv' := [(3, (0, r1)), (0, (2, 0)), (1, (1, v1))]) X dX10_letters_4 rfl (by decide) rfl ?_
  refine g_iload_n 0 (i := 3) X dX10_letters_5 rfl rfl ?_
  refine g_iconst X dX10_letters_6 (by decide) ?_
  refine g_icmp_ne X dX10_letters_7 (tgt := 13) (by decide) (fun hc => ?_) (fun hc => ?_)
  · have h := h.1 hc
    refine g_aload_n 1 (i := 0) X dX10_letters_13 rfl rfl ?_
    refine g_getR X dX10_letters_14 fX10_19 ?_
    refine g_getI X dX10_letters_17 fX10_84 ?_
    refine g_iload_n 0 (i := 3) X dX10_letters_20 rfl rfl ?_
    refine g_iadd X dX10_letters_21 ?_
    refine g_bipush X dX10_letters_22 (by decide) ?_
    refine g_icmp_le X dX10_letters_24 (tgt := 30) (by decide) (fun hc => ?_) (fun hc => ?_)
    · have h := h.1 hc
      refine g_aload_n 1 (i := 0) X dX10_letters_30 rfl rfl ?_
      refine g_getR X dX10_letters_31 fX10_19 ?_
      refine g_lload_n 2 (i := 1) X dX10_letters_34 rfl rfl ?_
      refine g_iload_n 0 (i := 3) X dX10_letters_35 rfl rfl ?_
      refine g_cVV (st := []) X dX10_letters_36 YX6_write lX10_125 (by decide) (im_X6_write l x _ _ _ _ h) rfl ⟨by decide, by decide⟩ rfl (Nat.le_of_ble_eq_true rfl) (fun m36 h => ?_)
      refine g_aload_n 1 (i := 0) X dX10_letters_39 rfl rfl ?_
      refine g_getR X dX10_letters_40 fX10_19 ?_
      refine g_getI X dX10_letters_43 fX10_84 ?_
      exact hr _ _ _ _ _ dX10_letters_46 h
    · have h := h.2 hc
      refine g_bipush X dX10_letters_27 (by decide) ?_
      exact hr _ _ _ _ _ dX10_letters_29 h
  · have h := h.2 hc
    refine g_bipush X dX10_letters_10 (by decide) ?_
    exact hr _ _ _ _ _ dX10_letters_12 h
theorem im_X10_letters (l : Launch) (x : WX) (v1 : Int) (m : Mem) (post : Int → Mem → Prop) (h : wp_X10_letters v1 m post) : MetI l x 67 1 yX10_letters cX10_letters 4 .int [(2, 0), (1, v1)] m post := met_I (by decide) (Nat.le_of_ble_eq_true rfl) (fun _ X hr => pf_X10_letters X hr v1 m h)
def wp_X10_blank  (m : Mem) (post : Int → Mem → Prop) : Prop :=
  ∀ v1_7 : Int, v1_7 = m 4 0 → (∀ m13 : Mem, m13 = mset m 4 0 0 → (post v1_7 m13))
set_option maxRecDepth 100000 in
theorem pf_X10_blank {l : Launch} {x : WX} {G : GT} {post : Int → Mem → Prop} (X : Ax l x cX10_blank RX10 2 (rmd 0) 67 G) (hr : RI cX10_blank post G)  (m : Mem) (h : wp_X10_blank  m post) : G 0 [(0, (2, 0))] [] m := by
  unfold wp_X10_blank at h
  refine g_aload_n 0 (i := 0) X dX10_blank_0 rfl rfl ?_
  refine g_getR X dX10_blank_1 fX10_19 ?_
  refine g_getI X dX10_blank_4 fX10_84 ?_
  refine g_nmI (fun v1_7 ev1_7 => ?_)
  have h := h v1_7 ev1_7
  refine g_istore_n (i := 1) (lv' := [(1, (0, v1_7)), (0, (2, 0))]) X dX10_blank_7 rfl (by decide) rfl ?_
  refine g_aload_n 1 (i := 0) X dX10_blank_8 rfl rfl ?_
  refine g_getR X dX10_blank_9 fX10_19 ?_
  refine g_iconst X dX10_blank_12 (by decide) ?_
  refine g_putI X dX10_blank_13 pX10_84 (fun m13 em13 => ?_)
  have h := h m13 em13
  refine g_iload_n 0 (i := 1) X dX10_blank_16 rfl rfl ?_
  exact hr _ _ _ _ _ dX10_blank_17 h
theorem im_X10_blank (l : Launch) (x : WX)  (m : Mem) (post : Int → Mem → Prop) (h : wp_X10_blank  m post) : MetI l x 67 0 yX10_blank cX10_blank 2 .int [(2, 0)] m post := met_I (by decide) (Nat.le_of_ble_eq_true rfl) (fun _ X hr => pf_X10_blank X hr  m h)
def wp_X10_good  (m : Mem) (post : Int → Mem → Prop) : Prop :=
  wp_X6_readFor (m 1 0) m (fun r11 m11 => post r11 m11)
set_option maxRecDepth 100000 in
theorem pf_X10_good {l : Launch} {x : WX} {G : GT} {post : Int → Mem → Prop} (X : Ax l x cX10_good RX10 1 (rmd 3) 67 G) (hr : RI cX10_good post G)  (m : Mem) (h : wp_X10_good  m post) : G 0 [(0, (2, 0))] [] m := by
  unfold wp_X10_good at h
  refine g_aload_n 0 (i := 0) X dX10_good_0 rfl rfl ?_
  refine g_getR X dX10_good_1 fX10_19 ?_
  refine g_aload_n 0 (i := 0) X dX10_good_4 rfl rfl ?_
  refine g_getR X dX10_good_5 fX10_10 ?_
  refine g_getI X dX10_good_8 fX10_129 ?_
  refine g_cVI (st := []) X dX10_good_11 YX6_readFor lX10_132 (by decide) (im_X6_readFor l x _ _ _ h) rfl ⟨by decide, by decide⟩ rfl (Nat.le_of_ble_eq_true rfl) (fun r11 m11 h => ?_)
  exact hr _ _ _ _ _ dX10_good_14 h
theorem im_X10_good (l : Launch) (x : WX)  (m : Mem) (post : Int → Mem → Prop) (h : wp_X10_good  m post) : MetI l x 67 3 yX10_good cX10_good 1 .int [(2, 0)] m post := met_I (by decide) (Nat.le_of_ble_eq_true rfl) (fun _ X hr => pf_X10_good X hr  m h)
def wp_X10_block  (m : Mem) (post : Int → Mem → Prop) : Prop :=
  wp_X6_isWholeFor (m 1 0) m (fun r11 m11 => ((¬ r11 = 0 → (((m11 6 0 < 20 → (wp_X0_add (m11 4 1) (m11 4 2) (m11 4 3) (m11 4 4) m11 (fun r67 m67 => ∀ m76 : Mem, m76 = mset m67 4 0 0 → (post r67 m76)))) ∧
  (¬ m11 6 0 < 20 → (post (-104) m11))))) ∧
  (r11 = 0 → (post (-103) m11))))
set_option maxRecDepth 100000 in
theorem pf_X10_block {l : Launch} {x : WX} {G : GT} {post : Int → Mem → Prop} (X : Ax l x cX10_block RX10 2 (rmd 4) 67 G) (hr : RI cX10_block post G)  (m : Mem) (h : wp_X10_block  m post) : G 0 [(0, (2, 0))] [] m := by
  unfold wp_X10_block at h
  refine g_aload_n 0 (i := 0) X dX10_block_0 rfl rfl ?_
  refine g_getR X dX10_block_1 fX10_19 ?_
  refine g_aload_n 0 (i := 0) X dX10_block_4 rfl rfl ?_
  refine g_getR X dX10_block_5 fX10_10 ?_
  refine g_getI X dX10_block_8 fX10_129 ?_
  refine g_cVI (st := []) X dX10_block_11 YX6_isWholeFor lX10_136 (by decide) (im_X6_isWholeFor l x _ _ _ h) rfl ⟨by decide, by decide⟩ rfl (Nat.le_of_ble_eq_true rfl) (fun r11 m11 h => ?_)
  refine g_if_ne X dX10_block_14 (tgt := 20) (by decide) (fun hc => ?_) (fun hc => ?_)
  · have h := h.1 hc
    refine g_aload_n 0 (i := 0) X dX10_block_20 rfl rfl ?_
    refine g_getR X dX10_block_21 fX10_26 ?_
    refine g_getI X dX10_block_24 fX10_139 ?_
    refine g_bipush X dX10_block_27 (by decide) ?_
    refine g_icmp_lt X dX10_block_29 (tgt := 35) (by decide) (fun hc => ?_) (fun hc => ?_)
    · have h := h.1 hc
      refine g_aload_n 0 (i := 0) X dX10_block_35 rfl rfl ?_
      refine g_getR X dX10_block_36 fX10_26 ?_
      refine g_aload_n 0 (i := 0) X dX10_block_39 rfl rfl ?_
      refine g_getR X dX10_block_40 fX10_19 ?_
      refine g_getI X dX10_block_43 fX10_140 ?_
      refine g_aload_n 0 (i := 0) X dX10_block_46 rfl rfl ?_
      refine g_getR X dX10_block_47 fX10_19 ?_
      refine g_getI X dX10_block_50 fX10_143 ?_
      refine g_aload_n 0 (i := 0) X dX10_block_53 rfl rfl ?_
      refine g_getR X dX10_block_54 fX10_19 ?_
      refine g_getI X dX10_block_57 fX10_146 ?_
      refine g_aload_n 0 (i := 0) X dX10_block_60 rfl rfl ?_
      refine g_getR X dX10_block_61 fX10_19 ?_
      refine g_getI X dX10_block_64 fX10_149 ?_
      refine g_cVI (st := []) X dX10_block_67 YX0_add lX10_152 (by decide) (im_X0_add l x _ _ _ _ _ _ h) rfl ⟨by decide, by decide⟩ rfl (Nat.le_of_ble_eq_true rfl) (fun r67 m67 h => ?_)
      refine g_istore_n (i := 1) (lv' := [(1, (0, r67)), (0, (2, 0))]) X dX10_block_70 rfl (by decide) rfl ?_
      refine g_aload_n 1 (i := 0) X dX10_block_71 rfl rfl ?_
      refine g_getR X dX10_block_72 fX10_19 ?_
      refine g_iconst X dX10_block_75 (by decide) ?_
      refine g_putI X dX10_block_76 pX10_84 (fun m76 em76 => ?_)
      have h := h m76 em76
      refine g_iload_n 0 (i := 1) X dX10_block_79 rfl rfl ?_
      exact hr _ _ _ _ _ dX10_block_80 h
    · have h := h.2 hc
      refine g_bipush X dX10_block_32 (by decide) ?_
      exact hr _ _ _ _ _ dX10_block_34 h
  · have h := h.2 hc
    refine g_bipush X dX10_block_17 (by decide) ?_
    exact hr _ _ _ _ _ dX10_block_19 h
theorem im_X10_block (l : Launch) (x : WX)  (m : Mem) (post : Int → Mem → Prop) (h : wp_X10_block  m post) : MetI l x 67 4 yX10_block cX10_block 2 .int [(2, 0)] m post := met_I (by decide) (Nat.le_of_ble_eq_true rfl) (fun _ X hr => pf_X10_block X hr  m h)
def wp_X10_about (v1 : Int) (v2 : Int) (m : Mem) (post : Int → Mem → Prop) : Prop :=
  wp_X0_has v1 m (fun r5 m5 => ((¬ r5 = 0 → (((v2 < 0 → (post (-102) m5)) ∧
  (¬ v2 < 0 → (((v2 ≤ 3 → (wp_X0_tell v1 v2 m5 (fun r32 m32 => post r32 m32))) ∧
  (¬ v2 ≤ 3 → (post (-102) m5)))))))) ∧
  (r5 = 0 → (post (-101) m5))))
set_option maxRecDepth 100000 in
theorem pf_X10_about {l : Launch} {x : WX} {G : GT} {post : Int → Mem → Prop} (X : Ax l x cX10_about RX10 3 (rmd 1) 67 G) (hr : RI cX10_about post G) (v1 : Int) (v2 : Int) (m : Mem) (h : wp_X10_about v1 v2 m post) : G 0 [(0, (2, 0)), (1, (0, v1)), (2, (0, v2))] [] m := by
  unfold wp_X10_about at h
  refine g_aload_n 0 (i := 0) X dX10_about_0 rfl rfl ?_
  refine g_getR X dX10_about_1 fX10_26 ?_
  refine g_iload_n 1 (i := 1) X dX10_about_4 rfl rfl ?_
  refine g_cVI (st := []) X dX10_about_5 YX0_has lX10_156 (by decide) (im_X0_has l x _ _ _ h) rfl ⟨by decide, by decide⟩ rfl (Nat.le_of_ble_eq_true rfl) (fun r5 m5 h => ?_)
  refine g_if_ne X dX10_about_8 (tgt := 14) (by decide) (fun hc => ?_) (fun hc => ?_)
  · have h := h.1 hc
    refine g_iload_n 2 (i := 2) X dX10_about_14 rfl rfl ?_
    refine g_if_lt X dX10_about_15 (tgt := 23) (by decide) (fun hc => ?_) (fun hc => ?_)
    · have h := h.1 hc
      refine g_bipush X dX10_about_23 (by decide) ?_
      exact hr _ _ _ _ _ dX10_about_25 h
    · have h := h.2 hc
      refine g_iload_n 2 (i := 2) X dX10_about_18 rfl rfl ?_
      refine g_iconst X dX10_about_19 (by decide) ?_
      refine g_icmp_le X dX10_about_20 (tgt := 26) (by decide) (fun hc => ?_) (fun hc => ?_)
      · have h := h.1 hc
        refine g_aload_n 0 (i := 0) X dX10_about_26 rfl rfl ?_
        refine g_getR X dX10_about_27 fX10_26 ?_
        refine g_iload_n 1 (i := 1) X dX10_about_30 rfl rfl ?_
        refine g_iload_n 2 (i := 2) X dX10_about_31 rfl rfl ?_
        refine g_cVI (st := []) X dX10_about_32 YX0_tell lX10_157 (by decide) (im_X0_tell l x _ _ _ _ h) rfl ⟨by decide, by decide⟩ rfl (Nat.le_of_ble_eq_true rfl) (fun r32 m32 h => ?_)
        exact hr _ _ _ _ _ dX10_about_35 h
      · have h := h.2 hc
        refine g_bipush X dX10_about_23 (by decide) ?_
        exact hr _ _ _ _ _ dX10_about_25 h
  · have h := h.2 hc
    refine g_bipush X dX10_about_11 (by decide) ?_
    exact hr _ _ _ _ _ dX10_about_13 h
theorem im_X10_about (l : Launch) (x : WX) (v1 : Int) (v2 : Int) (m : Mem) (post : Int → Mem → Prop) (h : wp_X10_about v1 v2 m post) : MetI l x 67 1 yX10_about cX10_about 3 .int [(2, 0), (0, v1), (0, v2)] m post := met_I (by decide) (Nat.le_of_ble_eq_true rfl) (fun _ X hr => pf_X10_about X hr v1 v2 m h)
def wp_X10_goes (v1 : Int) (v2 : Int) (m : Mem) (post : Int → Mem → Prop) : Prop :=
  wp_X3_has v1 m (fun r5 m5 => ((r5 = 0 → (post (-101) m5)) ∧
  (¬ r5 = 0 → (wp_X3_has v2 m5 (fun r16 m16 => ((¬ r16 = 0 → ((0 ≤ w32 (w32 (v1 * 8) + v2) ∧ w32 (w32 (v1 * 8) + v2) < 64) ∧ (post (m16 11 (w32 (w32 (v1 * 8) + v2))) m16))) ∧
  (r16 = 0 → (post (-101) m16))))))))
set_option maxRecDepth 100000 in
theorem pf_X10_goes {l : Launch} {x : WX} {G : GT} {post : Int → Mem → Prop} (X : Ax l x cX10_goes RX10 3 (rmd 1) 67 G) (hr : RI cX10_goes post G) (v1 : Int) (v2 : Int) (m : Mem) (h : wp_X10_goes v1 v2 m post) : G 0 [(0, (2, 0)), (1, (0, v1)), (2, (0, v2))] [] m := by
  unfold wp_X10_goes at h
  refine g_aload_n 0 (i := 0) X dX10_goes_0 rfl rfl ?_
  refine g_getR X dX10_goes_1 fX10_10 ?_
  refine g_iload_n 1 (i := 1) X dX10_goes_4 rfl rfl ?_
  refine g_cVI (st := []) X dX10_goes_5 YX3_has lX10_110 (by decide) (im_X3_has l x _ _ _ h) rfl ⟨by decide, by decide⟩ rfl (Nat.le_of_ble_eq_true rfl) (fun r5 m5 h => ?_)
  refine g_if_eq X dX10_goes_8 (tgt := 22) (by decide) (fun hc => ?_) (fun hc => ?_)
  · have h := h.1 hc
    refine g_bipush X dX10_goes_22 (by decide) ?_
    exact hr _ _ _ _ _ dX10_goes_24 h
  · have h := h.2 hc
    refine g_aload_n 0 (i := 0) X dX10_goes_11 rfl rfl ?_
    refine g_getR X dX10_goes_12 fX10_10 ?_
    refine g_iload_n 2 (i := 2) X dX10_goes_15 rfl rfl ?_
    refine g_cVI (st := []) X dX10_goes_16 YX3_has lX10_110 (by decide) (im_X3_has l x _ _ _ h) rfl ⟨by decide, by decide⟩ rfl (Nat.le_of_ble_eq_true rfl) (fun r16 m16 h => ?_)
    refine g_if_ne X dX10_goes_19 (tgt := 25) (by decide) (fun hc => ?_) (fun hc => ?_)
    · have h := h.1 hc
      refine g_aload_n 0 (i := 0) X dX10_goes_25 rfl rfl ?_
      refine g_getR X dX10_goes_26 fX10_26 ?_
      refine g_getR X dX10_goes_29 fX10_161 ?_
      refine g_iload_n 1 (i := 1) X dX10_goes_32 rfl rfl ?_
      refine g_bipush X dX10_goes_33 (by decide) ?_
      refine g_imul X dX10_goes_35 ?_
      refine g_iload_n 2 (i := 2) X dX10_goes_36 rfl rfl ?_
      refine g_iadd X dX10_goes_37 ?_
      obtain ⟨hi, h⟩ := h
      refine g_iald X dX10_goes_38 rfl hi ?_
      exact hr _ _ _ _ _ dX10_goes_39 h
    · have h := h.2 hc
      refine g_bipush X dX10_goes_22 (by decide) ?_
      exact hr _ _ _ _ _ dX10_goes_24 h
theorem im_X10_goes (l : Launch) (x : WX) (v1 : Int) (v2 : Int) (m : Mem) (post : Int → Mem → Prop) (h : wp_X10_goes v1 v2 m post) : MetI l x 67 1 yX10_goes cX10_goes 3 .int [(2, 0), (0, v1), (0, v2)] m post := met_I (by decide) (Nat.le_of_ble_eq_true rfl) (fun _ X hr => pf_X10_goes X hr v1 v2 m h)
def wp_X10_milesAlongStops_4  (post : Int → Mem → Prop) : Nat → Int → Int → Mem → Prop
  | 0, _, _, _ => False
  | n + 1, v1, v2, m =>
  ((m 6 7 ≤ v2 → (post v1 m)) ∧
  (¬ m 6 7 ≤ v2 → ((0 ≤ w32 (v2 - 1) ∧ w32 (v2 - 1) < 8) ∧ ((0 ≤ v2 ∧ v2 < 8) ∧ ((0 ≤ w32 (w32 (m 12 (w32 (v2 - 1)) * 8) + m 12 v2) ∧ w32 (w32 (m 12 (w32 (v2 - 1)) * 8) + m 12 v2) < 64) ∧ (∀ v1_49 : Int, v1_49 = w32 (v1 + m 2 (w32 (w32 (m 12 (w32 (v2 - 1)) * 8) + m 12 v2))) → (wp_X10_milesAlongStops_4  post n v1_49 (w32 (v2 + 1)) m)))))))
set_option maxRecDepth 100000 in
theorem pf_X10_milesAlongStops_4 {l : Launch} {x : WX} {G : GT} {post : Int → Mem → Prop}  (X : Ax l x cX10_milesAlongStops RX10 3 (rmd 0) 67 G) (hr : RI cX10_milesAlongStops post G) : ∀ (n : Nat) (v1 : Int) (v2 : Int) (m : Mem) (_ : wp_X10_milesAlongStops_4  post n v1 v2 m), G 4 [(0, (2, 0)), (1, (0, v1)), (2, (0, v2))] [] m := by
  intro n
  induction n with
  | zero => intro v1 v2 m h; exact absurd h id
  | succ n ih =>
  intro v1 v2 m h
  unfold wp_X10_milesAlongStops_4 at h
  refine g_iload_n 2 (i := 2) X dX10_milesAlongStops_4 rfl rfl ?_
  refine g_aload_n 0 (i := 0) X dX10_milesAlongStops_5 rfl rfl ?_
  refine g_getR X dX10_milesAlongStops_6 fX10_26 ?_
  refine g_getI X dX10_milesAlongStops_9 fX10_170 ?_
  refine g_icmp_ge X dX10_milesAlongStops_12 (tgt := 56) (by decide) (fun hc => ?_) (fun hc => ?_)
  · have h := h.1 hc
    refine g_iload_n 1 (i := 1) X dX10_milesAlongStops_56 rfl rfl ?_
    exact hr _ _ _ _ _ dX10_milesAlongStops_57 h
  · have h := h.2 hc
    refine g_iload_n 1 (i := 1) X dX10_milesAlongStops_15 rfl rfl ?_
    refine g_aload_n 0 (i := 0) X dX10_milesAlongStops_16 rfl rfl ?_
    refine g_getR X dX10_milesAlongStops_17 fX10_10 ?_
    refine g_getR X dX10_milesAlongStops_20 fX10_185 ?_
    refine g_aload_n 0 (i := 0) X dX10_milesAlongStops_23 rfl rfl ?_
    refine g_getR X dX10_milesAlongStops_24 fX10_26 ?_
    refine g_getR X dX10_milesAlongStops_27 fX10_188 ?_
    refine g_iload_n 2 (i := 2) X dX10_milesAlongStops_30 rfl rfl ?_
    refine g_iconst X dX10_milesAlongStops_31 (by decide) ?_
    refine g_isub X dX10_milesAlongStops_32 ?_
    obtain ⟨hi, h⟩ := h
    refine g_iald X dX10_milesAlongStops_33 rfl hi ?_
    refine g_bipush X dX10_milesAlongStops_34 (by decide) ?_
    refine g_imul X dX10_milesAlongStops_36 ?_
    refine g_aload_n 0 (i := 0) X dX10_milesAlongStops_37 rfl rfl ?_
    refine g_getR X dX10_milesAlongStops_38 fX10_26 ?_
    refine g_getR X dX10_milesAlongStops_41 fX10_188 ?_
    refine g_iload_n 2 (i := 2) X dX10_milesAlongStops_44 rfl rfl ?_
    obtain ⟨hi, h⟩ := h
    refine g_iald X dX10_milesAlongStops_45 rfl hi ?_
    refine g_iadd X dX10_milesAlongStops_46 ?_
    obtain ⟨hi, h⟩ := h
    refine g_iald X dX10_milesAlongStops_47 rfl hi ?_
    refine g_iadd X dX10_milesAlongStops_48 ?_
    refine g_nmI (fun v1_49 ev1_49 => ?_)
    have h := h v1_49 ev1_49
    refine g_istore_n (i := 1) (lv' := [(1, (0, v1_49)), (0, (2, 0)), (2, (0, v2))]) X dX10_milesAlongStops_49 rfl (by decide) rfl ?_
    refine g_iinc 2 (lv' := [(2, (0, w32 (v2 + 1))), (1, (0, v1_49)), (0, (2, 0))]) X dX10_milesAlongStops_50 rfl (by decide) rfl ?_
    refine g_goto X dX10_milesAlongStops_53 (tgt := 4) (by decide) ?_
    exact g_sub X [2, 1, 0] rfl (ih _ _ _ h)
def wp_X10_milesAlongStops  (m : Mem) (post : Int → Mem → Prop) : Prop :=
  ∃ n_2 : Nat, wp_X10_milesAlongStops_4  post n_2 0 1 m
set_option maxRecDepth 100000 in
theorem pf_X10_milesAlongStops {l : Launch} {x : WX} {G : GT} {post : Int → Mem → Prop} (X : Ax l x cX10_milesAlongStops RX10 3 (rmd 0) 67 G) (hr : RI cX10_milesAlongStops post G)  (m : Mem) (h : wp_X10_milesAlongStops  m post) : G 0 [(0, (2, 0))] [] m := by
  unfold wp_X10_milesAlongStops at h
  refine g_iconst X dX10_milesAlongStops_0 (by decide) ?_
  refine g_istore_n (i := 1) (lv' := [(1, (0, 0)), (0, (2, 0))]) X dX10_milesAlongStops_1 rfl (by decide) rfl ?_
  refine g_iconst X dX10_milesAlongStops_2 (by decide) ?_
  refine g_istore_n (i := 2) (lv' := [(2, (0, 1)), (1, (0, 0)), (0, (2, 0))]) X dX10_milesAlongStops_3 rfl (by decide) rfl ?_
  obtain ⟨n_2, h⟩ := h
  refine g_sub X [2, 1, 0] rfl (pf_X10_milesAlongStops_4 X hr  n_2 _ _ _ h)
theorem im_X10_milesAlongStops (l : Launch) (x : WX)  (m : Mem) (post : Int → Mem → Prop) (h : wp_X10_milesAlongStops  m post) : MetI l x 67 0 yX10_milesAlongStops cX10_milesAlongStops 3 .int [(2, 0)] m post := met_I (by decide) (Nat.le_of_ble_eq_true rfl) (fun _ X hr => pf_X10_milesAlongStops X hr  m h)
def wp_X10_way_49 (v1 : Int) (v2 : Int) (v3 : Int) (m : Mem)  (post : Int → Mem → Prop) : Prop :=
  wp_X0_follow v1 v2 8 m (fun r62 m62 => ((¬ r62 = 0 → (((¬ v3 = 0 → (((¬ v3 = 1 → (wp_X0_stopAt (w32 (v3 - 10)) m62 (fun r108 m108 => post r108 m108))) ∧
  (v3 = 1 → (wp_X10_milesAlongStops m62 (fun r94 m94 => post r94 m94)))))) ∧
  (v3 = 0 → (post (if 0 < w32 (m62 6 7 - 2) then w32 (m62 6 7 - 2) else 0) m62))))) ∧
  (r62 = 0 → (post (-1) m62))))
set_option maxRecDepth 100000 in
theorem pf_X10_way_49 {l : Launch} {x : WX} {G : GT} {post : Int → Mem → Prop}  (X : Ax l x cX10_way RX10 4 (rmd 1) 67 G) (hr : RI cX10_way post G) (v1 : Int) (v2 : Int) (v3 : Int) (m : Mem) (h : wp_X10_way_49 v1 v2 v3 m  post) : G 49 [(0, (2, 0)), (1, (0, v1)), (2, (0, v2)), (3, (0, v3))] [] m := by
  unfold wp_X10_way_49 at h
  refine g_aload_n 0 (i := 0) X dX10_way_49 rfl rfl ?_
  refine g_getR X dX10_way_50 fX10_26 ?_
  refine g_iload_n 1 (i := 1) X dX10_way_53 rfl rfl ?_
  refine g_iload_n 2 (i := 2) X dX10_way_54 rfl rfl ?_
  refine g_aload_n 0 (i := 0) X dX10_way_55 rfl rfl ?_
  refine g_getR X dX10_way_56 fX10_26 ?_
  refine g_getR X dX10_way_59 fX10_164 ?_
  refine g_cVI (st := []) X dX10_way_62 YX0_follow lX10_166 (by decide) (im_X0_follow l x _ _ _ _ _ h) rfl ⟨by decide, by decide⟩ rfl (Nat.le_of_ble_eq_true rfl) (fun r62 m62 h => ?_)
  refine g_if_ne X dX10_way_65 (tgt := 70) (by decide) (fun hc => ?_) (fun hc => ?_)
  · have h := h.1 hc
    refine g_iload_n 3 (i := 3) X dX10_way_70 rfl rfl ?_
    refine g_if_ne X dX10_way_71 (tgt := 88) (by decide) (fun hc => ?_) (fun hc => ?_)
    · have h := h.1 hc
      refine g_iload_n 3 (i := 3) X dX10_way_88 rfl rfl ?_
      refine g_iconst X dX10_way_89 (by decide) ?_
      refine g_icmp_ne X dX10_way_90 (tgt := 100) (by decide) (fun hc => ?_) (fun hc => ?_)
      · have h := h.1 hc
        refine g_aload_n 0 (i := 0) X dX10_way_100 rfl rfl ?_
        refine g_getR X dX10_way_101 fX10_26 ?_
        refine g_iload_n 3 (i := 3) X dX10_way_104 rfl rfl ?_
        refine g_bipush X dX10_way_105 (by decide) ?_
        refine g_isub X dX10_way_107 ?_
        refine g_cVI (st := []) X dX10_way_108 YX0_stopAt lX10_182 (by decide) (im_X0_stopAt l x _ _ _ h) rfl ⟨by decide, by decide⟩ rfl (Nat.le_of_ble_eq_true rfl) (fun r108 m108 h => ?_)
        exact hr _ _ _ _ _ dX10_way_111 h
      · have h := h.2 hc
        refine g_aload_n 0 (i := 0) X dX10_way_93 rfl rfl ?_
        refine g_cVI (st := []) X dX10_way_94 YX10_milesAlongStops lX10_178 (by decide) (im_X10_milesAlongStops l x  _ _ h) rfl ⟨by decide, by decide⟩ rfl (Nat.le_of_ble_eq_true rfl) (fun r94 m94 h => ?_)
        refine g_goto X dX10_way_97 (tgt := 111) (by decide) ?_
        exact hr _ _ _ _ _ dX10_way_111 h
    · have h := h.2 hc
      refine g_iconst X dX10_way_74 (by decide) ?_
      refine g_aload_n 0 (i := 0) X dX10_way_75 rfl rfl ?_
      refine g_getR X dX10_way_76 fX10_26 ?_
      refine g_getI X dX10_way_79 fX10_170 ?_
      refine g_iconst X dX10_way_82 (by decide) ?_
      refine g_isub X dX10_way_83 ?_
      refine g_max X dX10_way_84 lX10_173 mm_max_static mm_init mm_max_code (by decide) (Nat.le_of_ble_eq_true rfl) ?_
      exact hr _ _ _ _ _ dX10_way_87 h
  · have h := h.2 hc
    refine g_iconst X dX10_way_68 (by decide) ?_
    exact hr _ _ _ _ _ dX10_way_69 h
def wp_X10_way (v1 : Int) (v2 : Int) (v3 : Int) (m : Mem) (post : Int → Mem → Prop) : Prop :=
  wp_X3_has v1 m (fun r5 m5 => ((r5 = 0 → (post (-101) m5)) ∧
  (¬ r5 = 0 → (wp_X3_has v2 m5 (fun r16 m16 => ((¬ r16 = 0 → (((v3 < 0 → (post (-102) m16)) ∧
  (¬ v3 < 0 → (((18 < v3 → (post (-102) m16)) ∧
  (¬ 18 < v3 → (((v3 ≤ 1 → (wp_X10_way_49 v1 v2 v3 m16  post)) ∧
  (¬ v3 ≤ 1 → (((10 ≤ v3 → (wp_X10_way_49 v1 v2 v3 m16  post)) ∧
  (¬ 10 ≤ v3 → (post (-102) m16)))))))))))))) ∧
  (r16 = 0 → (post (-101) m16))))))))
set_option maxRecDepth 100000 in
theorem pf_X10_way {l : Launch} {x : WX} {G : GT} {post : Int → Mem → Prop} (X : Ax l x cX10_way RX10 4 (rmd 1) 67 G) (hr : RI cX10_way post G) (v1 : Int) (v2 : Int) (v3 : Int) (m : Mem) (h : wp_X10_way v1 v2 v3 m post) : G 0 [(0, (2, 0)), (1, (0, v1)), (2, (0, v2)), (3, (0, v3))] [] m := by
  unfold wp_X10_way at h
  refine g_aload_n 0 (i := 0) X dX10_way_0 rfl rfl ?_
  refine g_getR X dX10_way_1 fX10_10 ?_
  refine g_iload_n 1 (i := 1) X dX10_way_4 rfl rfl ?_
  refine g_cVI (st := []) X dX10_way_5 YX3_has lX10_110 (by decide) (im_X3_has l x _ _ _ h) rfl ⟨by decide, by decide⟩ rfl (Nat.le_of_ble_eq_true rfl) (fun r5 m5 h => ?_)
  refine g_if_eq X dX10_way_8 (tgt := 22) (by decide) (fun hc => ?_) (fun hc => ?_)
  · have h := h.1 hc
    refine g_bipush X dX10_way_22 (by decide) ?_
    exact hr _ _ _ _ _ dX10_way_24 h
  · have h := h.2 hc
    refine g_aload_n 0 (i := 0) X dX10_way_11 rfl rfl ?_
    refine g_getR X dX10_way_12 fX10_10 ?_
    refine g_iload_n 2 (i := 2) X dX10_way_15 rfl rfl ?_
    refine g_cVI (st := []) X dX10_way_16 YX3_has lX10_110 (by decide) (im_X3_has l x _ _ _ h) rfl ⟨by decide, by decide⟩ rfl (Nat.le_of_ble_eq_true rfl) (fun r16 m16 h => ?_)
    refine g_if_ne X dX10_way_19 (tgt := 25) (by decide) (fun hc => ?_) (fun hc => ?_)
    · have h := h.1 hc
      refine g_iload_n 3 (i := 3) X dX10_way_25 rfl rfl ?_
      refine g_if_lt X dX10_way_26 (tgt := 46) (by decide) (fun hc => ?_) (fun hc => ?_)
      · have h := h.1 hc
        refine g_bipush X dX10_way_46 (by decide) ?_
        exact hr _ _ _ _ _ dX10_way_48 h
      · have h := h.2 hc
        refine g_iload_n 3 (i := 3) X dX10_way_29 rfl rfl ?_
        refine g_bipush X dX10_way_30 (by decide) ?_
        refine g_icmp_gt X dX10_way_32 (tgt := 46) (by decide) (fun hc => ?_) (fun hc => ?_)
        · have h := h.1 hc
          refine g_bipush X dX10_way_46 (by decide) ?_
          exact hr _ _ _ _ _ dX10_way_48 h
        · have h := h.2 hc
          refine g_iload_n 3 (i := 3) X dX10_way_35 rfl rfl ?_
          refine g_iconst X dX10_way_36 (by decide) ?_
          refine g_icmp_le X dX10_way_37 (tgt := 49) (by decide) (fun hc => ?_) (fun hc => ?_)
          · have h := h.1 hc
            refine g_sub X [0, 1, 2, 3] rfl (pf_X10_way_49 X hr  _ _ _ _ h)
          · have h := h.2 hc
            refine g_iload_n 3 (i := 3) X dX10_way_40 rfl rfl ?_
            refine g_bipush X dX10_way_41 (by decide) ?_
            refine g_icmp_ge X dX10_way_43 (tgt := 49) (by decide) (fun hc => ?_) (fun hc => ?_)
            · have h := h.1 hc
              refine g_sub X [0, 1, 2, 3] rfl (pf_X10_way_49 X hr  _ _ _ _ h)
            · have h := h.2 hc
              refine g_bipush X dX10_way_46 (by decide) ?_
              exact hr _ _ _ _ _ dX10_way_48 h
    · have h := h.2 hc
      refine g_bipush X dX10_way_22 (by decide) ?_
      exact hr _ _ _ _ _ dX10_way_24 h
theorem im_X10_way (l : Launch) (x : WX) (v1 : Int) (v2 : Int) (v3 : Int) (m : Mem) (post : Int → Mem → Prop) (h : wp_X10_way v1 v2 v3 m post) : MetI l x 67 1 yX10_way cX10_way 4 .int [(2, 0), (0, v1), (0, v2), (0, v3)] m post := met_I (by decide) (Nat.le_of_ble_eq_true rfl) (fun _ X hr => pf_X10_way X hr v1 v2 v3 m h)
def wp_X10_lost_17 (K4 : Int → Int → Mem → Prop) (post : Int → Mem → Prop) : Nat → Int → Int → Int → Mem → Prop
  | 0, _, _, _, _ => False
  | n + 1, v1, v2, v3, m =>
  ((m 1 0 ≤ v3 → (K4 v1 (w32 (v2 + 1)) m)) ∧
  (¬ m 1 0 ≤ v3 → (((v2 = v3 → (wp_X10_lost_17 K4 post n v1 v2 (w32 (v3 + 1)) m)) ∧
  (¬ v2 = v3 → (wp_X0_follow v2 v3 8 m (fun r46 m46 => ((¬ r46 = 0 → (wp_X10_lost_17 K4 post n v1 v2 (w32 (v3 + 1)) m46)) ∧
  (r46 = 0 → (wp_X10_lost_17 K4 post n (w32 (v1 + 1)) v2 (w32 (v3 + 1)) m46))))))))))
set_option maxRecDepth 100000 in
theorem pf_X10_lost_17 {l : Launch} {x : WX} {G : GT} {post : Int → Mem → Prop} {K4 : Int → Int → Mem → Prop} (X : Ax l x cX10_lost RX10 4 (rmd 1) 67 G) (hr : RI cX10_lost post G) (hK4 : ∀ (v1 : Int) (v2 : Int) (m : Mem), K4 v1 v2 m → G 4 [(0, (2, 0)), (1, (0, v1)), (2, (0, v2))] [] m) : ∀ (n : Nat) (v1 : Int) (v2 : Int) (v3 : Int) (m : Mem) (_ : wp_X10_lost_17 K4 post n v1 v2 v3 m), G 17 [(0, (2, 0)), (1, (0, v1)), (2, (0, v2)), (3, (0, v3))] [] m := by
  intro n
  induction n with
  | zero => intro v1 v2 v3 m h; exact absurd h id
  | succ n ih =>
  intro v1 v2 v3 m h
  unfold wp_X10_lost_17 at h
  refine g_iload_n 3 (i := 3) X dX10_lost_17 rfl rfl ?_
  refine g_aload_n 0 (i := 0) X dX10_lost_18 rfl rfl ?_
  refine g_getR X dX10_lost_19 fX10_10 ?_
  refine g_getI X dX10_lost_22 fX10_129 ?_
  refine g_icmp_ge X dX10_lost_25 (tgt := 61) (by decide) (fun hc => ?_) (fun hc => ?_)
  · have h := h.1 hc
    refine g_iinc 2 (lv' := [(2, (0, w32 (v2 + 1))), (0, (2, 0)), (1, (0, v1)), (3, (0, v3))]) X dX10_lost_61 rfl (by decide) rfl ?_
    refine g_goto X dX10_lost_64 (tgt := 4) (by decide) ?_
    exact g_sub X [1, 2, 0] rfl (hK4 _ _ _ h)
  · have h := h.2 hc
    refine g_iload_n 2 (i := 2) X dX10_lost_28 rfl rfl ?_
    refine g_iload_n 3 (i := 3) X dX10_lost_29 rfl rfl ?_
    refine g_icmp_eq X dX10_lost_30 (tgt := 55) (by decide) (fun hc => ?_) (fun hc => ?_)
    · have h := h.1 hc
      refine g_iinc 3 (lv' := [(3, (0, w32 (v3 + 1))), (0, (2, 0)), (1, (0, v1)), (2, (0, v2))]) X dX10_lost_55 rfl (by decide) rfl ?_
      refine g_goto X dX10_lost_58 (tgt := 17) (by decide) ?_
      exact g_sub X [1, 2, 3, 0] rfl (ih _ _ _ _ h)
    · have h := h.2 hc
      refine g_aload_n 0 (i := 0) X dX10_lost_33 rfl rfl ?_
      refine g_getR X dX10_lost_34 fX10_26 ?_
      refine g_iload_n 2 (i := 2) X dX10_lost_37 rfl rfl ?_
      refine g_iload_n 3 (i := 3) X dX10_lost_38 rfl rfl ?_
      refine g_aload_n 0 (i := 0) X dX10_lost_39 rfl rfl ?_
      refine g_getR X dX10_lost_40 fX10_26 ?_
      refine g_getR X dX10_lost_43 fX10_164 ?_
      refine g_cVI (st := []) X dX10_lost_46 YX0_follow lX10_166 (by decide) (im_X0_follow l x _ _ _ _ _ h) rfl ⟨by decide, by decide⟩ rfl (Nat.le_of_ble_eq_true rfl) (fun r46 m46 h => ?_)
      refine g_if_ne X dX10_lost_49 (tgt := 55) (by decide) (fun hc => ?_) (fun hc => ?_)
      · have h := h.1 hc
        refine g_iinc 3 (lv' := [(3, (0, w32 (v3 + 1))), (0, (2, 0)), (1, (0, v1)), (2, (0, v2))]) X dX10_lost_55 rfl (by decide) rfl ?_
        refine g_goto X dX10_lost_58 (tgt := 17) (by decide) ?_
        exact g_sub X [1, 2, 3, 0] rfl (ih _ _ _ _ h)
      · have h := h.2 hc
        refine g_iinc 1 (lv' := [(1, (0, w32 (v1 + 1))), (0, (2, 0)), (2, (0, v2)), (3, (0, v3))]) X dX10_lost_52 rfl (by decide) rfl ?_
        refine g_iinc 3 (lv' := [(3, (0, w32 (v3 + 1))), (1, (0, w32 (v1 + 1))), (0, (2, 0)), (2, (0, v2))]) X dX10_lost_55 rfl (by decide) rfl ?_
        refine g_goto X dX10_lost_58 (tgt := 17) (by decide) ?_
        exact g_sub X [2, 1, 3, 0] rfl (ih _ _ _ _ h)
def wp_X10_lost_4  (post : Int → Mem → Prop) : Nat → Int → Int → Mem → Prop
  | 0, _, _, _ => False
  | n + 1, v1, v2, m =>
  ((m 1 0 ≤ v2 → (post v1 m)) ∧
  (¬ m 1 0 ≤ v2 → (∃ n_2 : Nat, wp_X10_lost_17 (fun v1_1 v2_1 m_1 => wp_X10_lost_4  post n v1_1 v2_1 m_1) post n_2 v1 v2 0 m)))
set_option maxRecDepth 100000 in
theorem pf_X10_lost_4 {l : Launch} {x : WX} {G : GT} {post : Int → Mem → Prop}  (X : Ax l x cX10_lost RX10 4 (rmd 1) 67 G) (hr : RI cX10_lost post G) : ∀ (n : Nat) (v1 : Int) (v2 : Int) (m : Mem) (_ : wp_X10_lost_4  post n v1 v2 m), G 4 [(0, (2, 0)), (1, (0, v1)), (2, (0, v2))] [] m := by
  intro n
  induction n with
  | zero => intro v1 v2 m h; exact absurd h id
  | succ n ih =>
  intro v1 v2 m h
  unfold wp_X10_lost_4 at h
  refine g_iload_n 2 (i := 2) X dX10_lost_4 rfl rfl ?_
  refine g_aload_n 0 (i := 0) X dX10_lost_5 rfl rfl ?_
  refine g_getR X dX10_lost_6 fX10_10 ?_
  refine g_getI X dX10_lost_9 fX10_129 ?_
  refine g_icmp_ge X dX10_lost_12 (tgt := 67) (by decide) (fun hc => ?_) (fun hc => ?_)
  · have h := h.1 hc
    refine g_iload_n 1 (i := 1) X dX10_lost_67 rfl rfl ?_
    exact hr _ _ _ _ _ dX10_lost_68 h
  · have h := h.2 hc
    refine g_iconst X dX10_lost_15 (by decide) ?_
    refine g_istore_n (i := 3) (lv' := [(3, (0, 0)), (0, (2, 0)), (1, (0, v1)), (2, (0, v2))]) X dX10_lost_16 rfl (by decide) rfl ?_
    obtain ⟨n_2, h⟩ := h
    refine g_sub X [1, 2, 3, 0] rfl (pf_X10_lost_17 X hr (fun v1_1 v2_1 m_1 h => ?_) n_2 _ _ _ _ h)
    · exact g_sub X [0, 1, 2] rfl (ih _ _ _ h)
def wp_X10_lost  (m : Mem) (post : Int → Mem → Prop) : Prop :=
  ∃ n_3 : Nat, wp_X10_lost_4  post n_3 0 0 m
set_option maxRecDepth 100000 in
theorem pf_X10_lost {l : Launch} {x : WX} {G : GT} {post : Int → Mem → Prop} (X : Ax l x cX10_lost RX10 4 (rmd 1) 67 G) (hr : RI cX10_lost post G)  (m : Mem) (h : wp_X10_lost  m post) : G 0 [(0, (2, 0))] [] m := by
  unfold wp_X10_lost at h
  refine g_iconst X dX10_lost_0 (by decide) ?_
  refine g_istore_n (i := 1) (lv' := [(1, (0, 0)), (0, (2, 0))]) X dX10_lost_1 rfl (by decide) rfl ?_
  refine g_iconst X dX10_lost_2 (by decide) ?_
  refine g_istore_n (i := 2) (lv' := [(2, (0, 0)), (1, (0, 0)), (0, (2, 0))]) X dX10_lost_3 rfl (by decide) rfl ?_
  obtain ⟨n_3, h⟩ := h
  refine g_sub X [2, 1, 0] rfl (pf_X10_lost_4 X hr  n_3 _ _ _ h)
theorem im_X10_lost (l : Launch) (x : WX)  (m : Mem) (post : Int → Mem → Prop) (h : wp_X10_lost  m post) : MetI l x 67 1 yX10_lost cX10_lost 4 .int [(2, 0)] m post := met_I (by decide) (Nat.le_of_ble_eq_true rfl) (fun _ X hr => pf_X10_lost X hr  m h)
def wp_X10_train_50 (v1 : Int) (v2 : Int) (v3 : Int) (v4 : Int) (v5 : Int) (v6 : Int) (m : Mem)  (post : Int → Mem → Prop) : Prop :=
  ((v3 < 1 → (post (-102) m)) ∧
  (¬ v3 < 1 → (((127 < v3 → (post (-102) m)) ∧
  (¬ 127 < v3 → (((v4 < 0 → (post (-102) m)) ∧
  (¬ v4 < 0 → (((v4 < 24 → (((v5 < 1 → (post (-102) m)) ∧
  (¬ v5 < 1 → (((48 < v5 → (post (-102) m)) ∧
  (¬ 48 < v5 → (((v6 < 1 → (post (-102) m)) ∧
  (¬ v6 < 1 → (((v6 ≤ 12 → (((m 13 0 < 12 → (wp_X8_add v3 v4 v5 v6 m (fun r131 m131 => wp_X8_serve r131 v1 v2 m131 (fun m148 => post r131 m148)))) ∧
  (¬ m 13 0 < 12 → (post (-104) m))))) ∧
  (¬ v6 ≤ 12 → (post (-102) m)))))))))))))) ∧
  (¬ v4 < 24 → (post (-102) m))))))))))))
set_option maxRecDepth 100000 in
theorem pf_X10_train_50 {l : Launch} {x : WX} {G : GT} {post : Int → Mem → Prop}  (X : Ax l x cX10_train RX10 8 (rmd 1) 67 G) (hr : RI cX10_train post G) (v1 : Int) (v2 : Int) (v3 : Int) (v4 : Int) (v5 : Int) (v6 : Int) (m : Mem) (h : wp_X10_train_50 v1 v2 v3 v4 v5 v6 m  post) : G 50 [(0, (2, 0)), (1, (0, v1)), (2, (0, v2)), (3, (0, v3)), (4, (0, v4)), (5, (0, v5)), (6, (0, v6))] [] m := by
  unfold wp_X10_train_50 at h
  refine g_iload_n 3 (i := 3) X dX10_train_50 rfl rfl ?_
  refine g_iconst X dX10_train_51 (by decide) ?_
  refine g_icmp_lt X dX10_train_52 (tgt := 73) (by decide) (fun hc => ?_) (fun hc => ?_)
  · have h := h.1 hc
    refine g_bipush X dX10_train_73 (by decide) ?_
    exact hr _ _ _ _ _ dX10_train_75 h
  · have h := h.2 hc
    refine g_iload_n 3 (i := 3) X dX10_train_55 rfl rfl ?_
    refine g_bipush X dX10_train_56 (by decide) ?_
    refine g_icmp_gt X dX10_train_58 (tgt := 73) (by decide) (fun hc => ?_) (fun hc => ?_)
    · have h := h.1 hc
      refine g_bipush X dX10_train_73 (by decide) ?_
      exact hr _ _ _ _ _ dX10_train_75 h
    · have h := h.2 hc
      refine g_iload 4 (i := 4) X dX10_train_61 rfl ?_
      refine g_if_lt X dX10_train_63 (tgt := 73) (by decide) (fun hc => ?_) (fun hc => ?_)
      · have h := h.1 hc
        refine g_bipush X dX10_train_73 (by decide) ?_
        exact hr _ _ _ _ _ dX10_train_75 h
      · have h := h.2 hc
        refine g_iload 4 (i := 4) X dX10_train_66 rfl ?_
        refine g_bipush X dX10_train_68 (by decide) ?_
        refine g_icmp_lt X dX10_train_70 (tgt := 76) (by decide) (fun hc => ?_) (fun hc => ?_)
        · have h := h.1 hc
          refine g_iload 5 (i := 5) X dX10_train_76 rfl ?_
          refine g_iconst X dX10_train_78 (by decide) ?_
          refine g_icmp_lt X dX10_train_79 (tgt := 102) (by decide) (fun hc => ?_) (fun hc => ?_)
          · have h := h.1 hc
            refine g_bipush X dX10_train_102 (by decide) ?_
            exact hr _ _ _ _ _ dX10_train_104 h
          · have h := h.2 hc
            refine g_iload 5 (i := 5) X dX10_train_82 rfl ?_
            refine g_bipush X dX10_train_84 (by decide) ?_
            refine g_icmp_gt X dX10_train_86 (tgt := 102) (by decide) (fun hc => ?_) (fun hc => ?_)
            · have h := h.1 hc
              refine g_bipush X dX10_train_102 (by decide) ?_
              exact hr _ _ _ _ _ dX10_train_104 h
            · have h := h.2 hc
              refine g_iload 6 (i := 6) X dX10_train_89 rfl ?_
              refine g_iconst X dX10_train_91 (by decide) ?_
              refine g_icmp_lt X dX10_train_92 (tgt := 102) (by decide) (fun hc => ?_) (fun hc => ?_)
              · have h := h.1 hc
                refine g_bipush X dX10_train_102 (by decide) ?_
                exact hr _ _ _ _ _ dX10_train_104 h
              · have h := h.2 hc
                refine g_iload 6 (i := 6) X dX10_train_95 rfl ?_
                refine g_bipush X dX10_train_97 (by decide) ?_
                refine g_icmp_le X dX10_train_99 (tgt := 105) (by decide) (fun hc => ?_) (fun hc => ?_)
                · have h := h.1 hc
                  refine g_aload_n 0 (i := 0) X dX10_train_105 rfl rfl ?_
                  refine g_getR X dX10_train_106 fX10_33 ?_
                  refine g_getI X dX10_train_109 fX10_194 ?_
                  refine g_bipush X dX10_train_112 (by decide) ?_
                  refine g_icmp_lt X dX10_train_114 (tgt := 120) (by decide) (fun hc => ?_) (fun hc => ?_)
                  · have h := h.1 hc
                    refine g_aload_n 0 (i := 0) X dX10_train_120 rfl rfl ?_
                    refine g_getR X dX10_train_121 fX10_33 ?_
                    refine g_iload_n 3 (i := 3) X dX10_train_124 rfl rfl ?_
                    refine g_iload 4 (i := 4) X dX10_train_125 rfl ?_
                    refine g_iload 5 (i := 5) X dX10_train_127 rfl ?_
                    refine g_iload 6 (i := 6) X dX10_train_129 rfl ?_
                    refine g_cVI (st := []) X dX10_train_131 YX8_add lX10_195 (by decide) (im_X8_add l x _ _ _ _ _ _ h) rfl ⟨by decide, by decide⟩ rfl (Nat.le_of_ble_eq_true rfl) (fun r131 m131 h => ?_)
                    refine g_istore (i := 7) (lv' := [(7, (0, r131)), (0, (2, 0)), (1, (0, v1)), (2, (0, v2)), (3, (0, v3)), (4, (0, v4)), (5, (0, v5)), (6, (0, v6))]) X dX10_train_134 (by decide) rfl ?_
                    refine g_aload_n 1 (i := 0) X dX10_train_136 rfl rfl ?_
                    refine g_getR X dX10_train_137 fX10_33 ?_
                    refine g_iload 0 (i := 7) X dX10_train_140 rfl ?_
                    refine g_iload_n 2 (i := 1) X dX10_train_142 rfl rfl ?_
                    refine g_iload_n 3 (i := 2) X dX10_train_143 rfl rfl ?_
                    refine g_aload_n 1 (i := 0) X dX10_train_144 rfl rfl ?_
                    refine g_getR X dX10_train_145 fX10_26 ?_
                    refine g_cVV (st := []) X dX10_train_148 YX8_serve lX10_196 (by decide) (im_X8_serve l x _ _ _ _ _ h) rfl ⟨by decide, by decide⟩ rfl (Nat.le_of_ble_eq_true rfl) (fun m148 h => ?_)
                    refine g_iload 0 (i := 7) X dX10_train_151 rfl ?_
                    exact hr _ _ _ _ _ dX10_train_153 h
                  · have h := h.2 hc
                    refine g_bipush X dX10_train_117 (by decide) ?_
                    exact hr _ _ _ _ _ dX10_train_119 h
                · have h := h.2 hc
                  refine g_bipush X dX10_train_102 (by decide) ?_
                  exact hr _ _ _ _ _ dX10_train_104 h
        · have h := h.2 hc
          refine g_bipush X dX10_train_73 (by decide) ?_
          exact hr _ _ _ _ _ dX10_train_75 h
def wp_X10_train_30 (v1 : Int) (v2 : Int) (v3 : Int) (v4 : Int) (v5 : Int) (v6 : Int) (m : Mem)  (post : Int → Mem → Prop) : Prop :=
  ((v2 = (-1) → (wp_X10_train_50 v1 v2 v3 v4 v5 v6 m  post)) ∧
  (¬ v2 = (-1) → (wp_X0_madeAlike v1 v2 m (fun r41 m41 => ((¬ r41 = 0 → (wp_X10_train_50 v1 v2 v3 v4 v5 v6 m41  post)) ∧
  (r41 = 0 → (post (-101) m41)))))))
set_option maxRecDepth 100000 in
theorem pf_X10_train_30 {l : Launch} {x : WX} {G : GT} {post : Int → Mem → Prop}  (X : Ax l x cX10_train RX10 8 (rmd 1) 67 G) (hr : RI cX10_train post G) (v1 : Int) (v2 : Int) (v3 : Int) (v4 : Int) (v5 : Int) (v6 : Int) (m : Mem) (h : wp_X10_train_30 v1 v2 v3 v4 v5 v6 m  post) : G 30 [(0, (2, 0)), (1, (0, v1)), (2, (0, v2)), (3, (0, v3)), (4, (0, v4)), (5, (0, v5)), (6, (0, v6))] [] m := by
  unfold wp_X10_train_30 at h
  refine g_iload_n 2 (i := 2) X dX10_train_30 rfl rfl ?_
  refine g_iconst X dX10_train_31 (by decide) ?_
  refine g_icmp_eq X dX10_train_32 (tgt := 50) (by decide) (fun hc => ?_) (fun hc => ?_)
  · have h := h.1 hc
    refine g_sub X [0, 1, 2, 3, 4, 5, 6] rfl (pf_X10_train_50 X hr  _ _ _ _ _ _ _ h)
  · have h := h.2 hc
    refine g_aload_n 0 (i := 0) X dX10_train_35 rfl rfl ?_
    refine g_getR X dX10_train_36 fX10_26 ?_
    refine g_iload_n 1 (i := 1) X dX10_train_39 rfl rfl ?_
    refine g_iload_n 2 (i := 2) X dX10_train_40 rfl rfl ?_
    refine g_cVI (st := []) X dX10_train_41 YX0_madeAlike lX10_191 (by decide) (im_X0_madeAlike l x _ _ _ _ h) rfl ⟨by decide, by decide⟩ rfl (Nat.le_of_ble_eq_true rfl) (fun r41 m41 h => ?_)
    refine g_if_ne X dX10_train_44 (tgt := 50) (by decide) (fun hc => ?_) (fun hc => ?_)
    · have h := h.1 hc
      refine g_sub X [0, 1, 2, 3, 4, 5, 6] rfl (pf_X10_train_50 X hr  _ _ _ _ _ _ _ h)
    · have h := h.2 hc
      refine g_bipush X dX10_train_47 (by decide) ?_
      exact hr _ _ _ _ _ dX10_train_49 h
def wp_X10_train (v1 : Int) (v2 : Int) (v3 : Int) (v4 : Int) (v5 : Int) (v6 : Int) (m : Mem) (post : Int → Mem → Prop) : Prop :=
  wp_X0_has v1 m (fun r5 m5 => ((r5 = 0 → (post (-101) m5)) ∧
  (¬ r5 = 0 → (((v2 = (-1) → (wp_X10_train_30 v1 v2 v3 v4 v5 v6 m5  post)) ∧
  (¬ v2 = (-1) → (wp_X0_has v2 m5 (fun r21 m21 => ((¬ r21 = 0 → (wp_X10_train_30 v1 v2 v3 v4 v5 v6 m21  post)) ∧
  (r21 = 0 → (post (-101) m21)))))))))))
set_option maxRecDepth 100000 in
theorem pf_X10_train {l : Launch} {x : WX} {G : GT} {post : Int → Mem → Prop} (X : Ax l x cX10_train RX10 8 (rmd 1) 67 G) (hr : RI cX10_train post G) (v1 : Int) (v2 : Int) (v3 : Int) (v4 : Int) (v5 : Int) (v6 : Int) (m : Mem) (h : wp_X10_train v1 v2 v3 v4 v5 v6 m post) : G 0 [(0, (2, 0)), (1, (0, v1)), (2, (0, v2)), (3, (0, v3)), (4, (0, v4)), (5, (0, v5)), (6, (0, v6))] [] m := by
  unfold wp_X10_train at h
  refine g_aload_n 0 (i := 0) X dX10_train_0 rfl rfl ?_
  refine g_getR X dX10_train_1 fX10_26 ?_
  refine g_iload_n 1 (i := 1) X dX10_train_4 rfl rfl ?_
  refine g_cVI (st := []) X dX10_train_5 YX0_has lX10_156 (by decide) (im_X0_has l x _ _ _ h) rfl ⟨by decide, by decide⟩ rfl (Nat.le_of_ble_eq_true rfl) (fun r5 m5 h => ?_)
  refine g_if_eq X dX10_train_8 (tgt := 27) (by decide) (fun hc => ?_) (fun hc => ?_)
  · have h := h.1 hc
    refine g_bipush X dX10_train_27 (by decide) ?_
    exact hr _ _ _ _ _ dX10_train_29 h
  · have h := h.2 hc
    refine g_iload_n 2 (i := 2) X dX10_train_11 rfl rfl ?_
    refine g_iconst X dX10_train_12 (by decide) ?_
    refine g_icmp_eq X dX10_train_13 (tgt := 30) (by decide) (fun hc => ?_) (fun hc => ?_)
    · have h := h.1 hc
      refine g_sub X [0, 1, 2, 3, 4, 5, 6] rfl (pf_X10_train_30 X hr  _ _ _ _ _ _ _ h)
    · have h := h.2 hc
      refine g_aload_n 0 (i := 0) X dX10_train_16 rfl rfl ?_
      refine g_getR X dX10_train_17 fX10_26 ?_
      refine g_iload_n 2 (i := 2) X dX10_train_20 rfl rfl ?_
      refine g_cVI (st := []) X dX10_train_21 YX0_has lX10_156 (by decide) (im_X0_has l x _ _ _ h) rfl ⟨by decide, by decide⟩ rfl (Nat.le_of_ble_eq_true rfl) (fun r21 m21 h => ?_)
      refine g_if_ne X dX10_train_24 (tgt := 30) (by decide) (fun hc => ?_) (fun hc => ?_)
      · have h := h.1 hc
        refine g_sub X [0, 1, 2, 3, 4, 5, 6] rfl (pf_X10_train_30 X hr  _ _ _ _ _ _ _ h)
      · have h := h.2 hc
        refine g_bipush X dX10_train_27 (by decide) ?_
        exact hr _ _ _ _ _ dX10_train_29 h
theorem im_X10_train (l : Launch) (x : WX) (v1 : Int) (v2 : Int) (v3 : Int) (v4 : Int) (v5 : Int) (v6 : Int) (m : Mem) (post : Int → Mem → Prop) (h : wp_X10_train v1 v2 v3 v4 v5 v6 m post) : MetI l x 67 1 yX10_train cX10_train 8 .int [(2, 0), (0, v1), (0, v2), (0, v3), (0, v4), (0, v5), (0, v6)] m post := met_I (by decide) (Nat.le_of_ble_eq_true rfl) (fun _ X hr => pf_X10_train X hr v1 v2 v3 v4 v5 v6 m h)
