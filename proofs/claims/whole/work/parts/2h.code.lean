/-! methods: what they mean, and that their bytecode means it (printed by a program of mine) -/
def wp_X11_way_91  (post : Int → Mem → Prop) : Nat → Int → Int → Mem → Prop
  | 0, _, _, _ => False
  | n + 1, v4, v5, m =>
  ((m 67 38 ≤ v5 → (post v4 m)) ∧
  (¬ m 67 38 ≤ v5 → ((0 ≤ w32 (v5 - 1) ∧ w32 (v5 - 1) < 9) ∧ ((0 ≤ v5 ∧ v5 < 9) ∧ ((0 ≤ w32 (w32 (8 * m 87 (w32 (v5 - 1))) + m 87 v5) ∧ w32 (w32 (8 * m 87 (w32 (v5 - 1))) + m 87 v5) < 64) ∧ (∀ v4_128 : Int, v4_128 = w32 (v4 + m 68 (w32 (w32 (8 * m 87 (w32 (v5 - 1))) + m 87 v5))) → (wp_X11_way_91  post n v4_128 (w32 (v5 + 1)) m)))))))
set_option maxRecDepth 100000 in
theorem pf_X11_way_91 {l : Launch} {x : WX} {G : GT} {post : Int → Mem → Prop}  (X : Ax l x cX11_way RX11 6 (rmd 2) 106 G) (hr : RI cX11_way post G) : ∀ (n : Nat) (v4 : Int) (v5 : Int) (m : Mem) (_ : wp_X11_way_91  post n v4 v5 m), G 91 [(0, (2, 67)), (4, (0, v4)), (5, (0, v5))] [] m := by
  intro n
  induction n with
  | zero => intro v4 v5 m h; exact absurd h id
  | succ n ih =>
  intro v4 v5 m h
  unfold wp_X11_way_91 at h
  refine g_iload 2 (i := 5) X dX11_way_91 rfl ?_
  refine g_aload_n 0 (i := 0) X dX11_way_93 rfl rfl ?_
  refine g_getI X dX11_way_94 fX11_218 ?_
  refine g_icmp_ge X dX11_way_97 (tgt := 136) (by decide) (fun hc => ?_) (fun hc => ?_)
  · have h := h.1 hc
    refine g_iload 1 (i := 4) X dX11_way_136 rfl ?_
    exact hr _ _ _ _ _ dX11_way_138 h
  · have h := h.2 hc
    refine g_iload 1 (i := 4) X dX11_way_100 rfl ?_
    refine g_aload_n 0 (i := 0) X dX11_way_102 rfl rfl ?_
    refine g_getR X dX11_way_103 fX11_7 ?_
    refine g_bipush X dX11_way_106 (by decide) ?_
    refine g_aload_n 0 (i := 0) X dX11_way_108 rfl rfl ?_
    refine g_getR X dX11_way_109 fX11_68 ?_
    refine g_iload 2 (i := 5) X dX11_way_112 rfl ?_
    refine g_iconst X dX11_way_114 (by decide) ?_
    refine g_isub X dX11_way_115 ?_
    obtain ⟨hi, h⟩ := h
    refine g_iald X dX11_way_116 rfl hi ?_
    refine g_imul X dX11_way_117 ?_
    refine g_aload_n 0 (i := 0) X dX11_way_118 rfl rfl ?_
    refine g_getR X dX11_way_119 fX11_68 ?_
    refine g_iload 2 (i := 5) X dX11_way_122 rfl ?_
    obtain ⟨hi, h⟩ := h
    refine g_iald X dX11_way_124 rfl hi ?_
    refine g_iadd X dX11_way_125 ?_
    obtain ⟨hi, h⟩ := h
    refine g_iald X dX11_way_126 rfl hi ?_
    refine g_iadd X dX11_way_127 ?_
    refine g_nmI (fun v4_128 ev4_128 => ?_)
    have h := h v4_128 ev4_128
    refine g_istore (i := 4) (lv' := [(4, (0, v4_128)), (0, (2, 67)), (5, (0, v5))]) X dX11_way_128 (by decide) rfl ?_
    refine g_iinc 2 (lv' := [(5, (0, w32 (v5 + 1))), (4, (0, v4_128)), (0, (2, 67))]) X dX11_way_130 rfl (by decide) rfl ?_
    refine g_goto X dX11_way_133 (tgt := 91) (by decide) ?_
    exact g_sub X [2, 1, 0] rfl (ih _ _ _ h)
def wp_X11_way_42 (v1 : Int) (v2 : Int) (v3 : Int) (m : Mem)  (post : Int → Mem → Prop) : Prop :=
  wp_X11_asMade m (fun m43 => wp_X11_walk v1 v2 m43 (fun r49 m49 => ((¬ r49 = 0 → (((¬ v3 = 0 → (((¬ v3 = 1 → (((m49 67 38 ≤ w32 (v3 - 10) → (post (-1) m49)) ∧
  (¬ m49 67 38 ≤ w32 (v3 - 10) → ((0 ≤ w32 (v3 - 10) ∧ w32 (v3 - 10) < 9) ∧ (post (m49 87 (w32 (v3 - 10))) m49)))))) ∧
  (v3 = 1 → (∃ n_2 : Nat, wp_X11_way_91  post n_2 0 1 m49))))) ∧
  (v3 = 0 → (((2 ≤ m49 67 38 → (post (w32 (m49 67 38 - 2)) m49)) ∧
  (¬ 2 ≤ m49 67 38 → (post 0 m49)))))))) ∧
  (r49 = 0 → (post (-1) m49)))))
set_option maxRecDepth 100000 in
theorem pf_X11_way_42 {l : Launch} {x : WX} {G : GT} {post : Int → Mem → Prop}  (X : Ax l x cX11_way RX11 6 (rmd 2) 106 G) (hr : RI cX11_way post G) (v1 : Int) (v2 : Int) (v3 : Int) (m : Mem) (h : wp_X11_way_42 v1 v2 v3 m  post) : G 42 [(0, (2, 67)), (1, (0, v1)), (2, (0, v2)), (3, (0, v3))] [] m := by
  unfold wp_X11_way_42 at h
  refine g_aload_n 0 (i := 0) X dX11_way_42 rfl rfl ?_
  refine g_cVV (st := []) X dX11_way_43 YX11_asMade lX11_221 (by decide) (im_X11_asMade l x  _ _ h) rfl ⟨by decide, by decide⟩ rfl (Nat.le_of_ble_eq_true rfl) (fun m43 h => ?_)
  refine g_aload_n 0 (i := 0) X dX11_way_46 rfl rfl ?_
  refine g_iload_n 1 (i := 1) X dX11_way_47 rfl rfl ?_
  refine g_iload_n 2 (i := 2) X dX11_way_48 rfl rfl ?_
  refine g_cVI (st := []) X dX11_way_49 YX11_walk lX11_224 (by decide) (im_X11_walk l x _ _ _ _ h) rfl ⟨by decide, by decide⟩ rfl (Nat.le_of_ble_eq_true rfl) (fun r49 m49 h => ?_)
  refine g_if_ne X dX11_way_52 (tgt := 57) (by decide) (fun hc => ?_) (fun hc => ?_)
  · have h := h.1 hc
    refine g_iload_n 3 (i := 3) X dX11_way_57 rfl rfl ?_
    refine g_if_ne X dX11_way_58 (tgt := 80) (by decide) (fun hc => ?_) (fun hc => ?_)
    · have h := h.1 hc
      refine g_iload_n 3 (i := 3) X dX11_way_80 rfl rfl ?_
      refine g_iconst X dX11_way_81 (by decide) ?_
      refine g_icmp_ne X dX11_way_82 (tgt := 139) (by decide) (fun hc => ?_) (fun hc => ?_)
      · have h := h.1 hc
        refine g_iload_n 3 (i := 3) X dX11_way_139 rfl rfl ?_
        refine g_bipush X dX11_way_140 (by decide) ?_
        refine g_isub X dX11_way_142 ?_
        refine g_aload_n 0 (i := 0) X dX11_way_143 rfl rfl ?_
        refine g_getI X dX11_way_144 fX11_218 ?_
        refine g_icmp_ge X dX11_way_147 (tgt := 162) (by decide) (fun hc => ?_) (fun hc => ?_)
        · have h := h.1 hc
          refine g_iconst X dX11_way_162 (by decide) ?_
          exact hr _ _ _ _ _ dX11_way_163 h
        · have h := h.2 hc
          refine g_aload_n 0 (i := 0) X dX11_way_150 rfl rfl ?_
          refine g_getR X dX11_way_151 fX11_68 ?_
          refine g_iload_n 3 (i := 3) X dX11_way_154 rfl rfl ?_
          refine g_bipush X dX11_way_155 (by decide) ?_
          refine g_isub X dX11_way_157 ?_
          obtain ⟨hi, h⟩ := h
          refine g_iald X dX11_way_158 rfl hi ?_
          refine g_goto X dX11_way_159 (tgt := 163) (by decide) ?_
          exact hr _ _ _ _ _ dX11_way_163 h
      · have h := h.2 hc
        refine g_iconst X dX11_way_85 (by decide) ?_
        refine g_istore (i := 4) (lv' := [(4, (0, 0)), (0, (2, 67)), (1, (0, v1)), (2, (0, v2)), (3, (0, v3))]) X dX11_way_86 (by decide) rfl ?_
        refine g_iconst X dX11_way_88 (by decide) ?_
        refine g_istore (i := 5) (lv' := [(5, (0, 1)), (4, (0, 0)), (0, (2, 67)), (1, (0, v1)), (2, (0, v2)), (3, (0, v3))]) X dX11_way_89 (by decide) rfl ?_
        obtain ⟨n_2, h⟩ := h
        refine g_sub X [2, 1, 0] rfl (pf_X11_way_91 X hr  n_2 _ _ _ h)
    · have h := h.2 hc
      refine g_aload_n 0 (i := 0) X dX11_way_61 rfl rfl ?_
      refine g_getI X dX11_way_62 fX11_218 ?_
      refine g_iconst X dX11_way_65 (by decide) ?_
      refine g_icmp_ge X dX11_way_66 (tgt := 73) (by decide) (fun hc => ?_) (fun hc => ?_)
      · have h := h.1 hc
        refine g_aload_n 0 (i := 0) X dX11_way_73 rfl rfl ?_
        refine g_getI X dX11_way_74 fX11_218 ?_
        refine g_iconst X dX11_way_77 (by decide) ?_
        refine g_isub X dX11_way_78 ?_
        exact hr _ _ _ _ _ dX11_way_79 h
      · have h := h.2 hc
        refine g_iconst X dX11_way_69 (by decide) ?_
        refine g_goto X dX11_way_70 (tgt := 79) (by decide) ?_
        exact hr _ _ _ _ _ dX11_way_79 h
  · have h := h.2 hc
    refine g_iconst X dX11_way_55 (by decide) ?_
    exact hr _ _ _ _ _ dX11_way_56 h
def wp_X11_way (v1 : Int) (v2 : Int) (v3 : Int) (m : Mem) (post : Int → Mem → Prop) : Prop :=
  wp_X11_isYard v1 m (fun r2 m2 => ((r2 = 0 → (post (-101) m2)) ∧
  (¬ r2 = 0 → (wp_X11_isYard v2 m2 (fun r10 m10 => ((¬ r10 = 0 → (wp_X11_in v3 0 1 m10 (fun r22 m22 => ((¬ r22 = 0 → (wp_X11_way_42 v1 v2 v3 m22  post)) ∧
  (r22 = 0 → (wp_X11_in v3 10 18 m22 (fun r33 m33 => ((¬ r33 = 0 → (wp_X11_way_42 v1 v2 v3 m33  post)) ∧
  (r33 = 0 → (post (-102) m33)))))))))) ∧
  (r10 = 0 → (post (-101) m10))))))))
set_option maxRecDepth 100000 in
theorem pf_X11_way {l : Launch} {x : WX} {G : GT} {post : Int → Mem → Prop} (X : Ax l x cX11_way RX11 6 (rmd 2) 106 G) (hr : RI cX11_way post G) (v1 : Int) (v2 : Int) (v3 : Int) (m : Mem) (h : wp_X11_way v1 v2 v3 m post) : G 0 [(0, (2, 67)), (1, (0, v1)), (2, (0, v2)), (3, (0, v3))] [] m := by
  unfold wp_X11_way at h
  refine g_aload_n 0 (i := 0) X dX11_way_0 rfl rfl ?_
  refine g_iload_n 1 (i := 1) X dX11_way_1 rfl rfl ?_
  refine g_cVI (st := []) X dX11_way_2 YX11_isYard lX11_174 (by decide) (im_X11_isYard l x _ _ _ h) rfl ⟨by decide, by decide⟩ rfl (Nat.le_of_ble_eq_true rfl) (fun r2 m2 h => ?_)
  refine g_if_eq X dX11_way_5 (tgt := 16) (by decide) (fun hc => ?_) (fun hc => ?_)
  · have h := h.1 hc
    refine g_bipush X dX11_way_16 (by decide) ?_
    exact hr _ _ _ _ _ dX11_way_18 h
  · have h := h.2 hc
    refine g_aload_n 0 (i := 0) X dX11_way_8 rfl rfl ?_
    refine g_iload_n 2 (i := 2) X dX11_way_9 rfl rfl ?_
    refine g_cVI (st := []) X dX11_way_10 YX11_isYard lX11_174 (by decide) (im_X11_isYard l x _ _ _ h) rfl ⟨by decide, by decide⟩ rfl (Nat.le_of_ble_eq_true rfl) (fun r10 m10 h => ?_)
    refine g_if_ne X dX11_way_13 (tgt := 19) (by decide) (fun hc => ?_) (fun hc => ?_)
    · have h := h.1 hc
      refine g_iload_n 3 (i := 3) X dX11_way_19 rfl rfl ?_
      refine g_iconst X dX11_way_20 (by decide) ?_
      refine g_iconst X dX11_way_21 (by decide) ?_
      refine g_cSI (st := []) X dX11_way_22 YX11_in lX11_134 (by decide) (im_X11_in l x _ _ _ _ _ h) rfl ⟨by decide, by decide⟩ rfl (Nat.le_of_ble_eq_true rfl) (fun r22 m22 h => ?_)
      refine g_if_ne X dX11_way_25 (tgt := 42) (by decide) (fun hc => ?_) (fun hc => ?_)
      · have h := h.1 hc
        refine g_sub X [0, 1, 2, 3] rfl (pf_X11_way_42 X hr  _ _ _ _ h)
      · have h := h.2 hc
        refine g_iload_n 3 (i := 3) X dX11_way_28 rfl rfl ?_
        refine g_bipush X dX11_way_29 (by decide) ?_
        refine g_bipush X dX11_way_31 (by decide) ?_
        refine g_cSI (st := []) X dX11_way_33 YX11_in lX11_134 (by decide) (im_X11_in l x _ _ _ _ _ h) rfl ⟨by decide, by decide⟩ rfl (Nat.le_of_ble_eq_true rfl) (fun r33 m33 h => ?_)
        refine g_if_ne X dX11_way_36 (tgt := 42) (by decide) (fun hc => ?_) (fun hc => ?_)
        · have h := h.1 hc
          refine g_sub X [0, 1, 2, 3] rfl (pf_X11_way_42 X hr  _ _ _ _ h)
        · have h := h.2 hc
          refine g_bipush X dX11_way_39 (by decide) ?_
          exact hr _ _ _ _ _ dX11_way_41 h
    · have h := h.2 hc
      refine g_bipush X dX11_way_16 (by decide) ?_
      exact hr _ _ _ _ _ dX11_way_18 h
theorem im_X11_way (l : Launch) (x : WX) (v1 : Int) (v2 : Int) (v3 : Int) (m : Mem) (post : Int → Mem → Prop) (h : wp_X11_way v1 v2 v3 m post) : MetI l x 106 2 yX11_way cX11_way 6 .int [(2, 67), (0, v1), (0, v2), (0, v3)] m post := met_I (by decide) (Nat.le_of_ble_eq_true rfl) (fun _ X hr => pf_X11_way X hr v1 v2 v3 m h)
def wp_X11_lost_18 (K8 : Int → Int → Mem → Prop) (post : Int → Mem → Prop) : Nat → Int → Int → Int → Mem → Prop
  | 0, _, _, _, _ => False
  | n + 1, v1, v2, v3, m =>
  ((m 67 0 ≤ v3 → (K8 v1 (w32 (v2 + 1)) m)) ∧
  (¬ m 67 0 ≤ v3 → (((v2 = v3 → (∀ v1_47 : Int, v1_47 = w32 (v1 + 0) → (wp_X11_lost_18 K8 post n v1_47 v2 (w32 (v3 + 1)) m))) ∧
  (¬ v2 = v3 → (wp_X11_walk v2 v3 m (fun r35 m35 => ((r35 = 0 → (∀ v1_47 : Int, v1_47 = w32 (v1 + 1) → (wp_X11_lost_18 K8 post n v1_47 v2 (w32 (v3 + 1)) m35))) ∧
  (¬ r35 = 0 → (∀ v1_47 : Int, v1_47 = w32 (v1 + 0) → (wp_X11_lost_18 K8 post n v1_47 v2 (w32 (v3 + 1)) m35)))))))))))
set_option maxRecDepth 100000 in
theorem pf_X11_lost_18 {l : Launch} {x : WX} {G : GT} {post : Int → Mem → Prop} {K8 : Int → Int → Mem → Prop} (X : Ax l x cX11_lost RX11 4 (rmd 2) 106 G) (hr : RI cX11_lost post G) (hK8 : ∀ (v1 : Int) (v2 : Int) (m : Mem), K8 v1 v2 m → G 8 [(0, (2, 67)), (1, (0, v1)), (2, (0, v2))] [] m) : ∀ (n : Nat) (v1 : Int) (v2 : Int) (v3 : Int) (m : Mem) (_ : wp_X11_lost_18 K8 post n v1 v2 v3 m), G 18 [(0, (2, 67)), (1, (0, v1)), (2, (0, v2)), (3, (0, v3))] [] m := by
  intro n
  induction n with
  | zero => intro v1 v2 v3 m h; exact absurd h id
  | succ n ih =>
  intro v1 v2 v3 m h
  unfold wp_X11_lost_18 at h
  refine g_iload_n 3 (i := 3) X dX11_lost_18 rfl rfl ?_
  refine g_aload_n 0 (i := 0) X dX11_lost_19 rfl rfl ?_
  refine g_getI X dX11_lost_20 fX11_130 ?_
  refine g_icmp_ge X dX11_lost_23 (tgt := 54) (by decide) (fun hc => ?_) (fun hc => ?_)
  · have h := h.1 hc
    refine g_iinc 2 (lv' := [(2, (0, w32 (v2 + 1))), (0, (2, 67)), (1, (0, v1)), (3, (0, v3))]) X dX11_lost_54 rfl (by decide) rfl ?_
    refine g_goto X dX11_lost_57 (tgt := 8) (by decide) ?_
    exact g_sub X [1, 2, 0] rfl (hK8 _ _ _ h)
  · have h := h.2 hc
    refine g_iload_n 1 (i := 1) X dX11_lost_26 rfl rfl ?_
    refine g_iload_n 2 (i := 2) X dX11_lost_27 rfl rfl ?_
    refine g_iload_n 3 (i := 3) X dX11_lost_28 rfl rfl ?_
    refine g_icmp_eq X dX11_lost_29 (tgt := 41) (by decide) (fun hc => ?_) (fun hc => ?_)
    · have h := h.1 hc
      refine g_iconst X dX11_lost_41 (by decide) ?_
      refine g_goto X dX11_lost_42 (tgt := 46) (by decide) ?_
      refine g_iadd X dX11_lost_46 ?_
      refine g_nmI (fun v1_47 ev1_47 => ?_)
      have h := h v1_47 ev1_47
      refine g_istore_n (i := 1) (lv' := [(1, (0, v1_47)), (0, (2, 67)), (2, (0, v2)), (3, (0, v3))]) X dX11_lost_47 rfl (by decide) rfl ?_
      refine g_iinc 3 (lv' := [(3, (0, w32 (v3 + 1))), (1, (0, v1_47)), (0, (2, 67)), (2, (0, v2))]) X dX11_lost_48 rfl (by decide) rfl ?_
      refine g_goto X dX11_lost_51 (tgt := 18) (by decide) ?_
      exact g_sub X [2, 1, 3, 0] rfl (ih _ _ _ _ h)
    · have h := h.2 hc
      refine g_aload_n 0 (i := 0) X dX11_lost_32 rfl rfl ?_
      refine g_iload_n 2 (i := 2) X dX11_lost_33 rfl rfl ?_
      refine g_iload_n 3 (i := 3) X dX11_lost_34 rfl rfl ?_
      refine g_cVI (st := [(0, v1)]) X dX11_lost_35 YX11_walk lX11_224 (by decide) (im_X11_walk l x _ _ _ _ h) rfl ⟨by decide, by decide⟩ rfl (Nat.le_of_ble_eq_true rfl) (fun r35 m35 h => ?_)
      refine g_if_eq X dX11_lost_38 (tgt := 45) (by decide) (fun hc => ?_) (fun hc => ?_)
      · have h := h.1 hc
        refine g_iconst X dX11_lost_45 (by decide) ?_
        refine g_iadd X dX11_lost_46 ?_
        refine g_nmI (fun v1_47 ev1_47 => ?_)
        have h := h v1_47 ev1_47
        refine g_istore_n (i := 1) (lv' := [(1, (0, v1_47)), (0, (2, 67)), (2, (0, v2)), (3, (0, v3))]) X dX11_lost_47 rfl (by decide) rfl ?_
        refine g_iinc 3 (lv' := [(3, (0, w32 (v3 + 1))), (1, (0, v1_47)), (0, (2, 67)), (2, (0, v2))]) X dX11_lost_48 rfl (by decide) rfl ?_
        refine g_goto X dX11_lost_51 (tgt := 18) (by decide) ?_
        exact g_sub X [2, 1, 3, 0] rfl (ih _ _ _ _ h)
      · have h := h.2 hc
        refine g_iconst X dX11_lost_41 (by decide) ?_
        refine g_goto X dX11_lost_42 (tgt := 46) (by decide) ?_
        refine g_iadd X dX11_lost_46 ?_
        refine g_nmI (fun v1_47 ev1_47 => ?_)
        have h := h v1_47 ev1_47
        refine g_istore_n (i := 1) (lv' := [(1, (0, v1_47)), (0, (2, 67)), (2, (0, v2)), (3, (0, v3))]) X dX11_lost_47 rfl (by decide) rfl ?_
        refine g_iinc 3 (lv' := [(3, (0, w32 (v3 + 1))), (1, (0, v1_47)), (0, (2, 67)), (2, (0, v2))]) X dX11_lost_48 rfl (by decide) rfl ?_
        refine g_goto X dX11_lost_51 (tgt := 18) (by decide) ?_
        exact g_sub X [2, 1, 3, 0] rfl (ih _ _ _ _ h)
def wp_X11_lost_8  (post : Int → Mem → Prop) : Nat → Int → Int → Mem → Prop
  | 0, _, _, _ => False
  | n + 1, v1, v2, m =>
  ((m 67 0 ≤ v2 → (post v1 m)) ∧
  (¬ m 67 0 ≤ v2 → (∃ n_5 : Nat, wp_X11_lost_18 (fun v1_4 v2_4 m_4 => wp_X11_lost_8  post n v1_4 v2_4 m_4) post n_5 v1 v2 0 m)))
set_option maxRecDepth 100000 in
theorem pf_X11_lost_8 {l : Launch} {x : WX} {G : GT} {post : Int → Mem → Prop}  (X : Ax l x cX11_lost RX11 4 (rmd 2) 106 G) (hr : RI cX11_lost post G) : ∀ (n : Nat) (v1 : Int) (v2 : Int) (m : Mem) (_ : wp_X11_lost_8  post n v1 v2 m), G 8 [(0, (2, 67)), (1, (0, v1)), (2, (0, v2))] [] m := by
  intro n
  induction n with
  | zero => intro v1 v2 m h; exact absurd h id
  | succ n ih =>
  intro v1 v2 m h
  unfold wp_X11_lost_8 at h
  refine g_iload_n 2 (i := 2) X dX11_lost_8 rfl rfl ?_
  refine g_aload_n 0 (i := 0) X dX11_lost_9 rfl rfl ?_
  refine g_getI X dX11_lost_10 fX11_130 ?_
  refine g_icmp_ge X dX11_lost_13 (tgt := 60) (by decide) (fun hc => ?_) (fun hc => ?_)
  · have h := h.1 hc
    refine g_iload_n 1 (i := 1) X dX11_lost_60 rfl rfl ?_
    exact hr _ _ _ _ _ dX11_lost_61 h
  · have h := h.2 hc
    refine g_iconst X dX11_lost_16 (by decide) ?_
    refine g_istore_n (i := 3) (lv' := [(3, (0, 0)), (0, (2, 67)), (1, (0, v1)), (2, (0, v2))]) X dX11_lost_17 rfl (by decide) rfl ?_
    obtain ⟨n_5, h⟩ := h
    refine g_sub X [1, 2, 3, 0] rfl (pf_X11_lost_18 X hr (fun v1_4 v2_4 m_4 h => ?_) n_5 _ _ _ _ h)
    · exact g_sub X [0, 1, 2] rfl (ih _ _ _ h)
def wp_X11_lost  (m : Mem) (post : Int → Mem → Prop) : Prop :=
  wp_X11_asMade m (fun m1 => ∃ n_6 : Nat, wp_X11_lost_8  post n_6 0 0 m1)
set_option maxRecDepth 100000 in
theorem pf_X11_lost {l : Launch} {x : WX} {G : GT} {post : Int → Mem → Prop} (X : Ax l x cX11_lost RX11 4 (rmd 2) 106 G) (hr : RI cX11_lost post G)  (m : Mem) (h : wp_X11_lost  m post) : G 0 [(0, (2, 67))] [] m := by
  unfold wp_X11_lost at h
  refine g_aload_n 0 (i := 0) X dX11_lost_0 rfl rfl ?_
  refine g_cVV (st := []) X dX11_lost_1 YX11_asMade lX11_221 (by decide) (im_X11_asMade l x  _ _ h) rfl ⟨by decide, by decide⟩ rfl (Nat.le_of_ble_eq_true rfl) (fun m1 h => ?_)
  refine g_iconst X dX11_lost_4 (by decide) ?_
  refine g_istore_n (i := 1) (lv' := [(1, (0, 0)), (0, (2, 67))]) X dX11_lost_5 rfl (by decide) rfl ?_
  refine g_iconst X dX11_lost_6 (by decide) ?_
  refine g_istore_n (i := 2) (lv' := [(2, (0, 0)), (1, (0, 0)), (0, (2, 67))]) X dX11_lost_7 rfl (by decide) rfl ?_
  obtain ⟨n_6, h⟩ := h
  refine g_sub X [2, 1, 0] rfl (pf_X11_lost_8 X hr  n_6 _ _ _ h)
theorem im_X11_lost (l : Launch) (x : WX)  (m : Mem) (post : Int → Mem → Prop) (h : wp_X11_lost  m post) : MetI l x 106 2 yX11_lost cX11_lost 4 .int [(2, 67)] m post := met_I (by decide) (Nat.le_of_ble_eq_true rfl) (fun _ X hr => pf_X11_lost X hr  m h)
def wp_X11_train_223 (K253 : Int → Mem → Prop) (post : Int → Mem → Prop) : Nat → Int → Mem → Prop
  | 0, _, _ => False
  | n + 1, v8, m =>
  ((3 ≤ v8 → (K253 0 m)) ∧
  (¬ 3 ≤ v8 → ((0 ≤ w32 (w32 (3 * m 67 9) + v8) ∧ w32 (w32 (3 * m 67 9) + v8) < 36) ∧ (∀ m243 : Mem, m243 = mset m 75 (w32 (w32 (3 * m 67 9) + v8)) 0 → (wp_X11_train_223 K253 post n (w32 (v8 + 1)) m243)))))
set_option maxRecDepth 100000 in
theorem pf_X11_train_223 {l : Launch} {x : WX} {G : GT} {post : Int → Mem → Prop} {K253 : Int → Mem → Prop} (X : Ax l x cX11_train RX11 9 (rmd 2) 106 G) (hr : RI cX11_train post G) (hK253 : ∀ (v8 : Int) (m : Mem), K253 v8 m → G 253 [(0, (2, 67)), (8, (0, v8))] [] m) : ∀ (n : Nat) (v8 : Int) (m : Mem) (_ : wp_X11_train_223 K253 post n v8 m), G 223 [(0, (2, 67)), (8, (0, v8))] [] m := by
  intro n
  induction n with
  | zero => intro v8 m h; exact absurd h id
  | succ n ih =>
  intro v8 m h
  unfold wp_X11_train_223 at h
  refine g_iload 1 (i := 8) X dX11_train_223 rfl ?_
  refine g_iconst X dX11_train_225 (by decide) ?_
  refine g_icmp_ge X dX11_train_226 (tgt := 250) (by decide) (fun hc => ?_) (fun hc => ?_)
  · have h := h.1 hc
    refine g_iconst X dX11_train_250 (by decide) ?_
    refine g_istore (i := 8) (lv' := [(8, (0, 0)), (0, (2, 67))]) X dX11_train_251 (by decide) rfl ?_
    exact g_sub X [1, 0] rfl (hK253 _ _ h)
  · have h := h.2 hc
    refine g_aload_n 0 (i := 0) X dX11_train_229 rfl rfl ?_
    refine g_getR X dX11_train_230 fX11_32 ?_
    refine g_iconst X dX11_train_233 (by decide) ?_
    refine g_aload_n 0 (i := 0) X dX11_train_234 rfl rfl ?_
    refine g_getI X dX11_train_235 fX11_144 ?_
    refine g_imul X dX11_train_238 ?_
    refine g_iload 1 (i := 8) X dX11_train_239 rfl ?_
    refine g_iadd X dX11_train_241 ?_
    refine g_iconst X dX11_train_242 (by decide) ?_
    obtain ⟨hi, h⟩ := h
    refine g_iast X dX11_train_243 rfl hi (fun m243 em243 => ?_)
    have h := h m243 em243
    refine g_iinc 1 (lv' := [(8, (0, w32 (v8 + 1))), (0, (2, 67))]) X dX11_train_244 rfl (by decide) rfl ?_
    refine g_goto X dX11_train_247 (tgt := 223) (by decide) ?_
    exact g_sub X [1, 0] rfl (ih _ _ h)
def wp_X11_train_253 (K280 : Mem → Prop) (post : Int → Mem → Prop) : Nat → Int → Mem → Prop
  | 0, _, _ => False
  | n + 1, v8, m =>
  ((4 ≤ v8 → (K280 m)) ∧
  (¬ 4 ≤ v8 → ((0 ≤ w32 (w32 (4 * m 67 9) + v8) ∧ w32 (w32 (4 * m 67 9) + v8) < 48) ∧ (∀ m273 : Mem, m273 = mset m 76 (w32 (w32 (4 * m 67 9) + v8)) (-1) → (wp_X11_train_253 K280 post n (w32 (v8 + 1)) m273)))))
set_option maxRecDepth 100000 in
theorem pf_X11_train_253 {l : Launch} {x : WX} {G : GT} {post : Int → Mem → Prop} {K280 : Mem → Prop} (X : Ax l x cX11_train RX11 9 (rmd 2) 106 G) (hr : RI cX11_train post G) (hK280 : ∀ (m : Mem), K280  m → G 280 [(0, (2, 67))] [] m) : ∀ (n : Nat) (v8 : Int) (m : Mem) (_ : wp_X11_train_253 K280 post n v8 m), G 253 [(0, (2, 67)), (8, (0, v8))] [] m := by
  intro n
  induction n with
  | zero => intro v8 m h; exact absurd h id
  | succ n ih =>
  intro v8 m h
  unfold wp_X11_train_253 at h
  refine g_iload 1 (i := 8) X dX11_train_253 rfl ?_
  refine g_iconst X dX11_train_255 (by decide) ?_
  refine g_icmp_ge X dX11_train_256 (tgt := 280) (by decide) (fun hc => ?_) (fun hc => ?_)
  · have h := h.1 hc
    exact g_sub X [0] rfl (hK280  _ h)
  · have h := h.2 hc
    refine g_aload_n 0 (i := 0) X dX11_train_259 rfl rfl ?_
    refine g_getR X dX11_train_260 fX11_35 ?_
    refine g_iconst X dX11_train_263 (by decide) ?_
    refine g_aload_n 0 (i := 0) X dX11_train_264 rfl rfl ?_
    refine g_getI X dX11_train_265 fX11_144 ?_
    refine g_imul X dX11_train_268 ?_
    refine g_iload 1 (i := 8) X dX11_train_269 rfl ?_
    refine g_iadd X dX11_train_271 ?_
    refine g_iconst X dX11_train_272 (by decide) ?_
    obtain ⟨hi, h⟩ := h
    refine g_iast X dX11_train_273 rfl hi (fun m273 em273 => ?_)
    have h := h m273 em273
    refine g_iinc 1 (lv' := [(8, (0, w32 (v8 + 1))), (0, (2, 67))]) X dX11_train_274 rfl (by decide) rfl ?_
    refine g_goto X dX11_train_277 (tgt := 253) (by decide) ?_
    exact g_sub X [1, 0] rfl (ih _ _ h)
def wp_X11_train_71 (v1 : Int) (v2 : Int) (v3 : Int) (v4 : Int) (v5 : Int) (v6 : Int) (m : Mem)  (post : Int → Mem → Prop) : Prop :=
  wp_X11_in v3 1 127 m (fun r75 m75 => ((r75 = 0 → (post (-102) m75)) ∧
  (¬ r75 = 0 → (wp_X11_in v4 0 23 m75 (fun r86 m86 => ((r86 = 0 → (post (-102) m86)) ∧
  (¬ r86 = 0 → (wp_X11_in v5 1 48 m86 (fun r97 m97 => ((r97 = 0 → (post (-102) m97)) ∧
  (¬ r97 = 0 → (wp_X11_in v6 1 12 m97 (fun r108 m108 => ((¬ r108 = 0 → (((¬ m108 67 9 = 12 → ((0 ≤ w32 (6 * m108 67 9) ∧ w32 (6 * m108 67 9) < 72) ∧ (∀ m141 : Mem, m141 = mset m108 74 (w32 (6 * m108 67 9)) v1 → ((0 ≤ w32 (w32 (6 * m141 67 9) + 1) ∧ w32 (w32 (6 * m141 67 9) + 1) < 72) ∧ (∀ m156 : Mem, m156 = mset m141 74 (w32 (w32 (6 * m141 67 9) + 1)) v2 → ((0 ≤ w32 (w32 (6 * m156 67 9) + 2) ∧ w32 (w32 (6 * m156 67 9) + 2) < 72) ∧ (∀ m171 : Mem, m171 = mset m156 74 (w32 (w32 (6 * m156 67 9) + 2)) v3 → ((0 ≤ w32 (w32 (6 * m171 67 9) + 3) ∧ w32 (w32 (6 * m171 67 9) + 3) < 72) ∧ (∀ m187 : Mem, m187 = mset m171 74 (w32 (w32 (6 * m171 67 9) + 3)) v4 → ((0 ≤ w32 (w32 (6 * m187 67 9) + 4) ∧ w32 (w32 (6 * m187 67 9) + 4) < 72) ∧ (∀ m203 : Mem, m203 = mset m187 74 (w32 (w32 (6 * m187 67 9) + 4)) v5 → ((0 ≤ w32 (w32 (6 * m203 67 9) + 5) ∧ w32 (w32 (6 * m203 67 9) + 5) < 72) ∧ (∀ m219 : Mem, m219 = mset m203 74 (w32 (w32 (6 * m203 67 9) + 5)) v6 → (∃ n_4 : Nat, wp_X11_train_223 (fun v8_1 m_1 => ∃ n_3 : Nat, wp_X11_train_253 (fun m_2 => ∀ m287 : Mem, m287 = mset m_2 67 9 (w32 (m_2 67 9 + 1)) → (post (w32 (m287 67 9 - 1)) m287)) post n_3 v8_1 m_1) post n_4 0 m219)))))))))))))) ∧
  (m108 67 9 = 12 → (post (-104) m108))))) ∧
  (r108 = 0 → (post (-102) m108))))))))))))))))
set_option maxRecDepth 100000 in
theorem pf_X11_train_71 {l : Launch} {x : WX} {G : GT} {post : Int → Mem → Prop}  (X : Ax l x cX11_train RX11 9 (rmd 2) 106 G) (hr : RI cX11_train post G) (v1 : Int) (v2 : Int) (v3 : Int) (v4 : Int) (v5 : Int) (v6 : Int) (m : Mem) (h : wp_X11_train_71 v1 v2 v3 v4 v5 v6 m  post) : G 71 [(0, (2, 67)), (1, (0, v1)), (2, (0, v2)), (3, (0, v3)), (4, (0, v4)), (5, (0, v5)), (6, (0, v6))] [] m := by
  unfold wp_X11_train_71 at h
  refine g_iload_n 3 (i := 3) X dX11_train_71 rfl rfl ?_
  refine g_iconst X dX11_train_72 (by decide) ?_
  refine g_bipush X dX11_train_73 (by decide) ?_
  refine g_cSI (st := []) X dX11_train_75 YX11_in lX11_134 (by decide) (im_X11_in l x _ _ _ _ _ h) rfl ⟨by decide, by decide⟩ rfl (Nat.le_of_ble_eq_true rfl) (fun r75 m75 h => ?_)
  refine g_if_eq X dX11_train_78 (tgt := 114) (by decide) (fun hc => ?_) (fun hc => ?_)
  · have h := h.1 hc
    refine g_bipush X dX11_train_114 (by decide) ?_
    exact hr _ _ _ _ _ dX11_train_116 h
  · have h := h.2 hc
    refine g_iload 4 (i := 4) X dX11_train_81 rfl ?_
    refine g_iconst X dX11_train_83 (by decide) ?_
    refine g_bipush X dX11_train_84 (by decide) ?_
    refine g_cSI (st := []) X dX11_train_86 YX11_in lX11_134 (by decide) (im_X11_in l x _ _ _ _ _ h) rfl ⟨by decide, by decide⟩ rfl (Nat.le_of_ble_eq_true rfl) (fun r86 m86 h => ?_)
    refine g_if_eq X dX11_train_89 (tgt := 114) (by decide) (fun hc => ?_) (fun hc => ?_)
    · have h := h.1 hc
      refine g_bipush X dX11_train_114 (by decide) ?_
      exact hr _ _ _ _ _ dX11_train_116 h
    · have h := h.2 hc
      refine g_iload 5 (i := 5) X dX11_train_92 rfl ?_
      refine g_iconst X dX11_train_94 (by decide) ?_
      refine g_bipush X dX11_train_95 (by decide) ?_
      refine g_cSI (st := []) X dX11_train_97 YX11_in lX11_134 (by decide) (im_X11_in l x _ _ _ _ _ h) rfl ⟨by decide, by decide⟩ rfl (Nat.le_of_ble_eq_true rfl) (fun r97 m97 h => ?_)
      refine g_if_eq X dX11_train_100 (tgt := 114) (by decide) (fun hc => ?_) (fun hc => ?_)
      · have h := h.1 hc
        refine g_bipush X dX11_train_114 (by decide) ?_
        exact hr _ _ _ _ _ dX11_train_116 h
      · have h := h.2 hc
        refine g_iload 6 (i := 6) X dX11_train_103 rfl ?_
        refine g_iconst X dX11_train_105 (by decide) ?_
        refine g_bipush X dX11_train_106 (by decide) ?_
        refine g_cSI (st := []) X dX11_train_108 YX11_in lX11_134 (by decide) (im_X11_in l x _ _ _ _ _ h) rfl ⟨by decide, by decide⟩ rfl (Nat.le_of_ble_eq_true rfl) (fun r108 m108 h => ?_)
        refine g_if_ne X dX11_train_111 (tgt := 117) (by decide) (fun hc => ?_) (fun hc => ?_)
        · have h := h.1 hc
          refine g_aload_n 0 (i := 0) X dX11_train_117 rfl rfl ?_
          refine g_getI X dX11_train_118 fX11_144 ?_
          refine g_bipush X dX11_train_121 (by decide) ?_
          refine g_icmp_ne X dX11_train_123 (tgt := 129) (by decide) (fun hc => ?_) (fun hc => ?_)
          · have h := h.1 hc
            refine g_aload_n 0 (i := 0) X dX11_train_129 rfl rfl ?_
            refine g_getR X dX11_train_130 fX11_29 ?_
            refine g_bipush X dX11_train_133 (by decide) ?_
            refine g_aload_n 0 (i := 0) X dX11_train_135 rfl rfl ?_
            refine g_getI X dX11_train_136 fX11_144 ?_
            refine g_imul X dX11_train_139 ?_
            refine g_iload_n 1 (i := 1) X dX11_train_140 rfl rfl ?_
            obtain ⟨hi, h⟩ := h
            refine g_iast X dX11_train_141 rfl hi (fun m141 em141 => ?_)
            have h := h m141 em141
            refine g_aload_n 0 (i := 0) X dX11_train_142 rfl rfl ?_
            refine g_getR X dX11_train_143 fX11_29 ?_
            refine g_bipush X dX11_train_146 (by decide) ?_
            refine g_aload_n 0 (i := 0) X dX11_train_148 rfl rfl ?_
            refine g_getI X dX11_train_149 fX11_144 ?_
            refine g_imul X dX11_train_152 ?_
            refine g_iconst X dX11_train_153 (by decide) ?_
            refine g_iadd X dX11_train_154 ?_
            refine g_iload_n 2 (i := 2) X dX11_train_155 rfl rfl ?_
            obtain ⟨hi, h⟩ := h
            refine g_iast X dX11_train_156 rfl hi (fun m156 em156 => ?_)
            have h := h m156 em156
            refine g_aload_n 0 (i := 0) X dX11_train_157 rfl rfl ?_
            refine g_getR X dX11_train_158 fX11_29 ?_
            refine g_bipush X dX11_train_161 (by decide) ?_
            refine g_aload_n 0 (i := 0) X dX11_train_163 rfl rfl ?_
            refine g_getI X dX11_train_164 fX11_144 ?_
            refine g_imul X dX11_train_167 ?_
            refine g_iconst X dX11_train_168 (by decide) ?_
            refine g_iadd X dX11_train_169 ?_
            refine g_iload_n 3 (i := 3) X dX11_train_170 rfl rfl ?_
            obtain ⟨hi, h⟩ := h
            refine g_iast X dX11_train_171 rfl hi (fun m171 em171 => ?_)
            have h := h m171 em171
            refine g_aload_n 0 (i := 0) X dX11_train_172 rfl rfl ?_
            refine g_getR X dX11_train_173 fX11_29 ?_
            refine g_bipush X dX11_train_176 (by decide) ?_
            refine g_aload_n 0 (i := 0) X dX11_train_178 rfl rfl ?_
            refine g_getI X dX11_train_179 fX11_144 ?_
            refine g_imul X dX11_train_182 ?_
            refine g_iconst X dX11_train_183 (by decide) ?_
            refine g_iadd X dX11_train_184 ?_
            refine g_iload 4 (i := 4) X dX11_train_185 rfl ?_
            obtain ⟨hi, h⟩ := h
            refine g_iast X dX11_train_187 rfl hi (fun m187 em187 => ?_)
            have h := h m187 em187
            refine g_aload_n 0 (i := 0) X dX11_train_188 rfl rfl ?_
            refine g_getR X dX11_train_189 fX11_29 ?_
            refine g_bipush X dX11_train_192 (by decide) ?_
            refine g_aload_n 0 (i := 0) X dX11_train_194 rfl rfl ?_
            refine g_getI X dX11_train_195 fX11_144 ?_
            refine g_imul X dX11_train_198 ?_
            refine g_iconst X dX11_train_199 (by decide) ?_
            refine g_iadd X dX11_train_200 ?_
            refine g_iload 5 (i := 5) X dX11_train_201 rfl ?_
            obtain ⟨hi, h⟩ := h
            refine g_iast X dX11_train_203 rfl hi (fun m203 em203 => ?_)
            have h := h m203 em203
            refine g_aload_n 0 (i := 0) X dX11_train_204 rfl rfl ?_
            refine g_getR X dX11_train_205 fX11_29 ?_
            refine g_bipush X dX11_train_208 (by decide) ?_
            refine g_aload_n 0 (i := 0) X dX11_train_210 rfl rfl ?_
            refine g_getI X dX11_train_211 fX11_144 ?_
            refine g_imul X dX11_train_214 ?_
            refine g_iconst X dX11_train_215 (by decide) ?_
            refine g_iadd X dX11_train_216 ?_
            refine g_iload 6 (i := 6) X dX11_train_217 rfl ?_
            obtain ⟨hi, h⟩ := h
            refine g_iast X dX11_train_219 rfl hi (fun m219 em219 => ?_)
            have h := h m219 em219
            refine g_iconst X dX11_train_220 (by decide) ?_
            refine g_istore (i := 8) (lv' := [(8, (0, 0)), (0, (2, 67)), (1, (0, v1)), (2, (0, v2)), (3, (0, v3)), (4, (0, v4)), (5, (0, v5)), (6, (0, v6))]) X dX11_train_221 (by decide) rfl ?_
            obtain ⟨n_4, h⟩ := h
            refine g_sub X [1, 0] rfl (pf_X11_train_223 X hr (fun v8_1 m_1 h => ?_) n_4 _ _ h)
            · obtain ⟨n_3, h⟩ := h
              refine g_sub X [0, 1] rfl (pf_X11_train_253 X hr (fun m_2 h => ?_) n_3 _ _ h)
              · refine g_aload_n 0 (i := 0) X dX11_train_280 rfl rfl ?_
                refine g_dup X dX11_train_281 rfl ?_
                refine g_getI X dX11_train_282 fX11_144 ?_
                refine g_iconst X dX11_train_285 (by decide) ?_
                refine g_iadd X dX11_train_286 ?_
                refine g_putI X dX11_train_287 pX11_144 (fun m287 em287 => ?_)
                have h := h m287 em287
                refine g_aload_n 0 (i := 0) X dX11_train_290 rfl rfl ?_
                refine g_getI X dX11_train_291 fX11_144 ?_
                refine g_iconst X dX11_train_294 (by decide) ?_
                refine g_isub X dX11_train_295 ?_
                exact hr _ _ _ _ _ dX11_train_296 h
          · have h := h.2 hc
            refine g_bipush X dX11_train_126 (by decide) ?_
            exact hr _ _ _ _ _ dX11_train_128 h
        · have h := h.2 hc
          refine g_bipush X dX11_train_114 (by decide) ?_
          exact hr _ _ _ _ _ dX11_train_116 h
def wp_X11_train_26 (v1 : Int) (v2 : Int) (v3 : Int) (v4 : Int) (v5 : Int) (v6 : Int) (s0 : Int) (m : Mem)  (post : Int → Mem → Prop) : Prop :=
  ((s0 = 0 → (post (-101) m)) ∧
  (¬ s0 = 0 → (((v2 = (-1) → (wp_X11_train_71 v1 v2 v3 v4 v5 v6 m  post)) ∧
  (¬ v2 = (-1) → ((0 ≤ v2 ∧ v2 < 20) ∧ ((0 ≤ v1 ∧ v1 < 20) ∧ (((¬ m 70 v2 = m 70 v1 → (post (-101) m)) ∧
  (m 70 v2 = m 70 v1 → ((0 ≤ v2 ∧ v2 < 20) ∧ ((0 ≤ v1 ∧ v1 < 20) ∧ (((m 71 v2 = m 71 v1 → (wp_X11_train_71 v1 v2 v3 v4 v5 v6 m  post)) ∧
  (¬ m 71 v2 = m 71 v1 → (post (-101) m))))))))))))))))
set_option maxRecDepth 100000 in
theorem pf_X11_train_26 {l : Launch} {x : WX} {G : GT} {post : Int → Mem → Prop}  (X : Ax l x cX11_train RX11 9 (rmd 2) 106 G) (hr : RI cX11_train post G) (v1 : Int) (v2 : Int) (v3 : Int) (v4 : Int) (v5 : Int) (v6 : Int) (s0 : Int) (m : Mem) (h : wp_X11_train_26 v1 v2 v3 v4 v5 v6 s0 m  post) : G 26 [(0, (2, 67)), (1, (0, v1)), (2, (0, v2)), (3, (0, v3)), (4, (0, v4)), (5, (0, v5)), (6, (0, v6))] [(0, s0)] m := by
  unfold wp_X11_train_26 at h
  refine g_istore (i := 7) (lv' := [(7, (0, s0)), (0, (2, 67)), (1, (0, v1)), (2, (0, v2)), (3, (0, v3)), (4, (0, v4)), (5, (0, v5)), (6, (0, v6))]) X dX11_train_26 (by decide) rfl ?_
  refine g_iload 0 (i := 7) X dX11_train_28 rfl ?_
  refine g_if_eq X dX11_train_30 (tgt := 68) (by decide) (fun hc => ?_) (fun hc => ?_)
  · have h := h.1 hc
    refine g_bipush X dX11_train_68 (by decide) ?_
    exact hr _ _ _ _ _ dX11_train_70 h
  · have h := h.2 hc
    refine g_iload_n 3 (i := 2) X dX11_train_33 rfl rfl ?_
    refine g_iconst X dX11_train_34 (by decide) ?_
    refine g_icmp_eq X dX11_train_35 (tgt := 71) (by decide) (fun hc => ?_) (fun hc => ?_)
    · have h := h.1 hc
      refine g_sub X [1, 2, 3, 4, 5, 6, 7] rfl (pf_X11_train_71 X hr  _ _ _ _ _ _ _ h)
    · have h := h.2 hc
      refine g_aload_n 1 (i := 0) X dX11_train_38 rfl rfl ?_
      refine g_getR X dX11_train_39 fX11_17 ?_
      refine g_iload_n 3 (i := 2) X dX11_train_42 rfl rfl ?_
      obtain ⟨hi, h⟩ := h
      refine g_iald X dX11_train_43 rfl hi ?_
      refine g_aload_n 1 (i := 0) X dX11_train_44 rfl rfl ?_
      refine g_getR X dX11_train_45 fX11_17 ?_
      refine g_iload_n 2 (i := 1) X dX11_train_48 rfl rfl ?_
      obtain ⟨hi, h⟩ := h
      refine g_iald X dX11_train_49 rfl hi ?_
      refine g_icmp_ne X dX11_train_50 (tgt := 68) (by decide) (fun hc => ?_) (fun hc => ?_)
      · have h := h.1 hc
        refine g_bipush X dX11_train_68 (by decide) ?_
        exact hr _ _ _ _ _ dX11_train_70 h
      · have h := h.2 hc
        refine g_aload_n 1 (i := 0) X dX11_train_53 rfl rfl ?_
        refine g_getR X dX11_train_54 fX11_20 ?_
        refine g_iload_n 3 (i := 2) X dX11_train_57 rfl rfl ?_
        obtain ⟨hi, h⟩ := h
        refine g_iald X dX11_train_58 rfl hi ?_
        refine g_aload_n 1 (i := 0) X dX11_train_59 rfl rfl ?_
        refine g_getR X dX11_train_60 fX11_20 ?_
        refine g_iload_n 2 (i := 1) X dX11_train_63 rfl rfl ?_
        obtain ⟨hi, h⟩ := h
        refine g_iald X dX11_train_64 rfl hi ?_
        refine g_icmp_eq X dX11_train_65 (tgt := 71) (by decide) (fun hc => ?_) (fun hc => ?_)
        · have h := h.1 hc
          refine g_sub X [1, 2, 3, 4, 5, 6, 7] rfl (pf_X11_train_71 X hr  _ _ _ _ _ _ _ h)
        · have h := h.2 hc
          refine g_bipush X dX11_train_68 (by decide) ?_
          exact hr _ _ _ _ _ dX11_train_70 h
def wp_X11_train_25 (v1 : Int) (v2 : Int) (v3 : Int) (v4 : Int) (v5 : Int) (v6 : Int) (m : Mem)  (post : Int → Mem → Prop) : Prop :=
  wp_X11_train_26 v1 v2 v3 v4 v5 v6 0 m  post
set_option maxRecDepth 100000 in
theorem pf_X11_train_25 {l : Launch} {x : WX} {G : GT} {post : Int → Mem → Prop}  (X : Ax l x cX11_train RX11 9 (rmd 2) 106 G) (hr : RI cX11_train post G) (v1 : Int) (v2 : Int) (v3 : Int) (v4 : Int) (v5 : Int) (v6 : Int) (m : Mem) (h : wp_X11_train_25 v1 v2 v3 v4 v5 v6 m  post) : G 25 [(0, (2, 67)), (1, (0, v1)), (2, (0, v2)), (3, (0, v3)), (4, (0, v4)), (5, (0, v5)), (6, (0, v6))] [] m := by
  unfold wp_X11_train_25 at h
  refine g_iconst X dX11_train_25 (by decide) ?_
  refine g_sub X [0, 1, 2, 3, 4, 5, 6] rfl (pf_X11_train_26 X hr  _ _ _ _ _ _ _ _ h)
def wp_X11_train_21 (v1 : Int) (v2 : Int) (v3 : Int) (v4 : Int) (v5 : Int) (v6 : Int) (m : Mem)  (post : Int → Mem → Prop) : Prop :=
  wp_X11_train_26 v1 v2 v3 v4 v5 v6 1 m  post
set_option maxRecDepth 100000 in
theorem pf_X11_train_21 {l : Launch} {x : WX} {G : GT} {post : Int → Mem → Prop}  (X : Ax l x cX11_train RX11 9 (rmd 2) 106 G) (hr : RI cX11_train post G) (v1 : Int) (v2 : Int) (v3 : Int) (v4 : Int) (v5 : Int) (v6 : Int) (m : Mem) (h : wp_X11_train_21 v1 v2 v3 v4 v5 v6 m  post) : G 21 [(0, (2, 67)), (1, (0, v1)), (2, (0, v2)), (3, (0, v3)), (4, (0, v4)), (5, (0, v5)), (6, (0, v6))] [] m := by
  unfold wp_X11_train_21 at h
  refine g_iconst X dX11_train_21 (by decide) ?_
  refine g_goto X dX11_train_22 (tgt := 26) (by decide) ?_
  refine g_sub X [0, 1, 2, 3, 4, 5, 6] rfl (pf_X11_train_26 X hr  _ _ _ _ _ _ _ _ h)
def wp_X11_train (v1 : Int) (v2 : Int) (v3 : Int) (v4 : Int) (v5 : Int) (v6 : Int) (m : Mem) (post : Int → Mem → Prop) : Prop :=
  wp_X11_isBlock v1 m (fun r2 m2 => ((r2 = 0 → (wp_X11_train_25 v1 v2 v3 v4 v5 v6 m2  post)) ∧
  (¬ r2 = 0 → (((v2 = (-1) → (wp_X11_train_21 v1 v2 v3 v4 v5 v6 m2  post)) ∧
  (¬ v2 = (-1) → (wp_X11_isBlock v2 m2 (fun r15 m15 => ((r15 = 0 → (wp_X11_train_25 v1 v2 v3 v4 v5 v6 m15  post)) ∧
  (¬ r15 = 0 → (wp_X11_train_21 v1 v2 v3 v4 v5 v6 m15  post)))))))))))
set_option maxRecDepth 100000 in
theorem pf_X11_train {l : Launch} {x : WX} {G : GT} {post : Int → Mem → Prop} (X : Ax l x cX11_train RX11 9 (rmd 2) 106 G) (hr : RI cX11_train post G) (v1 : Int) (v2 : Int) (v3 : Int) (v4 : Int) (v5 : Int) (v6 : Int) (m : Mem) (h : wp_X11_train v1 v2 v3 v4 v5 v6 m post) : G 0 [(0, (2, 67)), (1, (0, v1)), (2, (0, v2)), (3, (0, v3)), (4, (0, v4)), (5, (0, v5)), (6, (0, v6))] [] m := by
  unfold wp_X11_train at h
  refine g_aload_n 0 (i := 0) X dX11_train_0 rfl rfl ?_
  refine g_iload_n 1 (i := 1) X dX11_train_1 rfl rfl ?_
  refine g_cVI (st := []) X dX11_train_2 YX11_isBlock lX11_211 (by decide) (im_X11_isBlock l x _ _ _ h) rfl ⟨by decide, by decide⟩ rfl (Nat.le_of_ble_eq_true rfl) (fun r2 m2 h => ?_)
  refine g_if_eq X dX11_train_5 (tgt := 25) (by decide) (fun hc => ?_) (fun hc => ?_)
  · have h := h.1 hc
    refine g_sub X [0, 1, 2, 3, 4, 5, 6] rfl (pf_X11_train_25 X hr  _ _ _ _ _ _ _ h)
  · have h := h.2 hc
    refine g_iload_n 2 (i := 2) X dX11_train_8 rfl rfl ?_
    refine g_iconst X dX11_train_9 (by decide) ?_
    refine g_icmp_eq X dX11_train_10 (tgt := 21) (by decide) (fun hc => ?_) (fun hc => ?_)
    · have h := h.1 hc
      refine g_sub X [0, 1, 2, 3, 4, 5, 6] rfl (pf_X11_train_21 X hr  _ _ _ _ _ _ _ h)
    · have h := h.2 hc
      refine g_aload_n 0 (i := 0) X dX11_train_13 rfl rfl ?_
      refine g_iload_n 2 (i := 2) X dX11_train_14 rfl rfl ?_
      refine g_cVI (st := []) X dX11_train_15 YX11_isBlock lX11_211 (by decide) (im_X11_isBlock l x _ _ _ h) rfl ⟨by decide, by decide⟩ rfl (Nat.le_of_ble_eq_true rfl) (fun r15 m15 h => ?_)
      refine g_if_eq X dX11_train_18 (tgt := 25) (by decide) (fun hc => ?_) (fun hc => ?_)
      · have h := h.1 hc
        refine g_sub X [0, 1, 2, 3, 4, 5, 6] rfl (pf_X11_train_25 X hr  _ _ _ _ _ _ _ h)
      · have h := h.2 hc
        refine g_sub X [0, 1, 2, 3, 4, 5, 6] rfl (pf_X11_train_21 X hr  _ _ _ _ _ _ _ h)
theorem im_X11_train (l : Launch) (x : WX) (v1 : Int) (v2 : Int) (v3 : Int) (v4 : Int) (v5 : Int) (v6 : Int) (m : Mem) (post : Int → Mem → Prop) (h : wp_X11_train v1 v2 v3 v4 v5 v6 m post) : MetI l x 106 2 yX11_train cX11_train 9 .int [(2, 67), (0, v1), (0, v2), (0, v3), (0, v4), (0, v5), (0, v6)] m post := met_I (by decide) (Nat.le_of_ble_eq_true rfl) (fun _ X hr => pf_X11_train X hr v1 v2 v3 v4 v5 v6 m h)
def wp_X11_wagon (v1 : Int) (v2 : Int) (m : Mem) (post : Int → Mem → Prop) : Prop :=
  wp_X11_isYard v1 m (fun r2 m2 => ((r2 = 0 → (post (-101) m2)) ∧
  (¬ r2 = 0 → (wp_X11_isYard v2 m2 (fun r10 m10 => ((r10 = 0 → (post (-101) m10)) ∧
  (¬ r10 = 0 → (((¬ v1 = v2 → (((¬ m10 67 13 = 30 → ((0 ≤ w32 (6 * m10 67 13) ∧ w32 (6 * m10 67 13) < 180) ∧ (∀ m48 : Mem, m48 = mset m10 77 (w32 (6 * m10 67 13)) v1 → ((0 ≤ w32 (w32 (6 * m48 67 13) + 1) ∧ w32 (w32 (6 * m48 67 13) + 1) < 180) ∧ (∀ m63 : Mem, m63 = mset m48 77 (w32 (w32 (6 * m48 67 13) + 1)) (-1) → ((0 ≤ w32 (w32 (6 * m63 67 13) + 2) ∧ w32 (w32 (6 * m63 67 13) + 2) < 180) ∧ (∀ m81 : Mem, m81 = mset m63 77 (w32 (w32 (6 * m63 67 13) + 2)) (m63 67 18) → ((0 ≤ w32 (w32 (6 * m81 67 13) + 3) ∧ w32 (w32 (6 * m81 67 13) + 3) < 180) ∧ (∀ m96 : Mem, m96 = mset m81 77 (w32 (w32 (6 * m81 67 13) + 3)) 0 → ((0 ≤ w32 (w32 (6 * m96 67 13) + 4) ∧ w32 (w32 (6 * m96 67 13) + 4) < 180) ∧ (∀ m111 : Mem, m111 = mset m96 77 (w32 (w32 (6 * m96 67 13) + 4)) 0 → ((0 ≤ w32 (w32 (6 * m111 67 13) + 5) ∧ w32 (w32 (6 * m111 67 13) + 5) < 180) ∧ (∀ m126 : Mem, m126 = mset m111 77 (w32 (w32 (6 * m111 67 13) + 5)) v2 → (∀ m134 : Mem, m134 = mset m126 67 13 (w32 (m126 67 13 + 1)) → (post (w32 (m134 67 13 - 1)) m134))))))))))))))) ∧
  (m10 67 13 = 30 → (post (-104) m10))))) ∧
  (v1 = v2 → (post (-101) m10)))))))))))
set_option maxRecDepth 100000 in
theorem pf_X11_wagon {l : Launch} {x : WX} {G : GT} {post : Int → Mem → Prop} (X : Ax l x cX11_wagon RX11 3 (rmd 2) 106 G) (hr : RI cX11_wagon post G) (v1 : Int) (v2 : Int) (m : Mem) (h : wp_X11_wagon v1 v2 m post) : G 0 [(0, (2, 67)), (1, (0, v1)), (2, (0, v2))] [] m := by
  unfold wp_X11_wagon at h
  refine g_aload_n 0 (i := 0) X dX11_wagon_0 rfl rfl ?_
  refine g_iload_n 1 (i := 1) X dX11_wagon_1 rfl rfl ?_
  refine g_cVI (st := []) X dX11_wagon_2 YX11_isYard lX11_174 (by decide) (im_X11_isYard l x _ _ _ h) rfl ⟨by decide, by decide⟩ rfl (Nat.le_of_ble_eq_true rfl) (fun r2 m2 h => ?_)
  refine g_if_eq X dX11_wagon_5 (tgt := 21) (by decide) (fun hc => ?_) (fun hc => ?_)
  · have h := h.1 hc
    refine g_bipush X dX11_wagon_21 (by decide) ?_
    exact hr _ _ _ _ _ dX11_wagon_23 h
  · have h := h.2 hc
    refine g_aload_n 0 (i := 0) X dX11_wagon_8 rfl rfl ?_
    refine g_iload_n 2 (i := 2) X dX11_wagon_9 rfl rfl ?_
    refine g_cVI (st := []) X dX11_wagon_10 YX11_isYard lX11_174 (by decide) (im_X11_isYard l x _ _ _ h) rfl ⟨by decide, by decide⟩ rfl (Nat.le_of_ble_eq_true rfl) (fun r10 m10 h => ?_)
    refine g_if_eq X dX11_wagon_13 (tgt := 21) (by decide) (fun hc => ?_) (fun hc => ?_)
    · have h := h.1 hc
      refine g_bipush X dX11_wagon_21 (by decide) ?_
      exact hr _ _ _ _ _ dX11_wagon_23 h
    · have h := h.2 hc
      refine g_iload_n 1 (i := 1) X dX11_wagon_16 rfl rfl ?_
      refine g_iload_n 2 (i := 2) X dX11_wagon_17 rfl rfl ?_
      refine g_icmp_ne X dX11_wagon_18 (tgt := 24) (by decide) (fun hc => ?_) (fun hc => ?_)
      · have h := h.1 hc
        refine g_aload_n 0 (i := 0) X dX11_wagon_24 rfl rfl ?_
        refine g_getI X dX11_wagon_25 fX11_147 ?_
        refine g_bipush X dX11_wagon_28 (by decide) ?_
        refine g_icmp_ne X dX11_wagon_30 (tgt := 36) (by decide) (fun hc => ?_) (fun hc => ?_)
        · have h := h.1 hc
          refine g_aload_n 0 (i := 0) X dX11_wagon_36 rfl rfl ?_
          refine g_getR X dX11_wagon_37 fX11_38 ?_
          refine g_bipush X dX11_wagon_40 (by decide) ?_
          refine g_aload_n 0 (i := 0) X dX11_wagon_42 rfl rfl ?_
          refine g_getI X dX11_wagon_43 fX11_147 ?_
          refine g_imul X dX11_wagon_46 ?_
          refine g_iload_n 1 (i := 1) X dX11_wagon_47 rfl rfl ?_
          obtain ⟨hi, h⟩ := h
          refine g_iast X dX11_wagon_48 rfl hi (fun m48 em48 => ?_)
          have h := h m48 em48
          refine g_aload_n 0 (i := 0) X dX11_wagon_49 rfl rfl ?_
          refine g_getR X dX11_wagon_50 fX11_38 ?_
          refine g_bipush X dX11_wagon_53 (by decide) ?_
          refine g_aload_n 0 (i := 0) X dX11_wagon_55 rfl rfl ?_
          refine g_getI X dX11_wagon_56 fX11_147 ?_
          refine g_imul X dX11_wagon_59 ?_
          refine g_iconst X dX11_wagon_60 (by decide) ?_
          refine g_iadd X dX11_wagon_61 ?_
          refine g_iconst X dX11_wagon_62 (by decide) ?_
          obtain ⟨hi, h⟩ := h
          refine g_iast X dX11_wagon_63 rfl hi (fun m63 em63 => ?_)
          have h := h m63 em63
          refine g_aload_n 0 (i := 0) X dX11_wagon_64 rfl rfl ?_
          refine g_getR X dX11_wagon_65 fX11_38 ?_
          refine g_bipush X dX11_wagon_68 (by decide) ?_
          refine g_aload_n 0 (i := 0) X dX11_wagon_70 rfl rfl ?_
          refine g_getI X dX11_wagon_71 fX11_147 ?_
          refine g_imul X dX11_wagon_74 ?_
          refine g_iconst X dX11_wagon_75 (by decide) ?_
          refine g_iadd X dX11_wagon_76 ?_
          refine g_aload_n 0 (i := 0) X dX11_wagon_77 rfl rfl ?_
          refine g_getI X dX11_wagon_78 fX11_153 ?_
          obtain ⟨hi, h⟩ := h
          refine g_iast X dX11_wagon_81 rfl hi (fun m81 em81 => ?_)
          have h := h m81 em81
          refine g_aload_n 0 (i := 0) X dX11_wagon_82 rfl rfl ?_
          refine g_getR X dX11_wagon_83 fX11_38 ?_
          refine g_bipush X dX11_wagon_86 (by decide) ?_
          refine g_aload_n 0 (i := 0) X dX11_wagon_88 rfl rfl ?_
          refine g_getI X dX11_wagon_89 fX11_147 ?_
          refine g_imul X dX11_wagon_92 ?_
          refine g_iconst X dX11_wagon_93 (by decide) ?_
          refine g_iadd X dX11_wagon_94 ?_
          refine g_iconst X dX11_wagon_95 (by decide) ?_
          obtain ⟨hi, h⟩ := h
          refine g_iast X dX11_wagon_96 rfl hi (fun m96 em96 => ?_)
          have h := h m96 em96
          refine g_aload_n 0 (i := 0) X dX11_wagon_97 rfl rfl ?_
          refine g_getR X dX11_wagon_98 fX11_38 ?_
          refine g_bipush X dX11_wagon_101 (by decide) ?_
          refine g_aload_n 0 (i := 0) X dX11_wagon_103 rfl rfl ?_
          refine g_getI X dX11_wagon_104 fX11_147 ?_
          refine g_imul X dX11_wagon_107 ?_
          refine g_iconst X dX11_wagon_108 (by decide) ?_
          refine g_iadd X dX11_wagon_109 ?_
          refine g_iconst X dX11_wagon_110 (by decide) ?_
          obtain ⟨hi, h⟩ := h
          refine g_iast X dX11_wagon_111 rfl hi (fun m111 em111 => ?_)
          have h := h m111 em111
          refine g_aload_n 0 (i := 0) X dX11_wagon_112 rfl rfl ?_
          refine g_getR X dX11_wagon_113 fX11_38 ?_
          refine g_bipush X dX11_wagon_116 (by decide) ?_
          refine g_aload_n 0 (i := 0) X dX11_wagon_118 rfl rfl ?_
          refine g_getI X dX11_wagon_119 fX11_147 ?_
          refine g_imul X dX11_wagon_122 ?_
          refine g_iconst X dX11_wagon_123 (by decide) ?_
          refine g_iadd X dX11_wagon_124 ?_
          refine g_iload_n 2 (i := 2) X dX11_wagon_125 rfl rfl ?_
          obtain ⟨hi, h⟩ := h
          refine g_iast X dX11_wagon_126 rfl hi (fun m126 em126 => ?_)
          have h := h m126 em126
          refine g_aload_n 0 (i := 0) X dX11_wagon_127 rfl rfl ?_
          refine g_dup X dX11_wagon_128 rfl ?_
          refine g_getI X dX11_wagon_129 fX11_147 ?_
          refine g_iconst X dX11_wagon_132 (by decide) ?_
          refine g_iadd X dX11_wagon_133 ?_
          refine g_putI X dX11_wagon_134 pX11_147 (fun m134 em134 => ?_)
          have h := h m134 em134
          refine g_aload_n 0 (i := 0) X dX11_wagon_137 rfl rfl ?_
          refine g_getI X dX11_wagon_138 fX11_147 ?_
          refine g_iconst X dX11_wagon_141 (by decide) ?_
          refine g_isub X dX11_wagon_142 ?_
          exact hr _ _ _ _ _ dX11_wagon_143 h
        · have h := h.2 hc
          refine g_bipush X dX11_wagon_33 (by decide) ?_
          exact hr _ _ _ _ _ dX11_wagon_35 h
      · have h := h.2 hc
        refine g_bipush X dX11_wagon_21 (by decide) ?_
        exact hr _ _ _ _ _ dX11_wagon_23 h
theorem im_X11_wagon (l : Launch) (x : WX) (v1 : Int) (v2 : Int) (m : Mem) (post : Int → Mem → Prop) (h : wp_X11_wagon v1 v2 m post) : MetI l x 106 2 yX11_wagon cX11_wagon 3 .int [(2, 67), (0, v1), (0, v2)] m post := met_I (by decide) (Nat.le_of_ble_eq_true rfl) (fun _ X hr => pf_X11_wagon X hr v1 v2 m h)
def wp_X11_sorting (v1 : Int) (m : Mem) (post : Int → Mem → Prop) : Prop :=
  wp_X11_in v1 0 12 m (fun r4 m4 => ((¬ r4 = 0 → (∀ v2_17 : Int, v2_17 = m4 67 15 → (∀ m20 : Mem, m20 = mset m4 67 15 v1 → (post v2_17 m20)))) ∧
  (r4 = 0 → (post (-102) m4))))
set_option maxRecDepth 100000 in
theorem pf_X11_sorting {l : Launch} {x : WX} {G : GT} {post : Int → Mem → Prop} (X : Ax l x cX11_sorting RX11 3 (rmd 1) 106 G) (hr : RI cX11_sorting post G) (v1 : Int) (m : Mem) (h : wp_X11_sorting v1 m post) : G 0 [(0, (2, 67)), (1, (0, v1))] [] m := by
  unfold wp_X11_sorting at h
  refine g_iload_n 1 (i := 1) X dX11_sorting_0 rfl rfl ?_
  refine g_iconst X dX11_sorting_1 (by decide) ?_
  refine g_bipush X dX11_sorting_2 (by decide) ?_
  refine g_cSI (st := []) X dX11_sorting_4 YX11_in lX11_134 (by decide) (im_X11_in l x _ _ _ _ _ h) rfl ⟨by decide, by decide⟩ rfl (Nat.le_of_ble_eq_true rfl) (fun r4 m4 h => ?_)
  refine g_if_ne X dX11_sorting_7 (tgt := 13) (by decide) (fun hc => ?_) (fun hc => ?_)
  · have h := h.1 hc
    refine g_aload_n 0 (i := 0) X dX11_sorting_13 rfl rfl ?_
    refine g_getI X dX11_sorting_14 fX11_150 ?_
    refine g_nmI (fun v2_17 ev2_17 => ?_)
    have h := h v2_17 ev2_17
    refine g_istore_n (i := 2) (lv' := [(2, (0, v2_17)), (0, (2, 67)), (1, (0, v1))]) X dX11_sorting_17 rfl (by decide) rfl ?_
    refine g_aload_n 1 (i := 0) X dX11_sorting_18 rfl rfl ?_
    refine g_iload_n 2 (i := 1) X dX11_sorting_19 rfl rfl ?_
    refine g_putI X dX11_sorting_20 pX11_150 (fun m20 em20 => ?_)
    have h := h m20 em20
    refine g_iload_n 0 (i := 2) X dX11_sorting_23 rfl rfl ?_
    exact hr _ _ _ _ _ dX11_sorting_24 h
  · have h := h.2 hc
    refine g_bipush X dX11_sorting_10 (by decide) ?_
    exact hr _ _ _ _ _ dX11_sorting_12 h
theorem im_X11_sorting (l : Launch) (x : WX) (v1 : Int) (m : Mem) (post : Int → Mem → Prop) (h : wp_X11_sorting v1 m post) : MetI l x 106 1 yX11_sorting cX11_sorting 3 .int [(2, 67), (0, v1)] m post := met_I (by decide) (Nat.le_of_ble_eq_true rfl) (fun _ X hr => pf_X11_sorting X hr v1 m h)
def wp_X11_close_56 (v1 : Int) (v2 : Int) (v3 : Int) (m : Mem)  (post : Int → Mem → Prop) : Prop :=
  (0 ≤ v1 ∧ v1 < 8) ∧ (∀ m62 : Mem, m62 = mset m 78 v1 v2 → ((0 ≤ v1 ∧ v1 < 8) ∧ (∀ m69 : Mem, m69 = mset m62 79 v1 v3 → (post 1 m69))))
set_option maxRecDepth 100000 in
theorem pf_X11_close_56 {l : Launch} {x : WX} {G : GT} {post : Int → Mem → Prop}  (X : Ax l x cX11_close RX11 5 (rmd 2) 106 G) (hr : RI cX11_close post G) (v1 : Int) (v2 : Int) (v3 : Int) (m : Mem) (h : wp_X11_close_56 v1 v2 v3 m  post) : G 56 [(0, (2, 67)), (1, (0, v1)), (2, (0, v2)), (3, (0, v3))] [] m := by
  unfold wp_X11_close_56 at h
  refine g_aload_n 0 (i := 0) X dX11_close_56 rfl rfl ?_
  refine g_getR X dX11_close_57 fX11_41 ?_
  refine g_iload_n 1 (i := 1) X dX11_close_60 rfl rfl ?_
  refine g_iload_n 2 (i := 2) X dX11_close_61 rfl rfl ?_
  obtain ⟨hi, h⟩ := h
  refine g_iast X dX11_close_62 rfl hi (fun m62 em62 => ?_)
  have h := h m62 em62
  refine g_aload_n 0 (i := 0) X dX11_close_63 rfl rfl ?_
  refine g_getR X dX11_close_64 fX11_44 ?_
  refine g_iload_n 1 (i := 1) X dX11_close_67 rfl rfl ?_
  refine g_iload_n 3 (i := 3) X dX11_close_68 rfl rfl ?_
  obtain ⟨hi, h⟩ := h
  refine g_iast X dX11_close_69 rfl hi (fun m69 em69 => ?_)
  have h := h m69 em69
  refine g_iconst X dX11_close_70 (by decide) ?_
  exact hr _ _ _ _ _ dX11_close_71 h
def wp_X11_close_26 (v1 : Int) (v2 : Int) (v3 : Int) (s0 : Int) (m : Mem)  (post : Int → Mem → Prop) : Prop :=
  ((¬ s0 = 0 → (wp_X11_close_56 v1 v2 v3 m  post)) ∧
  (s0 = 0 → (wp_X11_in v2 0 99 m (fun r37 m37 => ((r37 = 0 → (post (-102) m37)) ∧
  (¬ r37 = 0 → (wp_X11_in v3 v2 99 m37 (fun r47 m47 => ((¬ r47 = 0 → (wp_X11_close_56 v1 v2 v3 m47  post)) ∧
  (r47 = 0 → (post (-102) m47)))))))))))
set_option maxRecDepth 100000 in
theorem pf_X11_close_26 {l : Launch} {x : WX} {G : GT} {post : Int → Mem → Prop}  (X : Ax l x cX11_close RX11 5 (rmd 2) 106 G) (hr : RI cX11_close post G) (v1 : Int) (v2 : Int) (v3 : Int) (s0 : Int) (m : Mem) (h : wp_X11_close_26 v1 v2 v3 s0 m  post) : G 26 [(0, (2, 67)), (1, (0, v1)), (2, (0, v2)), (3, (0, v3))] [(0, s0)] m := by
  unfold wp_X11_close_26 at h
  refine g_istore (i := 4) (lv' := [(4, (0, s0)), (0, (2, 67)), (1, (0, v1)), (2, (0, v2)), (3, (0, v3))]) X dX11_close_26 (by decide) rfl ?_
  refine g_iload 0 (i := 4) X dX11_close_28 rfl ?_
  refine g_if_ne X dX11_close_30 (tgt := 56) (by decide) (fun hc => ?_) (fun hc => ?_)
  · have h := h.1 hc
    refine g_sub X [1, 2, 3, 4] rfl (pf_X11_close_56 X hr  _ _ _ _ h)
  · have h := h.2 hc
    refine g_iload_n 3 (i := 2) X dX11_close_33 rfl rfl ?_
    refine g_iconst X dX11_close_34 (by decide) ?_
    refine g_bipush X dX11_close_35 (by decide) ?_
    refine g_cSI (st := []) X dX11_close_37 YX11_in lX11_134 (by decide) (im_X11_in l x _ _ _ _ _ h) rfl ⟨by decide, by decide⟩ rfl (Nat.le_of_ble_eq_true rfl) (fun r37 m37 h => ?_)
    refine g_if_eq X dX11_close_40 (tgt := 53) (by decide) (fun hc => ?_) (fun hc => ?_)
    · have h := h.1 hc
      refine g_bipush X dX11_close_53 (by decide) ?_
      exact hr _ _ _ _ _ dX11_close_55 h
    · have h := h.2 hc
      refine g_iload_n 4 (i := 3) X dX11_close_43 rfl rfl ?_
      refine g_iload_n 3 (i := 2) X dX11_close_44 rfl rfl ?_
      refine g_bipush X dX11_close_45 (by decide) ?_
      refine g_cSI (st := []) X dX11_close_47 YX11_in lX11_134 (by decide) (im_X11_in l x _ _ _ _ _ h) rfl ⟨by decide, by decide⟩ rfl (Nat.le_of_ble_eq_true rfl) (fun r47 m47 h => ?_)
      refine g_if_ne X dX11_close_50 (tgt := 56) (by decide) (fun hc => ?_) (fun hc => ?_)
      · have h := h.1 hc
        refine g_sub X [1, 2, 3, 4] rfl (pf_X11_close_56 X hr  _ _ _ _ h)
      · have h := h.2 hc
        refine g_bipush X dX11_close_53 (by decide) ?_
        exact hr _ _ _ _ _ dX11_close_55 h
def wp_X11_close_25 (v1 : Int) (v2 : Int) (v3 : Int) (m : Mem)  (post : Int → Mem → Prop) : Prop :=
  wp_X11_close_26 v1 v2 v3 0 m  post
set_option maxRecDepth 100000 in
theorem pf_X11_close_25 {l : Launch} {x : WX} {G : GT} {post : Int → Mem → Prop}  (X : Ax l x cX11_close RX11 5 (rmd 2) 106 G) (hr : RI cX11_close post G) (v1 : Int) (v2 : Int) (v3 : Int) (m : Mem) (h : wp_X11_close_25 v1 v2 v3 m  post) : G 25 [(0, (2, 67)), (1, (0, v1)), (2, (0, v2)), (3, (0, v3))] [] m := by
  unfold wp_X11_close_25 at h
  refine g_iconst X dX11_close_25 (by decide) ?_
  refine g_sub X [0, 1, 2, 3] rfl (pf_X11_close_26 X hr  _ _ _ _ _ h)
def wp_X11_close (v1 : Int) (v2 : Int) (v3 : Int) (m : Mem) (post : Int → Mem → Prop) : Prop :=
  wp_X11_isYard v1 m (fun r2 m2 => ((¬ r2 = 0 → (((¬ v2 = (-1) → (wp_X11_close_25 v1 v2 v3 m2  post)) ∧
  (v2 = (-1) → (((¬ v3 = (-1) → (wp_X11_close_25 v1 v2 v3 m2  post)) ∧
  (v3 = (-1) → (wp_X11_close_26 v1 v2 v3 1 m2  post)))))))) ∧
  (r2 = 0 → (post (-101) m2))))
set_option maxRecDepth 100000 in
theorem pf_X11_close {l : Launch} {x : WX} {G : GT} {post : Int → Mem → Prop} (X : Ax l x cX11_close RX11 5 (rmd 2) 106 G) (hr : RI cX11_close post G) (v1 : Int) (v2 : Int) (v3 : Int) (m : Mem) (h : wp_X11_close v1 v2 v3 m post) : G 0 [(0, (2, 67)), (1, (0, v1)), (2, (0, v2)), (3, (0, v3))] [] m := by
  unfold wp_X11_close at h
  refine g_aload_n 0 (i := 0) X dX11_close_0 rfl rfl ?_
  refine g_iload_n 1 (i := 1) X dX11_close_1 rfl rfl ?_
  refine g_cVI (st := []) X dX11_close_2 YX11_isYard lX11_174 (by decide) (im_X11_isYard l x _ _ _ h) rfl ⟨by decide, by decide⟩ rfl (Nat.le_of_ble_eq_true rfl) (fun r2 m2 h => ?_)
  refine g_if_ne X dX11_close_5 (tgt := 11) (by decide) (fun hc => ?_) (fun hc => ?_)
  · have h := h.1 hc
    refine g_iload_n 2 (i := 2) X dX11_close_11 rfl rfl ?_
    refine g_iconst X dX11_close_12 (by decide) ?_
    refine g_icmp_ne X dX11_close_13 (tgt := 25) (by decide) (fun hc => ?_) (fun hc => ?_)
    · have h := h.1 hc
      refine g_sub X [0, 1, 2, 3] rfl (pf_X11_close_25 X hr  _ _ _ _ h)
    · have h := h.2 hc
      refine g_iload_n 3 (i := 3) X dX11_close_16 rfl rfl ?_
      refine g_iconst X dX11_close_17 (by decide) ?_
      refine g_icmp_ne X dX11_close_18 (tgt := 25) (by decide) (fun hc => ?_) (fun hc => ?_)
      · have h := h.1 hc
        refine g_sub X [0, 1, 2, 3] rfl (pf_X11_close_25 X hr  _ _ _ _ h)
      · have h := h.2 hc
        refine g_iconst X dX11_close_21 (by decide) ?_
        refine g_goto X dX11_close_22 (tgt := 26) (by decide) ?_
        refine g_sub X [0, 1, 2, 3] rfl (pf_X11_close_26 X hr  _ _ _ _ _ h)
  · have h := h.2 hc
    refine g_bipush X dX11_close_8 (by decide) ?_
    exact hr _ _ _ _ _ dX11_close_10 h
theorem im_X11_close (l : Launch) (x : WX) (v1 : Int) (v2 : Int) (v3 : Int) (m : Mem) (post : Int → Mem → Prop) (h : wp_X11_close v1 v2 v3 m post) : MetI l x 106 2 yX11_close cX11_close 5 .int [(2, 67), (0, v1), (0, v2), (0, v3)] m post := met_I (by decide) (Nat.le_of_ble_eq_true rfl) (fun _ X hr => pf_X11_close X hr v1 v2 v3 m h)
def wp_X11_isClosed (v1 : Int) (m : Mem) (post : Int → Mem → Prop) : Prop :=
  (0 ≤ v1 ∧ v1 < 8) ∧ (((m 78 v1 = (-1) → (post 0 m)) ∧
  (¬ m 78 v1 = (-1) → ((0 ≤ v1 ∧ v1 < 8) ∧ ((0 ≤ v1 ∧ v1 < 8) ∧ (wp_X11_in (w32 (Int.tdiv (m 67 18) 24)) (m 78 v1) (m 79 v1) m (fun r29 m29 => ((r29 = 0 → (post 0 m29)) ∧
  (¬ r29 = 0 → (post 1 m29))))))))))
set_option maxRecDepth 100000 in
theorem pf_X11_isClosed {l : Launch} {x : WX} {G : GT} {post : Int → Mem → Prop} (X : Ax l x cX11_isClosed RX11 2 (rmd 1) 106 G) (hr : RZ cX11_isClosed post G) (v1 : Int) (m : Mem) (h : wp_X11_isClosed v1 m post) : G 0 [(0, (2, 67)), (1, (0, v1))] [] m := by
  unfold wp_X11_isClosed at h
  refine g_aload_n 0 (i := 0) X dX11_isClosed_0 rfl rfl ?_
  refine g_getR X dX11_isClosed_1 fX11_41 ?_
  refine g_iload_n 1 (i := 1) X dX11_isClosed_4 rfl rfl ?_
  obtain ⟨hi, h⟩ := h
  refine g_iald X dX11_isClosed_5 rfl hi ?_
  refine g_iconst X dX11_isClosed_6 (by decide) ?_
  refine g_icmp_eq X dX11_isClosed_7 (tgt := 39) (by decide) (fun hc => ?_) (fun hc => ?_)
  · have h := h.1 hc
    refine g_iconst X dX11_isClosed_39 (by decide) ?_
    exact hr _ _ _ _ _ dX11_isClosed_40 ⟨by decide, h⟩
  · have h := h.2 hc
    refine g_aload_n 0 (i := 0) X dX11_isClosed_10 rfl rfl ?_
    refine g_getI X dX11_isClosed_11 fX11_153 ?_
    refine g_bipush X dX11_isClosed_14 (by decide) ?_
    refine g_idiv X dX11_isClosed_16 (by decide) ?_
    refine g_aload_n 0 (i := 0) X dX11_isClosed_17 rfl rfl ?_
    refine g_getR X dX11_isClosed_18 fX11_41 ?_
    refine g_iload_n 1 (i := 1) X dX11_isClosed_21 rfl rfl ?_
    obtain ⟨hi, h⟩ := h
    refine g_iald X dX11_isClosed_22 rfl hi ?_
    refine g_aload_n 0 (i := 0) X dX11_isClosed_23 rfl rfl ?_
    refine g_getR X dX11_isClosed_24 fX11_44 ?_
    refine g_iload_n 1 (i := 1) X dX11_isClosed_27 rfl rfl ?_
    obtain ⟨hi, h⟩ := h
    refine g_iald X dX11_isClosed_28 rfl hi ?_
    refine g_cSI (st := []) X dX11_isClosed_29 YX11_in lX11_134 (by decide) (im_X11_in l x _ _ _ _ _ h) rfl ⟨by decide, by decide⟩ rfl (Nat.le_of_ble_eq_true rfl) (fun r29 m29 h => ?_)
    refine g_if_eq X dX11_isClosed_32 (tgt := 39) (by decide) (fun hc => ?_) (fun hc => ?_)
    · have h := h.1 hc
      refine g_iconst X dX11_isClosed_39 (by decide) ?_
      exact hr _ _ _ _ _ dX11_isClosed_40 ⟨by decide, h⟩
    · have h := h.2 hc
      refine g_iconst X dX11_isClosed_35 (by decide) ?_
      refine g_goto X dX11_isClosed_36 (tgt := 40) (by decide) ?_
      exact hr _ _ _ _ _ dX11_isClosed_40 ⟨by decide, h⟩
theorem im_X11_isClosed (l : Launch) (x : WX) (v1 : Int) (m : Mem) (post : Int → Mem → Prop) (h : wp_X11_isClosed v1 m post) : MetI l x 106 1 yX11_isClosed cX11_isClosed 2 .boolean [(2, 67), (0, v1)] m post := met_Z (by decide) (Nat.le_of_ble_eq_true rfl) (fun _ X hr => pf_X11_isClosed X hr v1 m h)
def wp_X11_comeIn_142 (v1 : Int) (v2 : Int) (v3 : Int) (v4 : Int) (s0 : Int) (s1 : Int) (m : Mem) (K17 : Int → Int → Int → Mem → Prop) (post : Mem → Prop) : Prop :=
  (0 ≤ s1 ∧ s1 < 180) ∧ (∀ m142 : Mem, m142 = mset m 77 s1 s0 → (((v4 = 0 → ((0 ≤ w32 (w32 (6 * v3) + 4) ∧ w32 (w32 (6 * v3) + 4) < 180) ∧ (∀ m163 : Mem, m163 = mset m142 77 (w32 (w32 (6 * v3) + 4)) 0 → (K17 v1 v2 (w32 (v3 + 1)) m163)))) ∧
  (¬ v4 = 0 → ((0 ≤ w32 (w32 (6 * v3) + 4) ∧ w32 (w32 (6 * v3) + 4) < 180) ∧ (∀ m163 : Mem, m163 = mset m142 77 (w32 (w32 (6 * v3) + 4)) 1 → (K17 v1 v2 (w32 (v3 + 1)) m163)))))))
set_option maxRecDepth 100000 in
theorem pf_X11_comeIn_142 {l : Launch} {x : WX} {G : GT} {post : Mem → Prop} {K17 : Int → Int → Int → Mem → Prop} (X : Ax l x cX11_comeIn RX11 5 (rmd 0) 106 G) (hr : RV cX11_comeIn post G) (hK17 : ∀ (v1 : Int) (v2 : Int) (v3 : Int) (m : Mem), K17 v1 v2 v3 m → G 17 [(0, (2, 67)), (1, (0, v1)), (2, (0, v2)), (3, (0, v3))] [] m) (v1 : Int) (v2 : Int) (v3 : Int) (v4 : Int) (s0 : Int) (s1 : Int) (m : Mem) (h : wp_X11_comeIn_142 v1 v2 v3 v4 s0 s1 m K17 post) : G 142 [(0, (2, 67)), (1, (0, v1)), (2, (0, v2)), (3, (0, v3)), (4, (0, v4))] [(0, s0), (0, s1), (2, 77)] m := by
  unfold wp_X11_comeIn_142 at h
  obtain ⟨hi, h⟩ := h
  refine g_iast X dX11_comeIn_142 rfl hi (fun m142 em142 => ?_)
  have h := h m142 em142
  refine g_aload_n 0 (i := 0) X dX11_comeIn_143 rfl rfl ?_
  refine g_getR X dX11_comeIn_144 fX11_38 ?_
  refine g_bipush X dX11_comeIn_147 (by decide) ?_
  refine g_iload_n 3 (i := 3) X dX11_comeIn_149 rfl rfl ?_
  refine g_imul X dX11_comeIn_150 ?_
  refine g_iconst X dX11_comeIn_151 (by decide) ?_
  refine g_iadd X dX11_comeIn_152 ?_
  refine g_iload 4 (i := 4) X dX11_comeIn_153 rfl ?_
  refine g_if_eq X dX11_comeIn_155 (tgt := 162) (by decide) (fun hc => ?_) (fun hc => ?_)
  · have h := h.1 hc
    refine g_iconst X dX11_comeIn_162 (by decide) ?_
    obtain ⟨hi, h⟩ := h
    refine g_iast X dX11_comeIn_163 rfl hi (fun m163 em163 => ?_)
    have h := h m163 em163
    refine g_iinc 3 (lv' := [(3, (0, w32 (v3 + 1))), (0, (2, 67)), (1, (0, v1)), (2, (0, v2)), (4, (0, v4))]) X dX11_comeIn_164 rfl (by decide) rfl ?_
    refine g_goto X dX11_comeIn_167 (tgt := 17) (by decide) ?_
    exact g_sub X [1, 2, 3, 0] rfl (hK17 _ _ _ _ h)
  · have h := h.2 hc
    refine g_iconst X dX11_comeIn_158 (by decide) ?_
    refine g_goto X dX11_comeIn_159 (tgt := 163) (by decide) ?_
    obtain ⟨hi, h⟩ := h
    refine g_iast X dX11_comeIn_163 rfl hi (fun m163 em163 => ?_)
    have h := h m163 em163
    refine g_iinc 3 (lv' := [(3, (0, w32 (v3 + 1))), (0, (2, 67)), (1, (0, v1)), (2, (0, v2)), (4, (0, v4))]) X dX11_comeIn_164 rfl (by decide) rfl ?_
    refine g_goto X dX11_comeIn_167 (tgt := 17) (by decide) ?_
    exact g_sub X [1, 2, 3, 0] rfl (hK17 _ _ _ _ h)
def wp_X11_comeIn_98 (v1 : Int) (v2 : Int) (v3 : Int) (v4 : Int) (s0 : Int) (s1 : Int) (m : Mem) (K17 : Int → Int → Int → Mem → Prop) (post : Mem → Prop) : Prop :=
  (0 ≤ s1 ∧ s1 < 180) ∧ (∀ m98 : Mem, m98 = mset m 77 s1 s0 → ((0 ≤ w32 (w32 (6 * v3) + 1) ∧ w32 (w32 (6 * v3) + 1) < 180) ∧ (∀ m110 : Mem, m110 = mset m98 77 (w32 (w32 (6 * v3) + 1)) (-1) → (((v4 = 0 → (wp_X11_comeIn_142 v1 v2 v3 v4 (w32 (m110 67 18 + m110 67 15)) (w32 (w32 (6 * v3) + 2)) m110 (fun v1_2 v2_2 v3_2 m_2 => K17 v1_2 v2_2 v3_2 m_2) post)) ∧
  (¬ v4 = 0 → (wp_X11_comeIn_142 v1 v2 v3 v4 (m110 67 18) (w32 (w32 (6 * v3) + 2)) m110 (fun v1_3 v2_3 v3_3 m_3 => K17 v1_3 v2_3 v3_3 m_3) post)))))))
set_option maxRecDepth 100000 in
theorem pf_X11_comeIn_98 {l : Launch} {x : WX} {G : GT} {post : Mem → Prop} {K17 : Int → Int → Int → Mem → Prop} (X : Ax l x cX11_comeIn RX11 5 (rmd 0) 106 G) (hr : RV cX11_comeIn post G) (hK17 : ∀ (v1 : Int) (v2 : Int) (v3 : Int) (m : Mem), K17 v1 v2 v3 m → G 17 [(0, (2, 67)), (1, (0, v1)), (2, (0, v2)), (3, (0, v3))] [] m) (v1 : Int) (v2 : Int) (v3 : Int) (v4 : Int) (s0 : Int) (s1 : Int) (m : Mem) (h : wp_X11_comeIn_98 v1 v2 v3 v4 s0 s1 m K17 post) : G 98 [(0, (2, 67)), (1, (0, v1)), (2, (0, v2)), (3, (0, v3)), (4, (0, v4))] [(0, s0), (0, s1), (2, 77)] m := by
  unfold wp_X11_comeIn_98 at h
  obtain ⟨hi, h⟩ := h
  refine g_iast X dX11_comeIn_98 rfl hi (fun m98 em98 => ?_)
  have h := h m98 em98
  refine g_aload_n 0 (i := 0) X dX11_comeIn_99 rfl rfl ?_
  refine g_getR X dX11_comeIn_100 fX11_38 ?_
  refine g_bipush X dX11_comeIn_103 (by decide) ?_
  refine g_iload_n 3 (i := 3) X dX11_comeIn_105 rfl rfl ?_
  refine g_imul X dX11_comeIn_106 ?_
  refine g_iconst X dX11_comeIn_107 (by decide) ?_
  refine g_iadd X dX11_comeIn_108 ?_
  refine g_iconst X dX11_comeIn_109 (by decide) ?_
  obtain ⟨hi, h⟩ := h
  refine g_iast X dX11_comeIn_110 rfl hi (fun m110 em110 => ?_)
  have h := h m110 em110
  refine g_aload_n 0 (i := 0) X dX11_comeIn_111 rfl rfl ?_
  refine g_getR X dX11_comeIn_112 fX11_38 ?_
  refine g_bipush X dX11_comeIn_115 (by decide) ?_
  refine g_iload_n 3 (i := 3) X dX11_comeIn_117 rfl rfl ?_
  refine g_imul X dX11_comeIn_118 ?_
  refine g_iconst X dX11_comeIn_119 (by decide) ?_
  refine g_iadd X dX11_comeIn_120 ?_
  refine g_iload 4 (i := 4) X dX11_comeIn_121 rfl ?_
  refine g_if_eq X dX11_comeIn_123 (tgt := 133) (by decide) (fun hc => ?_) (fun hc => ?_)
  · have h := h.1 hc
    refine g_aload_n 0 (i := 0) X dX11_comeIn_133 rfl rfl ?_
    refine g_getI X dX11_comeIn_134 fX11_153 ?_
    refine g_aload_n 0 (i := 0) X dX11_comeIn_137 rfl rfl ?_
    refine g_getI X dX11_comeIn_138 fX11_150 ?_
    refine g_iadd X dX11_comeIn_141 ?_
    refine g_sub X [0, 1, 2, 3, 4] rfl (pf_X11_comeIn_142 X hr (fun v1_2 v2_2 v3_2 m_2 h => ?_) _ _ _ _ _ _ _ h)
    · exact g_sub X [0, 1, 2, 3] rfl (hK17 _ _ _ _ h)
  · have h := h.2 hc
    refine g_aload_n 0 (i := 0) X dX11_comeIn_126 rfl rfl ?_
    refine g_getI X dX11_comeIn_127 fX11_153 ?_
    refine g_goto X dX11_comeIn_130 (tgt := 142) (by decide) ?_
    refine g_sub X [0, 1, 2, 3, 4] rfl (pf_X11_comeIn_142 X hr (fun v1_3 v2_3 v3_3 m_3 h => ?_) _ _ _ _ _ _ _ h)
    · exact g_sub X [0, 1, 2, 3] rfl (hK17 _ _ _ _ h)
def wp_X11_comeIn_78 (v1 : Int) (v2 : Int) (v3 : Int) (s0 : Int) (m : Mem) (K17 : Int → Int → Int → Mem → Prop) (post : Mem → Prop) : Prop :=
  ((s0 = 0 → (wp_X11_comeIn_98 v1 v2 v3 s0 v2 (w32 (6 * v3)) m (fun v1_4 v2_4 v3_4 m_4 => K17 v1_4 v2_4 v3_4 m_4) post)) ∧
  (¬ s0 = 0 → (wp_X11_comeIn_98 v1 v2 v3 s0 (-1) (w32 (6 * v3)) m (fun v1_5 v2_5 v3_5 m_5 => K17 v1_5 v2_5 v3_5 m_5) post)))
set_option maxRecDepth 100000 in
theorem pf_X11_comeIn_78 {l : Launch} {x : WX} {G : GT} {post : Mem → Prop} {K17 : Int → Int → Int → Mem → Prop} (X : Ax l x cX11_comeIn RX11 5 (rmd 0) 106 G) (hr : RV cX11_comeIn post G) (hK17 : ∀ (v1 : Int) (v2 : Int) (v3 : Int) (m : Mem), K17 v1 v2 v3 m → G 17 [(0, (2, 67)), (1, (0, v1)), (2, (0, v2)), (3, (0, v3))] [] m) (v1 : Int) (v2 : Int) (v3 : Int) (s0 : Int) (m : Mem) (h : wp_X11_comeIn_78 v1 v2 v3 s0 m K17 post) : G 78 [(0, (2, 67)), (1, (0, v1)), (2, (0, v2)), (3, (0, v3))] [(0, s0)] m := by
  unfold wp_X11_comeIn_78 at h
  refine g_istore (i := 4) (lv' := [(4, (0, s0)), (0, (2, 67)), (1, (0, v1)), (2, (0, v2)), (3, (0, v3))]) X dX11_comeIn_78 (by decide) rfl ?_
  refine g_aload_n 1 (i := 0) X dX11_comeIn_80 rfl rfl ?_
  refine g_getR X dX11_comeIn_81 fX11_38 ?_
  refine g_bipush X dX11_comeIn_84 (by decide) ?_
  refine g_iload_n 4 (i := 3) X dX11_comeIn_86 rfl rfl ?_
  refine g_imul X dX11_comeIn_87 ?_
  refine g_iload 0 (i := 4) X dX11_comeIn_88 rfl ?_
  refine g_if_eq X dX11_comeIn_90 (tgt := 97) (by decide) (fun hc => ?_) (fun hc => ?_)
  · have h := h.1 hc
    refine g_iload_n 3 (i := 2) X dX11_comeIn_97 rfl rfl ?_
    refine g_sub X [1, 2, 3, 4, 0] rfl (pf_X11_comeIn_98 X hr (fun v1_4 v2_4 v3_4 m_4 h => ?_) _ _ _ _ _ _ _ h)
    · exact g_sub X [0, 1, 2, 3] rfl (hK17 _ _ _ _ h)
  · have h := h.2 hc
    refine g_iconst X dX11_comeIn_93 (by decide) ?_
    refine g_goto X dX11_comeIn_94 (tgt := 98) (by decide) ?_
    refine g_sub X [1, 2, 3, 4, 0] rfl (pf_X11_comeIn_98 X hr (fun v1_5 v2_5 v3_5 m_5 h => ?_) _ _ _ _ _ _ _ h)
    · exact g_sub X [0, 1, 2, 3] rfl (hK17 _ _ _ _ h)
def wp_X11_comeIn_17  (post : Mem → Prop) : Nat → Int → Int → Int → Mem → Prop
  | 0, _, _, _, _ => False
  | n + 1, v1, v2, v3, m =>
  ((m 67 13 ≤ v3 → (post m)) ∧
  (¬ m 67 13 ≤ v3 → ((0 ≤ w32 (w32 (6 * v3) + 1) ∧ w32 (w32 (6 * v3) + 1) < 180) ∧ (((¬ m 77 (w32 (w32 (6 * v3) + 1)) = v1 → (wp_X11_comeIn_17  post n v1 v2 (w32 (v3 + 1)) m)) ∧
  (m 77 (w32 (w32 (6 * v3) + 1)) = v1 → ((0 ≤ w32 (w32 (6 * v3) + 2) ∧ w32 (w32 (6 * v3) + 2) < 180) ∧ (((¬ m 77 (w32 (w32 (6 * v3) + 2)) = m 67 18 → (wp_X11_comeIn_17  post n v1 v2 (w32 (v3 + 1)) m)) ∧
  (m 77 (w32 (w32 (6 * v3) + 2)) = m 67 18 → ((0 ≤ w32 (w32 (6 * v3) + 5) ∧ w32 (w32 (6 * v3) + 5) < 180) ∧ (((¬ m 77 (w32 (w32 (6 * v3) + 5)) = v2 → (wp_X11_comeIn_78 v1 v2 v3 0 m (fun v1_6 v2_6 v3_6 m_6 => wp_X11_comeIn_17  post n v1_6 v2_6 v3_6 m_6) post)) ∧
  (m 77 (w32 (w32 (6 * v3) + 5)) = v2 → (wp_X11_comeIn_78 v1 v2 v3 1 m (fun v1_7 v2_7 v3_7 m_7 => wp_X11_comeIn_17  post n v1_7 v2_7 v3_7 m_7) post)))))))))))))))
set_option maxRecDepth 100000 in
theorem pf_X11_comeIn_17 {l : Launch} {x : WX} {G : GT} {post : Mem → Prop}  (X : Ax l x cX11_comeIn RX11 5 (rmd 0) 106 G) (hr : RV cX11_comeIn post G) : ∀ (n : Nat) (v1 : Int) (v2 : Int) (v3 : Int) (m : Mem) (_ : wp_X11_comeIn_17  post n v1 v2 v3 m), G 17 [(0, (2, 67)), (1, (0, v1)), (2, (0, v2)), (3, (0, v3))] [] m := by
  intro n
  induction n with
  | zero => intro v1 v2 v3 m h; exact absurd h id
  | succ n ih =>
  intro v1 v2 v3 m h
  unfold wp_X11_comeIn_17 at h
  refine g_iload_n 3 (i := 3) X dX11_comeIn_17 rfl rfl ?_
  refine g_aload_n 0 (i := 0) X dX11_comeIn_18 rfl rfl ?_
  refine g_getI X dX11_comeIn_19 fX11_147 ?_
  refine g_icmp_ge X dX11_comeIn_22 (tgt := 170) (by decide) (fun hc => ?_) (fun hc => ?_)
  · have h := h.1 hc
    exact hr _ _ _ _ dX11_comeIn_170 h
  · have h := h.2 hc
    refine g_aload_n 0 (i := 0) X dX11_comeIn_25 rfl rfl ?_
    refine g_getR X dX11_comeIn_26 fX11_38 ?_
    refine g_bipush X dX11_comeIn_29 (by decide) ?_
    refine g_iload_n 3 (i := 3) X dX11_comeIn_31 rfl rfl ?_
    refine g_imul X dX11_comeIn_32 ?_
    refine g_iconst X dX11_comeIn_33 (by decide) ?_
    refine g_iadd X dX11_comeIn_34 ?_
    obtain ⟨hi, h⟩ := h
    refine g_iald X dX11_comeIn_35 rfl hi ?_
    refine g_iload_n 1 (i := 1) X dX11_comeIn_36 rfl rfl ?_
    refine g_icmp_ne X dX11_comeIn_37 (tgt := 164) (by decide) (fun hc => ?_) (fun hc => ?_)
    · have h := h.1 hc
      refine g_iinc 3 (lv' := [(3, (0, w32 (v3 + 1))), (0, (2, 67)), (1, (0, v1)), (2, (0, v2))]) X dX11_comeIn_164 rfl (by decide) rfl ?_
      refine g_goto X dX11_comeIn_167 (tgt := 17) (by decide) ?_
      exact g_sub X [1, 2, 3, 0] rfl (ih _ _ _ _ h)
    · have h := h.2 hc
      refine g_aload_n 0 (i := 0) X dX11_comeIn_40 rfl rfl ?_
      refine g_getR X dX11_comeIn_41 fX11_38 ?_
      refine g_bipush X dX11_comeIn_44 (by decide) ?_
      refine g_iload_n 3 (i := 3) X dX11_comeIn_46 rfl rfl ?_
      refine g_imul X dX11_comeIn_47 ?_
      refine g_iconst X dX11_comeIn_48 (by decide) ?_
      refine g_iadd X dX11_comeIn_49 ?_
      obtain ⟨hi, h⟩ := h
      refine g_iald X dX11_comeIn_50 rfl hi ?_
      refine g_aload_n 0 (i := 0) X dX11_comeIn_51 rfl rfl ?_
      refine g_getI X dX11_comeIn_52 fX11_153 ?_
      refine g_icmp_ne X dX11_comeIn_55 (tgt := 164) (by decide) (fun hc => ?_) (fun hc => ?_)
      · have h := h.1 hc
        refine g_iinc 3 (lv' := [(3, (0, w32 (v3 + 1))), (0, (2, 67)), (1, (0, v1)), (2, (0, v2))]) X dX11_comeIn_164 rfl (by decide) rfl ?_
        refine g_goto X dX11_comeIn_167 (tgt := 17) (by decide) ?_
        exact g_sub X [1, 2, 3, 0] rfl (ih _ _ _ _ h)
      · have h := h.2 hc
        refine g_aload_n 0 (i := 0) X dX11_comeIn_58 rfl rfl ?_
        refine g_getR X dX11_comeIn_59 fX11_38 ?_
        refine g_bipush X dX11_comeIn_62 (by decide) ?_
        refine g_iload_n 3 (i := 3) X dX11_comeIn_64 rfl rfl ?_
        refine g_imul X dX11_comeIn_65 ?_
        refine g_iconst X dX11_comeIn_66 (by decide) ?_
        refine g_iadd X dX11_comeIn_67 ?_
        obtain ⟨hi, h⟩ := h
        refine g_iald X dX11_comeIn_68 rfl hi ?_
        refine g_iload_n 2 (i := 2) X dX11_comeIn_69 rfl rfl ?_
        refine g_icmp_ne X dX11_comeIn_70 (tgt := 77) (by decide) (fun hc => ?_) (fun hc => ?_)
        · have h := h.1 hc
          refine g_iconst X dX11_comeIn_77 (by decide) ?_
          refine g_sub X [0, 1, 2, 3] rfl (pf_X11_comeIn_78 X hr (fun v1_6 v2_6 v3_6 m_6 h => ?_) _ _ _ _ _ h)
          · exact g_sub X [0, 1, 2, 3] rfl (ih _ _ _ _ h)
        · have h := h.2 hc
          refine g_iconst X dX11_comeIn_73 (by decide) ?_
          refine g_goto X dX11_comeIn_74 (tgt := 78) (by decide) ?_
          refine g_sub X [0, 1, 2, 3] rfl (pf_X11_comeIn_78 X hr (fun v1_7 v2_7 v3_7 m_7 h => ?_) _ _ _ _ _ h)
          · exact g_sub X [0, 1, 2, 3] rfl (ih _ _ _ _ h)
def wp_X11_comeIn (v1 : Int) (m : Mem) (post : Mem → Prop) : Prop :=
  (0 ≤ w32 (6 * v1) ∧ w32 (6 * v1) < 72) ∧ ((0 ≤ m 74 (w32 (6 * v1)) ∧ m 74 (w32 (6 * v1)) < 20) ∧ (∀ v2_14 : Int, v2_14 = m 71 (m 74 (w32 (6 * v1))) → (∃ n_8 : Nat, wp_X11_comeIn_17  post n_8 v1 v2_14 0 m)))
set_option maxRecDepth 100000 in
theorem pf_X11_comeIn {l : Launch} {x : WX} {G : GT} {post : Mem → Prop} (X : Ax l x cX11_comeIn RX11 5 (rmd 0) 106 G) (hr : RV cX11_comeIn post G) (v1 : Int) (m : Mem) (h : wp_X11_comeIn v1 m post) : G 0 [(0, (2, 67)), (1, (0, v1))] [] m := by
  unfold wp_X11_comeIn at h
  refine g_aload_n 0 (i := 0) X dX11_comeIn_0 rfl rfl ?_
  refine g_getR X dX11_comeIn_1 fX11_20 ?_
  refine g_aload_n 0 (i := 0) X dX11_comeIn_4 rfl rfl ?_
  refine g_getR X dX11_comeIn_5 fX11_29 ?_
  refine g_bipush X dX11_comeIn_8 (by decide) ?_
  refine g_iload_n 1 (i := 1) X dX11_comeIn_10 rfl rfl ?_
  refine g_imul X dX11_comeIn_11 ?_
  obtain ⟨hi, h⟩ := h
  refine g_iald X dX11_comeIn_12 rfl hi ?_
  obtain ⟨hi, h⟩ := h
  refine g_iald X dX11_comeIn_13 rfl hi ?_
  refine g_nmI (fun v2_14 ev2_14 => ?_)
  have h := h v2_14 ev2_14
  refine g_istore_n (i := 2) (lv' := [(2, (0, v2_14)), (0, (2, 67)), (1, (0, v1))]) X dX11_comeIn_14 rfl (by decide) rfl ?_
  refine g_iconst X dX11_comeIn_15 (by decide) ?_
  refine g_istore_n (i := 3) (lv' := [(3, (0, 0)), (2, (0, v2_14)), (0, (2, 67)), (1, (0, v1))]) X dX11_comeIn_16 rfl (by decide) rfl ?_
  obtain ⟨n_8, h⟩ := h
  refine g_sub X [2, 3, 1, 0] rfl (pf_X11_comeIn_17 X hr  n_8 _ _ _ _ h)
theorem im_X11_comeIn (l : Launch) (x : WX) (v1 : Int) (m : Mem) (post : Mem → Prop) (h : wp_X11_comeIn v1 m post) : MetV l x 106 0 yX11_comeIn cX11_comeIn 5 [(2, 67), (0, v1)] m post := met_V (by decide) (Nat.le_of_ble_eq_true rfl) (fun _ X hr => pf_X11_comeIn X hr v1 m h)
def wp_X11_longest_78 (v1 : Int) (v2 : Int) (v3 : Int) (s0 : Int) (m : Mem) (K4 : Int → Int → Int → Mem → Prop) (post : Int → Mem → Prop) : Prop :=
  ((s0 = 0 → (K4 v1 v2 (w32 (v3 + 1)) m)) ∧
  (¬ s0 = 0 → (((v2 = (-1) → (K4 v1 v3 (w32 (v3 + 1)) m)) ∧
  (¬ v2 = (-1) → ((0 ≤ w32 (w32 (6 * v3) + 2) ∧ w32 (w32 (6 * v3) + 2) < 180) ∧ ((0 ≤ w32 (w32 (6 * v2) + 2) ∧ w32 (w32 (6 * v2) + 2) < 180) ∧ (((m 77 (w32 (w32 (6 * v2) + 2)) ≤ m 77 (w32 (w32 (6 * v3) + 2)) → (K4 v1 v2 (w32 (v3 + 1)) m)) ∧
  (¬ m 77 (w32 (w32 (6 * v2) + 2)) ≤ m 77 (w32 (w32 (6 * v3) + 2)) → (K4 v1 v3 (w32 (v3 + 1)) m)))))))))))
set_option maxRecDepth 100000 in
theorem pf_X11_longest_78 {l : Launch} {x : WX} {G : GT} {post : Int → Mem → Prop} {K4 : Int → Int → Int → Mem → Prop} (X : Ax l x cX11_longest RX11 5 (rmd 1) 106 G) (hr : RI cX11_longest post G) (hK4 : ∀ (v1 : Int) (v2 : Int) (v3 : Int) (m : Mem), K4 v1 v2 v3 m → G 4 [(0, (2, 67)), (1, (0, v1)), (2, (0, v2)), (3, (0, v3))] [] m) (v1 : Int) (v2 : Int) (v3 : Int) (s0 : Int) (m : Mem) (h : wp_X11_longest_78 v1 v2 v3 s0 m K4 post) : G 78 [(0, (2, 67)), (1, (0, v1)), (2, (0, v2)), (3, (0, v3))] [(0, s0)] m := by
  unfold wp_X11_longest_78 at h
  refine g_istore (i := 4) (lv' := [(4, (0, s0)), (0, (2, 67)), (1, (0, v1)), (2, (0, v2)), (3, (0, v3))]) X dX11_longest_78 (by decide) rfl ?_
  refine g_iload 0 (i := 4) X dX11_longest_80 rfl ?_
  refine g_if_eq X dX11_longest_82 (tgt := 117) (by decide) (fun hc => ?_) (fun hc => ?_)
  · have h := h.1 hc
    refine g_iinc 4 (lv' := [(3, (0, w32 (v3 + 1))), (4, (0, s0)), (0, (2, 67)), (1, (0, v1)), (2, (0, v2))]) X dX11_longest_117 rfl (by decide) rfl ?_
    refine g_goto X dX11_longest_120 (tgt := 4) (by decide) ?_
    exact g_sub X [2, 3, 4, 0] rfl (hK4 _ _ _ _ h)
  · have h := h.2 hc
    refine g_iload_n 3 (i := 2) X dX11_longest_85 rfl rfl ?_
    refine g_iconst X dX11_longest_86 (by decide) ?_
    refine g_icmp_eq X dX11_longest_87 (tgt := 115) (by decide) (fun hc => ?_) (fun hc => ?_)
    · have h := h.1 hc
      refine g_iload_n 4 (i := 3) X dX11_longest_115 rfl rfl ?_
      refine g_istore_n (i := 2) (lv' := [(2, (0, v3)), (4, (0, s0)), (0, (2, 67)), (1, (0, v1)), (3, (0, v3))]) X dX11_longest_116 rfl (by decide) rfl ?_
      refine g_iinc 4 (lv' := [(3, (0, w32 (v3 + 1))), (2, (0, v3)), (4, (0, s0)), (0, (2, 67)), (1, (0, v1))]) X dX11_longest_117 rfl (by decide) rfl ?_
      refine g_goto X dX11_longest_120 (tgt := 4) (by decide) ?_
      exact g_sub X [3, 4, 1, 0] rfl (hK4 _ _ _ _ h)
    · have h := h.2 hc
      refine g_aload_n 1 (i := 0) X dX11_longest_90 rfl rfl ?_
      refine g_getR X dX11_longest_91 fX11_38 ?_
      refine g_bipush X dX11_longest_94 (by decide) ?_
      refine g_iload_n 4 (i := 3) X dX11_longest_96 rfl rfl ?_
      refine g_imul X dX11_longest_97 ?_
      refine g_iconst X dX11_longest_98 (by decide) ?_
      refine g_iadd X dX11_longest_99 ?_
      obtain ⟨hi, h⟩ := h
      refine g_iald X dX11_longest_100 rfl hi ?_
      refine g_aload_n 1 (i := 0) X dX11_longest_101 rfl rfl ?_
      refine g_getR X dX11_longest_102 fX11_38 ?_
      refine g_bipush X dX11_longest_105 (by decide) ?_
      refine g_iload_n 3 (i := 2) X dX11_longest_107 rfl rfl ?_
      refine g_imul X dX11_longest_108 ?_
      refine g_iconst X dX11_longest_109 (by decide) ?_
      refine g_iadd X dX11_longest_110 ?_
      obtain ⟨hi, h⟩ := h
      refine g_iald X dX11_longest_111 rfl hi ?_
      refine g_icmp_ge X dX11_longest_112 (tgt := 117) (by decide) (fun hc => ?_) (fun hc => ?_)
      · have h := h.1 hc
        refine g_iinc 4 (lv' := [(3, (0, w32 (v3 + 1))), (4, (0, s0)), (0, (2, 67)), (1, (0, v1)), (2, (0, v2))]) X dX11_longest_117 rfl (by decide) rfl ?_
        refine g_goto X dX11_longest_120 (tgt := 4) (by decide) ?_
        exact g_sub X [2, 3, 4, 0] rfl (hK4 _ _ _ _ h)
      · have h := h.2 hc
        refine g_iload_n 4 (i := 3) X dX11_longest_115 rfl rfl ?_
        refine g_istore_n (i := 2) (lv' := [(2, (0, v3)), (4, (0, s0)), (0, (2, 67)), (1, (0, v1)), (3, (0, v3))]) X dX11_longest_116 rfl (by decide) rfl ?_
        refine g_iinc 4 (lv' := [(3, (0, w32 (v3 + 1))), (2, (0, v3)), (4, (0, s0)), (0, (2, 67)), (1, (0, v1))]) X dX11_longest_117 rfl (by decide) rfl ?_
        refine g_goto X dX11_longest_120 (tgt := 4) (by decide) ?_
        exact g_sub X [3, 4, 1, 0] rfl (hK4 _ _ _ _ h)
def wp_X11_longest_77 (v1 : Int) (v2 : Int) (v3 : Int) (m : Mem) (K4 : Int → Int → Int → Mem → Prop) (post : Int → Mem → Prop) : Prop :=
  wp_X11_longest_78 v1 v2 v3 0 m (fun v1_1 v2_1 v3_1 m_1 => K4 v1_1 v2_1 v3_1 m_1) post
set_option maxRecDepth 100000 in
theorem pf_X11_longest_77 {l : Launch} {x : WX} {G : GT} {post : Int → Mem → Prop} {K4 : Int → Int → Int → Mem → Prop} (X : Ax l x cX11_longest RX11 5 (rmd 1) 106 G) (hr : RI cX11_longest post G) (hK4 : ∀ (v1 : Int) (v2 : Int) (v3 : Int) (m : Mem), K4 v1 v2 v3 m → G 4 [(0, (2, 67)), (1, (0, v1)), (2, (0, v2)), (3, (0, v3))] [] m) (v1 : Int) (v2 : Int) (v3 : Int) (m : Mem) (h : wp_X11_longest_77 v1 v2 v3 m K4 post) : G 77 [(0, (2, 67)), (1, (0, v1)), (2, (0, v2)), (3, (0, v3))] [] m := by
  unfold wp_X11_longest_77 at h
  refine g_iconst X dX11_longest_77 (by decide) ?_
  refine g_sub X [0, 1, 2, 3] rfl (pf_X11_longest_78 X hr (fun v1_1 v2_1 v3_1 m_1 h => ?_) _ _ _ _ _ h)
  · exact g_sub X [0, 1, 2, 3] rfl (hK4 _ _ _ _ h)
def wp_X11_longest_4  (post : Int → Mem → Prop) : Nat → Int → Int → Int → Mem → Prop
  | 0, _, _, _, _ => False
  | n + 1, v1, v2, v3, m =>
  ((m 67 13 ≤ v3 → (post v2 m)) ∧
  (¬ m 67 13 ≤ v3 → ((0 ≤ w32 (6 * v3) ∧ w32 (6 * v3) < 180) ∧ ((0 ≤ v1 ∧ v1 < 20) ∧ (((¬ m 77 (w32 (6 * v3)) = m 70 v1 → (wp_X11_longest_77 v1 v2 v3 m (fun v1_2 v2_2 v3_2 m_2 => wp_X11_longest_4  post n v1_2 v2_2 v3_2 m_2) post)) ∧
  (m 77 (w32 (6 * v3)) = m 70 v1 → ((0 ≤ w32 (w32 (6 * v3) + 2) ∧ w32 (w32 (6 * v3) + 2) < 180) ∧ (((m 67 18 < m 77 (w32 (w32 (6 * v3) + 2)) → (wp_X11_longest_77 v1 v2 v3 m (fun v1_3 v2_3 v3_3 m_3 => wp_X11_longest_4  post n v1_3 v2_3 v3_3 m_3) post)) ∧
  (¬ m 67 18 < m 77 (w32 (w32 (6 * v3) + 2)) → ((0 ≤ v1 ∧ v1 < 20) ∧ ((0 ≤ w32 (w32 (6 * v3) + 5) ∧ w32 (w32 (6 * v3) + 5) < 180) ∧ (wp_X11_goesOf (m 70 v1) (m 77 (w32 (w32 (6 * v3) + 5))) m (fun r66 m66 => ((¬ r66 = v1 → (wp_X11_longest_77 v1 v2 v3 m66 (fun v1_4 v2_4 v3_4 m_4 => wp_X11_longest_4  post n v1_4 v2_4 v3_4 m_4) post)) ∧
  (r66 = v1 → (wp_X11_longest_78 v1 v2 v3 1 m66 (fun v1_5 v2_5 v3_5 m_5 => wp_X11_longest_4  post n v1_5 v2_5 v3_5 m_5) post))))))))))))))))))
set_option maxRecDepth 100000 in
theorem pf_X11_longest_4 {l : Launch} {x : WX} {G : GT} {post : Int → Mem → Prop}  (X : Ax l x cX11_longest RX11 5 (rmd 1) 106 G) (hr : RI cX11_longest post G) : ∀ (n : Nat) (v1 : Int) (v2 : Int) (v3 : Int) (m : Mem) (_ : wp_X11_longest_4  post n v1 v2 v3 m), G 4 [(0, (2, 67)), (1, (0, v1)), (2, (0, v2)), (3, (0, v3))] [] m := by
  intro n
  induction n with
  | zero => intro v1 v2 v3 m h; exact absurd h id
  | succ n ih =>
  intro v1 v2 v3 m h
  unfold wp_X11_longest_4 at h
  refine g_iload_n 3 (i := 3) X dX11_longest_4 rfl rfl ?_
  refine g_aload_n 0 (i := 0) X dX11_longest_5 rfl rfl ?_
  refine g_getI X dX11_longest_6 fX11_147 ?_
  refine g_icmp_ge X dX11_longest_9 (tgt := 123) (by decide) (fun hc => ?_) (fun hc => ?_)
  · have h := h.1 hc
    refine g_iload_n 2 (i := 2) X dX11_longest_123 rfl rfl ?_
    exact hr _ _ _ _ _ dX11_longest_124 h
  · have h := h.2 hc
    refine g_aload_n 0 (i := 0) X dX11_longest_12 rfl rfl ?_
    refine g_getR X dX11_longest_13 fX11_38 ?_
    refine g_bipush X dX11_longest_16 (by decide) ?_
    refine g_iload_n 3 (i := 3) X dX11_longest_18 rfl rfl ?_
    refine g_imul X dX11_longest_19 ?_
    obtain ⟨hi, h⟩ := h
    refine g_iald X dX11_longest_20 rfl hi ?_
    refine g_aload_n 0 (i := 0) X dX11_longest_21 rfl rfl ?_
    refine g_getR X dX11_longest_22 fX11_17 ?_
    refine g_iload_n 1 (i := 1) X dX11_longest_25 rfl rfl ?_
    obtain ⟨hi, h⟩ := h
    refine g_iald X dX11_longest_26 rfl hi ?_
    refine g_icmp_ne X dX11_longest_27 (tgt := 77) (by decide) (fun hc => ?_) (fun hc => ?_)
    · have h := h.1 hc
      refine g_sub X [0, 1, 2, 3] rfl (pf_X11_longest_77 X hr (fun v1_2 v2_2 v3_2 m_2 h => ?_) _ _ _ _ h)
      · exact g_sub X [0, 1, 2, 3] rfl (ih _ _ _ _ h)
    · have h := h.2 hc
      refine g_aload_n 0 (i := 0) X dX11_longest_30 rfl rfl ?_
      refine g_getR X dX11_longest_31 fX11_38 ?_
      refine g_bipush X dX11_longest_34 (by decide) ?_
      refine g_iload_n 3 (i := 3) X dX11_longest_36 rfl rfl ?_
      refine g_imul X dX11_longest_37 ?_
      refine g_iconst X dX11_longest_38 (by decide) ?_
      refine g_iadd X dX11_longest_39 ?_
      obtain ⟨hi, h⟩ := h
      refine g_iald X dX11_longest_40 rfl hi ?_
      refine g_aload_n 0 (i := 0) X dX11_longest_41 rfl rfl ?_
      refine g_getI X dX11_longest_42 fX11_153 ?_
      refine g_icmp_gt X dX11_longest_45 (tgt := 77) (by decide) (fun hc => ?_) (fun hc => ?_)
      · have h := h.1 hc
        refine g_sub X [0, 1, 2, 3] rfl (pf_X11_longest_77 X hr (fun v1_3 v2_3 v3_3 m_3 h => ?_) _ _ _ _ h)
        · exact g_sub X [0, 1, 2, 3] rfl (ih _ _ _ _ h)
      · have h := h.2 hc
        refine g_aload_n 0 (i := 0) X dX11_longest_48 rfl rfl ?_
        refine g_aload_n 0 (i := 0) X dX11_longest_49 rfl rfl ?_
        refine g_getR X dX11_longest_50 fX11_17 ?_
        refine g_iload_n 1 (i := 1) X dX11_longest_53 rfl rfl ?_
        obtain ⟨hi, h⟩ := h
        refine g_iald X dX11_longest_54 rfl hi ?_
        refine g_aload_n 0 (i := 0) X dX11_longest_55 rfl rfl ?_
        refine g_getR X dX11_longest_56 fX11_38 ?_
        refine g_bipush X dX11_longest_59 (by decide) ?_
        refine g_iload_n 3 (i := 3) X dX11_longest_61 rfl rfl ?_
        refine g_imul X dX11_longest_62 ?_
        refine g_iconst X dX11_longest_63 (by decide) ?_
        refine g_iadd X dX11_longest_64 ?_
        obtain ⟨hi, h⟩ := h
        refine g_iald X dX11_longest_65 rfl hi ?_
        refine g_cVI (st := []) X dX11_longest_66 YX11_goesOf lX11_214 (by decide) (im_X11_goesOf l x _ _ _ _ h) rfl ⟨by decide, by decide⟩ rfl (Nat.le_of_ble_eq_true rfl) (fun r66 m66 h => ?_)
        refine g_iload_n 1 (i := 1) X dX11_longest_69 rfl rfl ?_
        refine g_icmp_ne X dX11_longest_70 (tgt := 77) (by decide) (fun hc => ?_) (fun hc => ?_)
        · have h := h.1 hc
          refine g_sub X [0, 1, 2, 3] rfl (pf_X11_longest_77 X hr (fun v1_4 v2_4 v3_4 m_4 h => ?_) _ _ _ _ h)
          · exact g_sub X [0, 1, 2, 3] rfl (ih _ _ _ _ h)
        · have h := h.2 hc
          refine g_iconst X dX11_longest_73 (by decide) ?_
          refine g_goto X dX11_longest_74 (tgt := 78) (by decide) ?_
          refine g_sub X [0, 1, 2, 3] rfl (pf_X11_longest_78 X hr (fun v1_5 v2_5 v3_5 m_5 h => ?_) _ _ _ _ _ h)
          · exact g_sub X [0, 1, 2, 3] rfl (ih _ _ _ _ h)
def wp_X11_longest (v1 : Int) (m : Mem) (post : Int → Mem → Prop) : Prop :=
  ∃ n_6 : Nat, wp_X11_longest_4  post n_6 v1 (-1) 0 m
set_option maxRecDepth 100000 in
theorem pf_X11_longest {l : Launch} {x : WX} {G : GT} {post : Int → Mem → Prop} (X : Ax l x cX11_longest RX11 5 (rmd 1) 106 G) (hr : RI cX11_longest post G) (v1 : Int) (m : Mem) (h : wp_X11_longest v1 m post) : G 0 [(0, (2, 67)), (1, (0, v1))] [] m := by
  unfold wp_X11_longest at h
  refine g_iconst X dX11_longest_0 (by decide) ?_
  refine g_istore_n (i := 2) (lv' := [(2, (0, (-1))), (0, (2, 67)), (1, (0, v1))]) X dX11_longest_1 rfl (by decide) rfl ?_
  refine g_iconst X dX11_longest_2 (by decide) ?_
  refine g_istore_n (i := 3) (lv' := [(3, (0, 0)), (2, (0, (-1))), (0, (2, 67)), (1, (0, v1))]) X dX11_longest_3 rfl (by decide) rfl ?_
  obtain ⟨n_6, h⟩ := h
  refine g_sub X [2, 3, 1, 0] rfl (pf_X11_longest_4 X hr  n_6 _ _ _ _ h)
theorem im_X11_longest (l : Launch) (x : WX) (v1 : Int) (m : Mem) (post : Int → Mem → Prop) (h : wp_X11_longest v1 m post) : MetI l x 106 1 yX11_longest cX11_longest 5 .int [(2, 67), (0, v1)] m post := met_I (by decide) (Nat.le_of_ble_eq_true rfl) (fun _ X hr => pf_X11_longest X hr v1 m h)
def wp_X11_leave_50 (K14 : Int → Int → Int → Mem → Prop) (post : Mem → Prop) : Nat → Int → Int → Int → Int → Int → Mem → Prop
  | 0, _, _, _, _, _, _ => False
  | n + 1, v1, v2, v3, v4, v5, m =>
  ((v2 ≤ 0 → (K14 v1 v2 (w32 (v3 + 1)) m)) ∧
  (¬ v2 ≤ 0 → (((v5 = (-1) → (K14 v1 v2 (w32 (v3 + 1)) m)) ∧
  (¬ v5 = (-1) → ((0 ≤ w32 (6 * v5) ∧ w32 (6 * v5) < 180) ∧ (∀ m70 : Mem, m70 = mset m 77 (w32 (6 * v5)) (-1) → ((0 ≤ w32 (w32 (6 * v5) + 1) ∧ w32 (w32 (6 * v5) + 1) < 180) ∧ (∀ m83 : Mem, m83 = mset m70 77 (w32 (w32 (6 * v5) + 1)) v1 → ((0 ≤ w32 (w32 (6 * v1) + 4) ∧ w32 (w32 (6 * v1) + 4) < 72) ∧ ((0 ≤ w32 (w32 (6 * v5) + 2) ∧ w32 (w32 (6 * v5) + 2) < 180) ∧ (∀ m111 : Mem, m111 = mset m83 77 (w32 (w32 (6 * v5) + 2)) (w32 (m83 67 18 + m83 74 (w32 (w32 (6 * v1) + 4)))) → ((0 ≤ w32 (w32 (6 * v5) + 3) ∧ w32 (w32 (6 * v5) + 3) < 180) ∧ ((0 ≤ w32 (w32 (6 * v5) + 3) ∧ w32 (w32 (6 * v5) + 3) < 180) ∧ (∀ m127 : Mem, m127 = mset m111 77 (w32 (w32 (6 * v5) + 3)) (w32 (m111 77 (w32 (w32 (6 * v5) + 3)) + 1)) → ((0 ≤ w32 (w32 (3 * v1) + 1) ∧ w32 (w32 (3 * v1) + 1) < 36) ∧ ((0 ≤ w32 (w32 (3 * v1) + 1) ∧ w32 (w32 (3 * v1) + 1) < 36) ∧ (∀ m141 : Mem, m141 = mset m127 75 (w32 (w32 (3 * v1) + 1)) (w32 (m127 75 (w32 (w32 (3 * v1) + 1)) + 1)) → (wp_X11_longest v4 m141 (fun r148 m148 => wp_X11_leave_50 K14 post n v1 (w32 (v2 + (-1))) v3 v4 r148 m148))))))))))))))))))))
set_option maxRecDepth 100000 in
theorem pf_X11_leave_50 {l : Launch} {x : WX} {G : GT} {post : Mem → Prop} {K14 : Int → Int → Int → Mem → Prop} (X : Ax l x cX11_leave RX11 6 (rmd 2) 106 G) (hr : RV cX11_leave post G) (hK14 : ∀ (v1 : Int) (v2 : Int) (v3 : Int) (m : Mem), K14 v1 v2 v3 m → G 14 [(0, (2, 67)), (1, (0, v1)), (2, (0, v2)), (3, (0, v3))] [] m) : ∀ (n : Nat) (v1 : Int) (v2 : Int) (v3 : Int) (v4 : Int) (v5 : Int) (m : Mem) (_ : wp_X11_leave_50 K14 post n v1 v2 v3 v4 v5 m), G 50 [(0, (2, 67)), (1, (0, v1)), (2, (0, v2)), (3, (0, v3)), (4, (0, v4)), (5, (0, v5))] [] m := by
  intro n
  induction n with
  | zero => intro v1 v2 v3 v4 v5 m h; exact absurd h id
  | succ n ih =>
  intro v1 v2 v3 v4 v5 m h
  unfold wp_X11_leave_50 at h
  refine g_iload_n 2 (i := 2) X dX11_leave_50 rfl rfl ?_
  refine g_if_le X dX11_leave_51 (tgt := 156) (by decide) (fun hc => ?_) (fun hc => ?_)
  · have h := h.1 hc
    refine g_iinc 3 (lv' := [(3, (0, w32 (v3 + 1))), (0, (2, 67)), (1, (0, v1)), (2, (0, v2)), (4, (0, v4)), (5, (0, v5))]) X dX11_leave_156 rfl (by decide) rfl ?_
    refine g_goto X dX11_leave_159 (tgt := 14) (by decide) ?_
    exact g_sub X [1, 2, 3, 0] rfl (hK14 _ _ _ _ h)
  · have h := h.2 hc
    refine g_iload 5 (i := 5) X dX11_leave_54 rfl ?_
    refine g_iconst X dX11_leave_56 (by decide) ?_
    refine g_icmp_eq X dX11_leave_57 (tgt := 156) (by decide) (fun hc => ?_) (fun hc => ?_)
    · have h := h.1 hc
      refine g_iinc 3 (lv' := [(3, (0, w32 (v3 + 1))), (0, (2, 67)), (1, (0, v1)), (2, (0, v2)), (4, (0, v4)), (5, (0, v5))]) X dX11_leave_156 rfl (by decide) rfl ?_
      refine g_goto X dX11_leave_159 (tgt := 14) (by decide) ?_
      exact g_sub X [1, 2, 3, 0] rfl (hK14 _ _ _ _ h)
    · have h := h.2 hc
      refine g_aload_n 0 (i := 0) X dX11_leave_60 rfl rfl ?_
      refine g_getR X dX11_leave_61 fX11_38 ?_
      refine g_bipush X dX11_leave_64 (by decide) ?_
      refine g_iload 5 (i := 5) X dX11_leave_66 rfl ?_
      refine g_imul X dX11_leave_68 ?_
      refine g_iconst X dX11_leave_69 (by decide) ?_
      obtain ⟨hi, h⟩ := h
      refine g_iast X dX11_leave_70 rfl hi (fun m70 em70 => ?_)
      have h := h m70 em70
      refine g_aload_n 0 (i := 0) X dX11_leave_71 rfl rfl ?_
      refine g_getR X dX11_leave_72 fX11_38 ?_
      refine g_bipush X dX11_leave_75 (by decide) ?_
      refine g_iload 5 (i := 5) X dX11_leave_77 rfl ?_
      refine g_imul X dX11_leave_79 ?_
      refine g_iconst X dX11_leave_80 (by decide) ?_
      refine g_iadd X dX11_leave_81 ?_
      refine g_iload_n 1 (i := 1) X dX11_leave_82 rfl rfl ?_
      obtain ⟨hi, h⟩ := h
      refine g_iast X dX11_leave_83 rfl hi (fun m83 em83 => ?_)
      have h := h m83 em83
      refine g_aload_n 0 (i := 0) X dX11_leave_84 rfl rfl ?_
      refine g_getR X dX11_leave_85 fX11_38 ?_
      refine g_bipush X dX11_leave_88 (by decide) ?_
      refine g_iload 5 (i := 5) X dX11_leave_90 rfl ?_
      refine g_imul X dX11_leave_92 ?_
      refine g_iconst X dX11_leave_93 (by decide) ?_
      refine g_iadd X dX11_leave_94 ?_
      refine g_aload_n 0 (i := 0) X dX11_leave_95 rfl rfl ?_
      refine g_getI X dX11_leave_96 fX11_153 ?_
      refine g_aload_n 0 (i := 0) X dX11_leave_99 rfl rfl ?_
      refine g_getR X dX11_leave_100 fX11_29 ?_
      refine g_bipush X dX11_leave_103 (by decide) ?_
      refine g_iload_n 1 (i := 1) X dX11_leave_105 rfl rfl ?_
      refine g_imul X dX11_leave_106 ?_
      refine g_iconst X dX11_leave_107 (by decide) ?_
      refine g_iadd X dX11_leave_108 ?_
      obtain ⟨hi, h⟩ := h
      refine g_iald X dX11_leave_109 rfl hi ?_
      refine g_iadd X dX11_leave_110 ?_
      obtain ⟨hi, h⟩ := h
      refine g_iast X dX11_leave_111 rfl hi (fun m111 em111 => ?_)
      have h := h m111 em111
      refine g_aload_n 0 (i := 0) X dX11_leave_112 rfl rfl ?_
      refine g_getR X dX11_leave_113 fX11_38 ?_
      refine g_bipush X dX11_leave_116 (by decide) ?_
      refine g_iload 5 (i := 5) X dX11_leave_118 rfl ?_
      refine g_imul X dX11_leave_120 ?_
      refine g_iconst X dX11_leave_121 (by decide) ?_
      refine g_iadd X dX11_leave_122 ?_
      refine g_dup2 X dX11_leave_123 rfl rfl ?_
      obtain ⟨hi, h⟩ := h
      refine g_iald X dX11_leave_124 rfl hi ?_
      refine g_iconst X dX11_leave_125 (by decide) ?_
      refine g_iadd X dX11_leave_126 ?_
      obtain ⟨hi, h⟩ := h
      refine g_iast X dX11_leave_127 rfl hi (fun m127 em127 => ?_)
      have h := h m127 em127
      refine g_aload_n 0 (i := 0) X dX11_leave_128 rfl rfl ?_
      refine g_getR X dX11_leave_129 fX11_32 ?_
      refine g_iconst X dX11_leave_132 (by decide) ?_
      refine g_iload_n 1 (i := 1) X dX11_leave_133 rfl rfl ?_
      refine g_imul X dX11_leave_134 ?_
      refine g_iconst X dX11_leave_135 (by decide) ?_
      refine g_iadd X dX11_leave_136 ?_
      refine g_dup2 X dX11_leave_137 rfl rfl ?_
      obtain ⟨hi, h⟩ := h
      refine g_iald X dX11_leave_138 rfl hi ?_
      refine g_iconst X dX11_leave_139 (by decide) ?_
      refine g_iadd X dX11_leave_140 ?_
      obtain ⟨hi, h⟩ := h
      refine g_iast X dX11_leave_141 rfl hi (fun m141 em141 => ?_)
      have h := h m141 em141
      refine g_iinc 2 (lv' := [(2, (0, w32 (v2 + (-1)))), (0, (2, 67)), (1, (0, v1)), (3, (0, v3)), (4, (0, v4)), (5, (0, v5))]) X dX11_leave_142 rfl (by decide) rfl ?_
      refine g_aload_n 1 (i := 0) X dX11_leave_145 rfl rfl ?_
      refine g_iload 4 (i := 4) X dX11_leave_146 rfl ?_
      refine g_cVI (st := []) X dX11_leave_148 YX11_longest lX11_228 (by decide) (im_X11_longest l x _ _ _ h) rfl ⟨by decide, by decide⟩ rfl (Nat.le_of_ble_eq_true rfl) (fun r148 m148 h => ?_)
      refine g_istore (i := 5) (lv' := [(5, (0, r148)), (2, (0, w32 (v2 + (-1)))), (0, (2, 67)), (1, (0, v1)), (3, (0, v3)), (4, (0, v4))]) X dX11_leave_151 (by decide) rfl ?_
      refine g_goto X dX11_leave_153 (tgt := 50) (by decide) ?_
      exact g_sub X [2, 3, 1, 4, 5, 0] rfl (ih _ _ _ _ _ _ h)
def wp_X11_leave_14 (K162 : Int → Mem → Prop) (post : Mem → Prop) : Nat → Int → Int → Int → Mem → Prop
  | 0, _, _, _, _ => False
  | n + 1, v1, v2, v3, m =>
  ((2 ≤ v3 → (K162 v1 m)) ∧
  (¬ 2 ≤ v3 → ((0 ≤ w32 (w32 (6 * v1) + v3) ∧ w32 (w32 (6 * v1) + v3) < 72) ∧ (∀ v4_30 : Int, v4_30 = m 74 (w32 (w32 (6 * v1) + v3)) → (((¬ v4_30 = (-1) → (wp_X11_longest v4_30 m (fun r45 m45 => ∃ n_4 : Nat, wp_X11_leave_50 (fun v1_3 v2_3 v3_3 m_3 => wp_X11_leave_14 K162 post n v1_3 v2_3 v3_3 m_3) post n_4 v1 v2 v3 v4_30 r45 m45))) ∧
  (v4_30 = (-1) → (∃ n_6 : Nat, wp_X11_leave_50 (fun v1_5 v2_5 v3_5 m_5 => wp_X11_leave_14 K162 post n v1_5 v2_5 v3_5 m_5) post n_6 v1 v2 v3 v4_30 (-1) m))))))))
set_option maxRecDepth 100000 in
theorem pf_X11_leave_14 {l : Launch} {x : WX} {G : GT} {post : Mem → Prop} {K162 : Int → Mem → Prop} (X : Ax l x cX11_leave RX11 6 (rmd 2) 106 G) (hr : RV cX11_leave post G) (hK162 : ∀ (v1 : Int) (m : Mem), K162 v1 m → G 162 [(0, (2, 67)), (1, (0, v1))] [] m) : ∀ (n : Nat) (v1 : Int) (v2 : Int) (v3 : Int) (m : Mem) (_ : wp_X11_leave_14 K162 post n v1 v2 v3 m), G 14 [(0, (2, 67)), (1, (0, v1)), (2, (0, v2)), (3, (0, v3))] [] m := by
  intro n
  induction n with
  | zero => intro v1 v2 v3 m h; exact absurd h id
  | succ n ih =>
  intro v1 v2 v3 m h
  unfold wp_X11_leave_14 at h
  refine g_iload_n 3 (i := 3) X dX11_leave_14 rfl rfl ?_
  refine g_iconst X dX11_leave_15 (by decide) ?_
  refine g_icmp_ge X dX11_leave_16 (tgt := 162) (by decide) (fun hc => ?_) (fun hc => ?_)
  · have h := h.1 hc
    exact g_sub X [0, 1] rfl (hK162 _ _ h)
  · have h := h.2 hc
    refine g_aload_n 0 (i := 0) X dX11_leave_19 rfl rfl ?_
    refine g_getR X dX11_leave_20 fX11_29 ?_
    refine g_bipush X dX11_leave_23 (by decide) ?_
    refine g_iload_n 1 (i := 1) X dX11_leave_25 rfl rfl ?_
    refine g_imul X dX11_leave_26 ?_
    refine g_iload_n 3 (i := 3) X dX11_leave_27 rfl rfl ?_
    refine g_iadd X dX11_leave_28 ?_
    obtain ⟨hi, h⟩ := h
    refine g_iald X dX11_leave_29 rfl hi ?_
    refine g_nmI (fun v4_30 ev4_30 => ?_)
    have h := h v4_30 ev4_30
    refine g_istore (i := 4) (lv' := [(4, (0, v4_30)), (0, (2, 67)), (1, (0, v1)), (2, (0, v2)), (3, (0, v3))]) X dX11_leave_30 (by decide) rfl ?_
    refine g_iload 0 (i := 4) X dX11_leave_32 rfl ?_
    refine g_iconst X dX11_leave_34 (by decide) ?_
    refine g_icmp_ne X dX11_leave_35 (tgt := 42) (by decide) (fun hc => ?_) (fun hc => ?_)
    · have h := h.1 hc
      refine g_aload_n 1 (i := 0) X dX11_leave_42 rfl rfl ?_
      refine g_iload 0 (i := 4) X dX11_leave_43 rfl ?_
      refine g_cVI (st := []) X dX11_leave_45 YX11_longest lX11_228 (by decide) (im_X11_longest l x _ _ _ h) rfl ⟨by decide, by decide⟩ rfl (Nat.le_of_ble_eq_true rfl) (fun r45 m45 h => ?_)
      refine g_istore (i := 5) (lv' := [(5, (0, r45)), (4, (0, v4_30)), (0, (2, 67)), (1, (0, v1)), (2, (0, v2)), (3, (0, v3))]) X dX11_leave_48 (by decide) rfl ?_
      obtain ⟨n_4, h⟩ := h
      refine g_sub X [2, 3, 4, 5, 1, 0] rfl (pf_X11_leave_50 X hr (fun v1_3 v2_3 v3_3 m_3 h => ?_) n_4 _ _ _ _ _ _ h)
      · exact g_sub X [0, 1, 2, 3] rfl (ih _ _ _ _ h)
    · have h := h.2 hc
      refine g_iconst X dX11_leave_38 (by decide) ?_
      refine g_goto X dX11_leave_39 (tgt := 48) (by decide) ?_
      refine g_istore (i := 5) (lv' := [(5, (0, (-1))), (4, (0, v4_30)), (0, (2, 67)), (1, (0, v1)), (2, (0, v2)), (3, (0, v3))]) X dX11_leave_48 (by decide) rfl ?_
      obtain ⟨n_6, h⟩ := h
      refine g_sub X [2, 3, 4, 5, 1, 0] rfl (pf_X11_leave_50 X hr (fun v1_5 v2_5 v3_5 m_5 h => ?_) n_6 _ _ _ _ _ _ h)
      · exact g_sub X [0, 1, 2, 3] rfl (ih _ _ _ _ h)
def wp_X11_leave_176 (K196 : Int → Int → Mem → Prop) (post : Mem → Prop) : Nat → Int → Int → Mem → Prop
  | 0, _, _, _ => False
  | n + 1, v1, v3, m =>
  (0 ≤ w32 (w32 (4 * v1) + v3) ∧ w32 (w32 (4 * v1) + v3) < 48) ∧ (((m 76 (w32 (w32 (4 * v1) + v3)) = (-1) → (K196 v1 v3 m)) ∧
  (¬ m 76 (w32 (w32 (4 * v1) + v3)) = (-1) → (wp_X11_leave_176 K196 post n v1 (w32 (v3 + 1)) m))))
set_option maxRecDepth 100000 in
theorem pf_X11_leave_176 {l : Launch} {x : WX} {G : GT} {post : Mem → Prop} {K196 : Int → Int → Mem → Prop} (X : Ax l x cX11_leave RX11 6 (rmd 2) 106 G) (hr : RV cX11_leave post G) (hK196 : ∀ (v1 : Int) (v3 : Int) (m : Mem), K196 v1 v3 m → G 196 [(0, (2, 67)), (1, (0, v1)), (3, (0, v3))] [] m) : ∀ (n : Nat) (v1 : Int) (v3 : Int) (m : Mem) (_ : wp_X11_leave_176 K196 post n v1 v3 m), G 176 [(0, (2, 67)), (1, (0, v1)), (3, (0, v3))] [] m := by
  intro n
  induction n with
  | zero => intro v1 v3 m h; exact absurd h id
  | succ n ih =>
  intro v1 v3 m h
  unfold wp_X11_leave_176 at h
  refine g_aload_n 0 (i := 0) X dX11_leave_176 rfl rfl ?_
  refine g_getR X dX11_leave_177 fX11_35 ?_
  refine g_iconst X dX11_leave_180 (by decide) ?_
  refine g_iload_n 1 (i := 1) X dX11_leave_181 rfl rfl ?_
  refine g_imul X dX11_leave_182 ?_
  refine g_iload_n 2 (i := 3) X dX11_leave_183 rfl rfl ?_
  refine g_iadd X dX11_leave_184 ?_
  obtain ⟨hi, h⟩ := h
  refine g_iald X dX11_leave_185 rfl hi ?_
  refine g_iconst X dX11_leave_186 (by decide) ?_
  refine g_icmp_eq X dX11_leave_187 (tgt := 196) (by decide) (fun hc => ?_) (fun hc => ?_)
  · have h := h.1 hc
    exact g_sub X [0, 1, 2] rfl (hK196 _ _ _ h)
  · have h := h.2 hc
    refine g_iinc 2 (lv' := [(3, (0, w32 (v3 + 1))), (0, (2, 67)), (1, (0, v1))]) X dX11_leave_190 rfl (by decide) rfl ?_
    refine g_goto X dX11_leave_193 (tgt := 176) (by decide) ?_
    exact g_sub X [1, 2, 0] rfl (ih _ _ _ h)
def wp_X11_leave (v1 : Int) (m : Mem) (post : Mem → Prop) : Prop :=
  (0 ≤ w32 (w32 (6 * v1) + 5) ∧ w32 (w32 (6 * v1) + 5) < 72) ∧ (∀ v2_11 : Int, v2_11 = m 74 (w32 (w32 (6 * v1) + 5)) → (∃ n_10 : Nat, wp_X11_leave_14 (fun v1_7 m_7 => (0 ≤ w32 (3 * v1_7) ∧ w32 (3 * v1_7) < 36) ∧ ((0 ≤ w32 (3 * v1_7) ∧ w32 (3 * v1_7) < 36) ∧ (∀ m173 : Mem, m173 = mset m_7 75 (w32 (3 * v1_7)) (w32 (m_7 75 (w32 (3 * v1_7)) + 1)) → (∃ n_9 : Nat, wp_X11_leave_176 (fun v1_8 v3_8 m_8 => (0 ≤ w32 (w32 (6 * v1_8) + 4) ∧ w32 (w32 (6 * v1_8) + 4) < 72) ∧ ((0 ≤ w32 (w32 (4 * v1_8) + v3_8) ∧ w32 (w32 (4 * v1_8) + v3_8) < 48) ∧ (∀ m221 : Mem, m221 = mset m_8 76 (w32 (w32 (4 * v1_8) + v3_8)) (w32 (m_8 67 18 + m_8 74 (w32 (w32 (6 * v1_8) + 4)))) → (post m221)))) post n_9 v1_7 0 m173)))) post n_10 v1 v2_11 0 m))
set_option maxRecDepth 100000 in
theorem pf_X11_leave {l : Launch} {x : WX} {G : GT} {post : Mem → Prop} (X : Ax l x cX11_leave RX11 6 (rmd 2) 106 G) (hr : RV cX11_leave post G) (v1 : Int) (m : Mem) (h : wp_X11_leave v1 m post) : G 0 [(0, (2, 67)), (1, (0, v1))] [] m := by
  unfold wp_X11_leave at h
  refine g_aload_n 0 (i := 0) X dX11_leave_0 rfl rfl ?_
  refine g_getR X dX11_leave_1 fX11_29 ?_
  refine g_bipush X dX11_leave_4 (by decide) ?_
  refine g_iload_n 1 (i := 1) X dX11_leave_6 rfl rfl ?_
  refine g_imul X dX11_leave_7 ?_
  refine g_iconst X dX11_leave_8 (by decide) ?_
  refine g_iadd X dX11_leave_9 ?_
  obtain ⟨hi, h⟩ := h
  refine g_iald X dX11_leave_10 rfl hi ?_
  refine g_nmI (fun v2_11 ev2_11 => ?_)
  have h := h v2_11 ev2_11
  refine g_istore_n (i := 2) (lv' := [(2, (0, v2_11)), (0, (2, 67)), (1, (0, v1))]) X dX11_leave_11 rfl (by decide) rfl ?_
  refine g_iconst X dX11_leave_12 (by decide) ?_
  refine g_istore_n (i := 3) (lv' := [(3, (0, 0)), (2, (0, v2_11)), (0, (2, 67)), (1, (0, v1))]) X dX11_leave_13 rfl (by decide) rfl ?_
  obtain ⟨n_10, h⟩ := h
  refine g_sub X [2, 3, 1, 0] rfl (pf_X11_leave_14 X hr (fun v1_7 m_7 h => ?_) n_10 _ _ _ _ h)
  · refine g_aload_n 0 (i := 0) X dX11_leave_162 rfl rfl ?_
    refine g_getR X dX11_leave_163 fX11_32 ?_
    refine g_iconst X dX11_leave_166 (by decide) ?_
    refine g_iload_n 1 (i := 1) X dX11_leave_167 rfl rfl ?_
    refine g_imul X dX11_leave_168 ?_
    refine g_dup2 X dX11_leave_169 rfl rfl ?_
    obtain ⟨hi, h⟩ := h
    refine g_iald X dX11_leave_170 rfl hi ?_
    refine g_iconst X dX11_leave_171 (by decide) ?_
    refine g_iadd X dX11_leave_172 ?_
    obtain ⟨hi, h⟩ := h
    refine g_iast X dX11_leave_173 rfl hi (fun m173 em173 => ?_)
    have h := h m173 em173
    refine g_iconst X dX11_leave_174 (by decide) ?_
    refine g_istore_n (i := 3) (lv' := [(3, (0, 0)), (0, (2, 67)), (1, (0, v1_7))]) X dX11_leave_175 rfl (by decide) rfl ?_
    obtain ⟨n_9, h⟩ := h
    refine g_sub X [1, 2, 0] rfl (pf_X11_leave_176 X hr (fun v1_8 v3_8 m_8 h => ?_) n_9 _ _ _ h)
    · refine g_aload_n 0 (i := 0) X dX11_leave_196 rfl rfl ?_
      refine g_getR X dX11_leave_197 fX11_35 ?_
      refine g_iconst X dX11_leave_200 (by decide) ?_
      refine g_iload_n 1 (i := 1) X dX11_leave_201 rfl rfl ?_
      refine g_imul X dX11_leave_202 ?_
      refine g_iload_n 2 (i := 3) X dX11_leave_203 rfl rfl ?_
      refine g_iadd X dX11_leave_204 ?_
      refine g_aload_n 0 (i := 0) X dX11_leave_205 rfl rfl ?_
      refine g_getI X dX11_leave_206 fX11_153 ?_
      refine g_aload_n 0 (i := 0) X dX11_leave_209 rfl rfl ?_
      refine g_getR X dX11_leave_210 fX11_29 ?_
      refine g_bipush X dX11_leave_213 (by decide) ?_
      refine g_iload_n 1 (i := 1) X dX11_leave_215 rfl rfl ?_
      refine g_imul X dX11_leave_216 ?_
      refine g_iconst X dX11_leave_217 (by decide) ?_
      refine g_iadd X dX11_leave_218 ?_
      obtain ⟨hi, h⟩ := h
      refine g_iald X dX11_leave_219 rfl hi ?_
      refine g_iadd X dX11_leave_220 ?_
      obtain ⟨hi, h⟩ := h
      refine g_iast X dX11_leave_221 rfl hi (fun m221 em221 => ?_)
      have h := h m221 em221
      exact hr _ _ _ _ dX11_leave_222 h
theorem im_X11_leave (l : Launch) (x : WX) (v1 : Int) (m : Mem) (post : Mem → Prop) (h : wp_X11_leave v1 m post) : MetV l x 106 2 yX11_leave cX11_leave 6 [(2, 67), (0, v1)] m post := met_V (by decide) (Nat.le_of_ble_eq_true rfl) (fun _ X hr => pf_X11_leave X hr v1 m h)
def wp_X11_anHour_12 (K2 : Int → Mem → Prop) (post : Mem → Prop) : Nat → Int → Int → Mem → Prop
  | 0, _, _, _ => False
  | n + 1, v1, v2, m =>
  ((4 ≤ v2 → (K2 (w32 (v1 + 1)) m)) ∧
  (¬ 4 ≤ v2 → ((0 ≤ w32 (w32 (4 * v1) + v2) ∧ w32 (w32 (4 * v1) + v2) < 48) ∧ (((¬ m 76 (w32 (w32 (4 * v1) + v2)) = m 67 18 → (wp_X11_anHour_12 K2 post n v1 (w32 (v2 + 1)) m)) ∧
  (m 76 (w32 (w32 (4 * v1) + v2)) = m 67 18 → ((0 ≤ w32 (w32 (4 * v1) + v2) ∧ w32 (w32 (4 * v1) + v2) < 48) ∧ (∀ m44 : Mem, m44 = mset m 76 (w32 (w32 (4 * v1) + v2)) (-1) → (wp_X11_comeIn v1 m44 (fun m47 => wp_X11_anHour_12 K2 post n v1 (w32 (v2 + 1)) m47))))))))))
set_option maxRecDepth 100000 in
theorem pf_X11_anHour_12 {l : Launch} {x : WX} {G : GT} {post : Mem → Prop} {K2 : Int → Mem → Prop} (X : Ax l x cX11_anHour RX11 5 (rmd 3) 106 G) (hr : RV cX11_anHour post G) (hK2 : ∀ (v1 : Int) (m : Mem), K2 v1 m → G 2 [(0, (2, 67)), (1, (0, v1))] [] m) : ∀ (n : Nat) (v1 : Int) (v2 : Int) (m : Mem) (_ : wp_X11_anHour_12 K2 post n v1 v2 m), G 12 [(0, (2, 67)), (1, (0, v1)), (2, (0, v2))] [] m := by
  intro n
  induction n with
  | zero => intro v1 v2 m h; exact absurd h id
  | succ n ih =>
  intro v1 v2 m h
  unfold wp_X11_anHour_12 at h
  refine g_iload_n 2 (i := 2) X dX11_anHour_12 rfl rfl ?_
  refine g_iconst X dX11_anHour_13 (by decide) ?_
  refine g_icmp_ge X dX11_anHour_14 (tgt := 56) (by decide) (fun hc => ?_) (fun hc => ?_)
  · have h := h.1 hc
    refine g_iinc 1 (lv' := [(1, (0, w32 (v1 + 1))), (0, (2, 67)), (2, (0, v2))]) X dX11_anHour_56 rfl (by decide) rfl ?_
    refine g_goto X dX11_anHour_59 (tgt := 2) (by decide) ?_
    exact g_sub X [1, 0] rfl (hK2 _ _ h)
  · have h := h.2 hc
    refine g_aload_n 0 (i := 0) X dX11_anHour_17 rfl rfl ?_
    refine g_getR X dX11_anHour_18 fX11_35 ?_
    refine g_iconst X dX11_anHour_21 (by decide) ?_
    refine g_iload_n 1 (i := 1) X dX11_anHour_22 rfl rfl ?_
    refine g_imul X dX11_anHour_23 ?_
    refine g_iload_n 2 (i := 2) X dX11_anHour_24 rfl rfl ?_
    refine g_iadd X dX11_anHour_25 ?_
    obtain ⟨hi, h⟩ := h
    refine g_iald X dX11_anHour_26 rfl hi ?_
    refine g_aload_n 0 (i := 0) X dX11_anHour_27 rfl rfl ?_
    refine g_getI X dX11_anHour_28 fX11_153 ?_
    refine g_icmp_ne X dX11_anHour_31 (tgt := 50) (by decide) (fun hc => ?_) (fun hc => ?_)
    · have h := h.1 hc
      refine g_iinc 2 (lv' := [(2, (0, w32 (v2 + 1))), (0, (2, 67)), (1, (0, v1))]) X dX11_anHour_50 rfl (by decide) rfl ?_
      refine g_goto X dX11_anHour_53 (tgt := 12) (by decide) ?_
      exact g_sub X [1, 2, 0] rfl (ih _ _ _ h)
    · have h := h.2 hc
      refine g_aload_n 0 (i := 0) X dX11_anHour_34 rfl rfl ?_
      refine g_getR X dX11_anHour_35 fX11_35 ?_
      refine g_iconst X dX11_anHour_38 (by decide) ?_
      refine g_iload_n 1 (i := 1) X dX11_anHour_39 rfl rfl ?_
      refine g_imul X dX11_anHour_40 ?_
      refine g_iload_n 2 (i := 2) X dX11_anHour_41 rfl rfl ?_
      refine g_iadd X dX11_anHour_42 ?_
      refine g_iconst X dX11_anHour_43 (by decide) ?_
      obtain ⟨hi, h⟩ := h
      refine g_iast X dX11_anHour_44 rfl hi (fun m44 em44 => ?_)
      have h := h m44 em44
      refine g_aload_n 0 (i := 0) X dX11_anHour_45 rfl rfl ?_
      refine g_iload_n 1 (i := 1) X dX11_anHour_46 rfl rfl ?_
      refine g_cVV (st := []) X dX11_anHour_47 YX11_comeIn lX11_232 (by decide) (im_X11_comeIn l x _ _ _ h) rfl ⟨by decide, by decide⟩ rfl (Nat.le_of_ble_eq_true rfl) (fun m47 h => ?_)
      refine g_iinc 2 (lv' := [(2, (0, w32 (v2 + 1))), (0, (2, 67)), (1, (0, v1))]) X dX11_anHour_50 rfl (by decide) rfl ?_
      refine g_goto X dX11_anHour_53 (tgt := 12) (by decide) ?_
      exact g_sub X [1, 2, 0] rfl (ih _ _ _ h)
def wp_X11_anHour_2 (K62 : Mem → Prop) (post : Mem → Prop) : Nat → Int → Mem → Prop
  | 0, _, _ => False
  | n + 1, v1, m =>
  ((m 67 9 ≤ v1 → (K62 m)) ∧
  (¬ m 67 9 ≤ v1 → (∃ n_2 : Nat, wp_X11_anHour_12 (fun v1_1 m_1 => wp_X11_anHour_2 K62 post n v1_1 m_1) post n_2 v1 0 m)))
set_option maxRecDepth 100000 in
theorem pf_X11_anHour_2 {l : Launch} {x : WX} {G : GT} {post : Mem → Prop} {K62 : Mem → Prop} (X : Ax l x cX11_anHour RX11 5 (rmd 3) 106 G) (hr : RV cX11_anHour post G) (hK62 : ∀ (m : Mem), K62  m → G 62 [(0, (2, 67))] [] m) : ∀ (n : Nat) (v1 : Int) (m : Mem) (_ : wp_X11_anHour_2 K62 post n v1 m), G 2 [(0, (2, 67)), (1, (0, v1))] [] m := by
  intro n
  induction n with
  | zero => intro v1 m h; exact absurd h id
  | succ n ih =>
  intro v1 m h
  unfold wp_X11_anHour_2 at h
  refine g_iload_n 1 (i := 1) X dX11_anHour_2 rfl rfl ?_
  refine g_aload_n 0 (i := 0) X dX11_anHour_3 rfl rfl ?_
  refine g_getI X dX11_anHour_4 fX11_144 ?_
  refine g_icmp_ge X dX11_anHour_7 (tgt := 62) (by decide) (fun hc => ?_) (fun hc => ?_)
  · have h := h.1 hc
    exact g_sub X [0] rfl (hK62  _ h)
  · have h := h.2 hc
    refine g_iconst X dX11_anHour_10 (by decide) ?_
    refine g_istore_n (i := 2) (lv' := [(2, (0, 0)), (0, (2, 67)), (1, (0, v1))]) X dX11_anHour_11 rfl (by decide) rfl ?_
    obtain ⟨n_2, h⟩ := h
    refine g_sub X [1, 2, 0] rfl (pf_X11_anHour_12 X hr (fun v1_1 m_1 h => ?_) n_2 _ _ _ h)
    · exact g_sub X [0, 1] rfl (ih _ _ h)
def wp_X11_anHour_172 (v1 : Int) (v2 : Int) (m : Mem) (K75 : Int → Int → Mem → Prop) (post : Mem → Prop) : Prop :=
  (0 ≤ w32 (w32 (3 * v2) + 2) ∧ w32 (w32 (3 * v2) + 2) < 36) ∧ ((0 ≤ w32 (w32 (3 * v2) + 2) ∧ w32 (w32 (3 * v2) + 2) < 36) ∧ (∀ m185 : Mem, m185 = mset m 75 (w32 (w32 (3 * v2) + 2)) (w32 (m 75 (w32 (w32 (3 * v2) + 2)) + 1)) → (K75 v1 (w32 (v2 + 1)) m185)))
set_option maxRecDepth 100000 in
theorem pf_X11_anHour_172 {l : Launch} {x : WX} {G : GT} {post : Mem → Prop} {K75 : Int → Int → Mem → Prop} (X : Ax l x cX11_anHour RX11 5 (rmd 3) 106 G) (hr : RV cX11_anHour post G) (hK75 : ∀ (v1 : Int) (v2 : Int) (m : Mem), K75 v1 v2 m → G 75 [(0, (2, 67)), (1, (0, v1)), (2, (0, v2))] [] m) (v1 : Int) (v2 : Int) (m : Mem) (h : wp_X11_anHour_172 v1 v2 m K75 post) : G 172 [(0, (2, 67)), (1, (0, v1)), (2, (0, v2))] [] m := by
  unfold wp_X11_anHour_172 at h
  refine g_aload_n 0 (i := 0) X dX11_anHour_172 rfl rfl ?_
  refine g_getR X dX11_anHour_173 fX11_32 ?_
  refine g_iconst X dX11_anHour_176 (by decide) ?_
  refine g_iload_n 2 (i := 2) X dX11_anHour_177 rfl rfl ?_
  refine g_imul X dX11_anHour_178 ?_
  refine g_iconst X dX11_anHour_179 (by decide) ?_
  refine g_iadd X dX11_anHour_180 ?_
  refine g_dup2 X dX11_anHour_181 rfl rfl ?_
  obtain ⟨hi, h⟩ := h
  refine g_iald X dX11_anHour_182 rfl hi ?_
  refine g_iconst X dX11_anHour_183 (by decide) ?_
  refine g_iadd X dX11_anHour_184 ?_
  obtain ⟨hi, h⟩ := h
  refine g_iast X dX11_anHour_185 rfl hi (fun m185 em185 => ?_)
  have h := h m185 em185
  refine g_goto X dX11_anHour_186 (tgt := 194) (by decide) ?_
  refine g_iinc 2 (lv' := [(2, (0, w32 (v2 + 1))), (0, (2, 67)), (1, (0, v1))]) X dX11_anHour_194 rfl (by decide) rfl ?_
  refine g_goto X dX11_anHour_197 (tgt := 75) (by decide) ?_
  exact g_sub X [1, 2, 0] rfl (hK75 _ _ _ h)
def wp_X11_anHour_128 (v1 : Int) (v2 : Int) (s0 : Int) (m : Mem) (K75 : Int → Int → Mem → Prop) (post : Mem → Prop) : Prop :=
  ((s0 = 0 → (K75 v1 (w32 (v2 + 1)) m)) ∧
  (¬ s0 = 0 → ((0 ≤ w32 (6 * v2) ∧ w32 (6 * v2) < 72) ∧ (∀ v4_142 : Int, v4_142 = m 74 (w32 (6 * v2)) → ((0 ≤ v4_142 ∧ v4_142 < 20) ∧ (wp_X11_isClosed (m 70 v4_142) m (fun r152 m152 => ((¬ r152 = 0 → (wp_X11_anHour_172 v1 v2 m152 (fun v1_6 v2_6 m_6 => K75 v1_6 v2_6 m_6) post)) ∧
  (r152 = 0 → ((0 ≤ v4_142 ∧ v4_142 < 20) ∧ (wp_X11_isClosed (m152 71 v4_142) m152 (fun r166 m166 => ((r166 = 0 → (wp_X11_leave v2 m166 (fun m191 => K75 v1 (w32 (v2 + 1)) m191))) ∧
  (¬ r166 = 0 → (wp_X11_anHour_172 v1 v2 m166 (fun v1_7 v2_7 m_7 => K75 v1_7 v2_7 m_7) post)))))))))))))))
set_option maxRecDepth 100000 in
theorem pf_X11_anHour_128 {l : Launch} {x : WX} {G : GT} {post : Mem → Prop} {K75 : Int → Int → Mem → Prop} (X : Ax l x cX11_anHour RX11 5 (rmd 3) 106 G) (hr : RV cX11_anHour post G) (hK75 : ∀ (v1 : Int) (v2 : Int) (m : Mem), K75 v1 v2 m → G 75 [(0, (2, 67)), (1, (0, v1)), (2, (0, v2))] [] m) (v1 : Int) (v2 : Int) (s0 : Int) (m : Mem) (h : wp_X11_anHour_128 v1 v2 s0 m K75 post) : G 128 [(0, (2, 67)), (1, (0, v1)), (2, (0, v2))] [(0, s0)] m := by
  unfold wp_X11_anHour_128 at h
  refine g_istore_n (i := 3) (lv' := [(3, (0, s0)), (0, (2, 67)), (1, (0, v1)), (2, (0, v2))]) X dX11_anHour_128 rfl (by decide) rfl ?_
  refine g_iload_n 0 (i := 3) X dX11_anHour_129 rfl rfl ?_
  refine g_if_eq X dX11_anHour_130 (tgt := 194) (by decide) (fun hc => ?_) (fun hc => ?_)
  · have h := h.1 hc
    refine g_iinc 3 (lv' := [(2, (0, w32 (v2 + 1))), (3, (0, s0)), (0, (2, 67)), (1, (0, v1))]) X dX11_anHour_194 rfl (by decide) rfl ?_
    refine g_goto X dX11_anHour_197 (tgt := 75) (by decide) ?_
    exact g_sub X [2, 3, 0] rfl (hK75 _ _ _ h)
  · have h := h.2 hc
    refine g_aload_n 1 (i := 0) X dX11_anHour_133 rfl rfl ?_
    refine g_getR X dX11_anHour_134 fX11_29 ?_
    refine g_bipush X dX11_anHour_137 (by decide) ?_
    refine g_iload_n 3 (i := 2) X dX11_anHour_139 rfl rfl ?_
    refine g_imul X dX11_anHour_140 ?_
    obtain ⟨hi, h⟩ := h
    refine g_iald X dX11_anHour_141 rfl hi ?_
    refine g_nmI (fun v4_142 ev4_142 => ?_)
    have h := h v4_142 ev4_142
    refine g_istore (i := 4) (lv' := [(4, (0, v4_142)), (3, (0, s0)), (0, (2, 67)), (1, (0, v1)), (2, (0, v2))]) X dX11_anHour_142 (by decide) rfl ?_
    refine g_aload_n 2 (i := 0) X dX11_anHour_144 rfl rfl ?_
    refine g_aload_n 2 (i := 0) X dX11_anHour_145 rfl rfl ?_
    refine g_getR X dX11_anHour_146 fX11_17 ?_
    refine g_iload 0 (i := 4) X dX11_anHour_149 rfl ?_
    obtain ⟨hi, h⟩ := h
    refine g_iald X dX11_anHour_151 rfl hi ?_
    refine g_cVI (st := []) X dX11_anHour_152 YX11_isClosed lX11_235 (by decide) (im_X11_isClosed l x _ _ _ h) rfl ⟨by decide, by decide⟩ rfl (Nat.le_of_ble_eq_true rfl) (fun r152 m152 h => ?_)
    refine g_if_ne X dX11_anHour_155 (tgt := 172) (by decide) (fun hc => ?_) (fun hc => ?_)
    · have h := h.1 hc
      refine g_sub X [2, 3, 4] rfl (pf_X11_anHour_172 X hr (fun v1_6 v2_6 m_6 h => ?_) _ _ _ h)
      · exact g_sub X [0, 1, 2] rfl (hK75 _ _ _ h)
    · have h := h.2 hc
      refine g_aload_n 2 (i := 0) X dX11_anHour_158 rfl rfl ?_
      refine g_aload_n 2 (i := 0) X dX11_anHour_159 rfl rfl ?_
      refine g_getR X dX11_anHour_160 fX11_20 ?_
      refine g_iload 0 (i := 4) X dX11_anHour_163 rfl ?_
      obtain ⟨hi, h⟩ := h
      refine g_iald X dX11_anHour_165 rfl hi ?_
      refine g_cVI (st := []) X dX11_anHour_166 YX11_isClosed lX11_235 (by decide) (im_X11_isClosed l x _ _ _ h) rfl ⟨by decide, by decide⟩ rfl (Nat.le_of_ble_eq_true rfl) (fun r166 m166 h => ?_)
      refine g_if_eq X dX11_anHour_169 (tgt := 189) (by decide) (fun hc => ?_) (fun hc => ?_)
      · have h := h.1 hc
        refine g_aload_n 2 (i := 0) X dX11_anHour_189 rfl rfl ?_
        refine g_iload_n 4 (i := 2) X dX11_anHour_190 rfl rfl ?_
        refine g_cVV (st := []) X dX11_anHour_191 YX11_leave lX11_238 (by decide) (im_X11_leave l x _ _ _ h) rfl ⟨by decide, by decide⟩ rfl (Nat.le_of_ble_eq_true rfl) (fun m191 h => ?_)
        refine g_iinc 4 (lv' := [(2, (0, w32 (v2 + 1))), (4, (0, v4_142)), (3, (0, s0)), (0, (2, 67)), (1, (0, v1))]) X dX11_anHour_194 rfl (by decide) rfl ?_
        refine g_goto X dX11_anHour_197 (tgt := 75) (by decide) ?_
        exact g_sub X [3, 4, 0] rfl (hK75 _ _ _ h)
      · have h := h.2 hc
        refine g_sub X [2, 3, 4] rfl (pf_X11_anHour_172 X hr (fun v1_7 v2_7 m_7 h => ?_) _ _ _ h)
        · exact g_sub X [0, 1, 2] rfl (hK75 _ _ _ h)
def wp_X11_anHour_127 (v1 : Int) (v2 : Int) (m : Mem) (K75 : Int → Int → Mem → Prop) (post : Mem → Prop) : Prop :=
  wp_X11_anHour_128 v1 v2 0 m (fun v1_8 v2_8 m_8 => K75 v1_8 v2_8 m_8) post
set_option maxRecDepth 100000 in
theorem pf_X11_anHour_127 {l : Launch} {x : WX} {G : GT} {post : Mem → Prop} {K75 : Int → Int → Mem → Prop} (X : Ax l x cX11_anHour RX11 5 (rmd 3) 106 G) (hr : RV cX11_anHour post G) (hK75 : ∀ (v1 : Int) (v2 : Int) (m : Mem), K75 v1 v2 m → G 75 [(0, (2, 67)), (1, (0, v1)), (2, (0, v2))] [] m) (v1 : Int) (v2 : Int) (m : Mem) (h : wp_X11_anHour_127 v1 v2 m K75 post) : G 127 [(0, (2, 67)), (1, (0, v1)), (2, (0, v2))] [] m := by
  unfold wp_X11_anHour_127 at h
  refine g_iconst X dX11_anHour_127 (by decide) ?_
  refine g_sub X [0, 1, 2] rfl (pf_X11_anHour_128 X hr (fun v1_8 v2_8 m_8 h => ?_) _ _ _ _ h)
  · exact g_sub X [0, 1, 2] rfl (hK75 _ _ _ h)
def wp_X11_anHour_75  (post : Mem → Prop) : Nat → Int → Int → Mem → Prop
  | 0, _, _, _ => False
  | n + 1, v1, v2, m =>
  ((m 67 9 ≤ v2 → (∀ m207 : Mem, m207 = mset m 67 18 (w32 (m 67 18 + 1)) → (post m207))) ∧
  (¬ m 67 9 ≤ v2 → ((0 ≤ w32 (w32 (6 * v2) + 2) ∧ w32 (w32 (6 * v2) + 2) < 72) ∧ (((¬ and32 (shr32 (m 74 (w32 (w32 (6 * v2) + 2))) v1) 1 = 1 → (wp_X11_anHour_127 v1 v2 m (fun v1_9 v2_9 m_9 => wp_X11_anHour_75  post n v1_9 v2_9 m_9) post)) ∧
  (and32 (shr32 (m 74 (w32 (w32 (6 * v2) + 2))) v1) 1 = 1 → ((0 ≤ w32 (w32 (6 * v2) + 3) ∧ w32 (w32 (6 * v2) + 3) < 72) ∧ (((¬ m 74 (w32 (w32 (6 * v2) + 3)) = Int.tmod (m 67 18) 24 → (wp_X11_anHour_127 v1 v2 m (fun v1_10 v2_10 m_10 => wp_X11_anHour_75  post n v1_10 v2_10 m_10) post)) ∧
  (m 74 (w32 (w32 (6 * v2) + 3)) = Int.tmod (m 67 18) 24 → (wp_X11_anHour_128 v1 v2 1 m (fun v1_11 v2_11 m_11 => wp_X11_anHour_75  post n v1_11 v2_11 m_11) post)))))))))))
set_option maxRecDepth 100000 in
theorem pf_X11_anHour_75 {l : Launch} {x : WX} {G : GT} {post : Mem → Prop}  (X : Ax l x cX11_anHour RX11 5 (rmd 3) 106 G) (hr : RV cX11_anHour post G) : ∀ (n : Nat) (v1 : Int) (v2 : Int) (m : Mem) (_ : wp_X11_anHour_75  post n v1 v2 m), G 75 [(0, (2, 67)), (1, (0, v1)), (2, (0, v2))] [] m := by
  intro n
  induction n with
  | zero => intro v1 v2 m h; exact absurd h id
  | succ n ih =>
  intro v1 v2 m h
  unfold wp_X11_anHour_75 at h
  refine g_iload_n 2 (i := 2) X dX11_anHour_75 rfl rfl ?_
  refine g_aload_n 0 (i := 0) X dX11_anHour_76 rfl rfl ?_
  refine g_getI X dX11_anHour_77 fX11_144 ?_
  refine g_icmp_ge X dX11_anHour_80 (tgt := 200) (by decide) (fun hc => ?_) (fun hc => ?_)
  · have h := h.1 hc
    refine g_aload_n 0 (i := 0) X dX11_anHour_200 rfl rfl ?_
    refine g_dup X dX11_anHour_201 rfl ?_
    refine g_getI X dX11_anHour_202 fX11_153 ?_
    refine g_iconst X dX11_anHour_205 (by decide) ?_
    refine g_iadd X dX11_anHour_206 ?_
    refine g_putI X dX11_anHour_207 pX11_153 (fun m207 em207 => ?_)
    have h := h m207 em207
    exact hr _ _ _ _ dX11_anHour_210 h
  · have h := h.2 hc
    refine g_aload_n 0 (i := 0) X dX11_anHour_83 rfl rfl ?_
    refine g_getR X dX11_anHour_84 fX11_29 ?_
    refine g_bipush X dX11_anHour_87 (by decide) ?_
    refine g_iload_n 2 (i := 2) X dX11_anHour_89 rfl rfl ?_
    refine g_imul X dX11_anHour_90 ?_
    refine g_iconst X dX11_anHour_91 (by decide) ?_
    refine g_iadd X dX11_anHour_92 ?_
    obtain ⟨hi, h⟩ := h
    refine g_iald X dX11_anHour_93 rfl hi ?_
    refine g_iload_n 1 (i := 1) X dX11_anHour_94 rfl rfl ?_
    refine g_ishr X dX11_anHour_95 ?_
    refine g_iconst X dX11_anHour_96 (by decide) ?_
    refine g_iand X dX11_anHour_97 ?_
    refine g_iconst X dX11_anHour_98 (by decide) ?_
    refine g_icmp_ne X dX11_anHour_99 (tgt := 127) (by decide) (fun hc => ?_) (fun hc => ?_)
    · have h := h.1 hc
      refine g_sub X [0, 1, 2] rfl (pf_X11_anHour_127 X hr (fun v1_9 v2_9 m_9 h => ?_) _ _ _ h)
      · exact g_sub X [0, 1, 2] rfl (ih _ _ _ h)
    · have h := h.2 hc
      refine g_aload_n 0 (i := 0) X dX11_anHour_102 rfl rfl ?_
      refine g_getR X dX11_anHour_103 fX11_29 ?_
      refine g_bipush X dX11_anHour_106 (by decide) ?_
      refine g_iload_n 2 (i := 2) X dX11_anHour_108 rfl rfl ?_
      refine g_imul X dX11_anHour_109 ?_
      refine g_iconst X dX11_anHour_110 (by decide) ?_
      refine g_iadd X dX11_anHour_111 ?_
      obtain ⟨hi, h⟩ := h
      refine g_iald X dX11_anHour_112 rfl hi ?_
      refine g_aload_n 0 (i := 0) X dX11_anHour_113 rfl rfl ?_
      refine g_getI X dX11_anHour_114 fX11_153 ?_
      refine g_bipush X dX11_anHour_117 (by decide) ?_
      refine g_irem X dX11_anHour_119 (by decide) ?_
      refine g_icmp_ne X dX11_anHour_120 (tgt := 127) (by decide) (fun hc => ?_) (fun hc => ?_)
      · have h := h.1 hc
        refine g_sub X [0, 1, 2] rfl (pf_X11_anHour_127 X hr (fun v1_10 v2_10 m_10 h => ?_) _ _ _ h)
        · exact g_sub X [0, 1, 2] rfl (ih _ _ _ h)
      · have h := h.2 hc
        refine g_iconst X dX11_anHour_123 (by decide) ?_
        refine g_goto X dX11_anHour_124 (tgt := 128) (by decide) ?_
        refine g_sub X [0, 1, 2] rfl (pf_X11_anHour_128 X hr (fun v1_11 v2_11 m_11 h => ?_) _ _ _ _ h)
        · exact g_sub X [0, 1, 2] rfl (ih _ _ _ h)
def wp_X11_anHour  (m : Mem) (post : Mem → Prop) : Prop :=
  ∃ n_13 : Nat, wp_X11_anHour_2 (fun m_3 => ∀ v1_72 : Int, v1_72 = Int.tmod (w32 (Int.tdiv (m_3 67 18) 24)) 7 → (∃ n_12 : Nat, wp_X11_anHour_75  post n_12 v1_72 0 m_3)) post n_13 0 m
set_option maxRecDepth 100000 in
theorem pf_X11_anHour {l : Launch} {x : WX} {G : GT} {post : Mem → Prop} (X : Ax l x cX11_anHour RX11 5 (rmd 3) 106 G) (hr : RV cX11_anHour post G)  (m : Mem) (h : wp_X11_anHour  m post) : G 0 [(0, (2, 67))] [] m := by
  unfold wp_X11_anHour at h
  refine g_iconst X dX11_anHour_0 (by decide) ?_
  refine g_istore_n (i := 1) (lv' := [(1, (0, 0)), (0, (2, 67))]) X dX11_anHour_1 rfl (by decide) rfl ?_
  obtain ⟨n_13, h⟩ := h
  refine g_sub X [1, 0] rfl (pf_X11_anHour_2 X hr (fun m_3 h => ?_) n_13 _ _ h)
  · refine g_aload_n 0 (i := 0) X dX11_anHour_62 rfl rfl ?_
    refine g_getI X dX11_anHour_63 fX11_153 ?_
    refine g_bipush X dX11_anHour_66 (by decide) ?_
    refine g_idiv X dX11_anHour_68 (by decide) ?_
    refine g_bipush X dX11_anHour_69 (by decide) ?_
    refine g_irem X dX11_anHour_71 (by decide) ?_
    refine g_nmI (fun v1_72 ev1_72 => ?_)
    have h := h v1_72 ev1_72
    refine g_istore_n (i := 1) (lv' := [(1, (0, v1_72)), (0, (2, 67))]) X dX11_anHour_72 rfl (by decide) rfl ?_
    refine g_iconst X dX11_anHour_73 (by decide) ?_
    refine g_istore_n (i := 2) (lv' := [(2, (0, 0)), (1, (0, v1_72)), (0, (2, 67))]) X dX11_anHour_74 rfl (by decide) rfl ?_
    obtain ⟨n_12, h⟩ := h
    refine g_sub X [2, 1, 0] rfl (pf_X11_anHour_75 X hr  n_12 _ _ _ h)
theorem im_X11_anHour (l : Launch) (x : WX)  (m : Mem) (post : Mem → Prop) (h : wp_X11_anHour  m post) : MetV l x 106 3 yX11_anHour cX11_anHour 5 [(2, 67)] m post := met_V (by decide) (Nat.le_of_ble_eq_true rfl) (fun _ X hr => pf_X11_anHour X hr  m h)
