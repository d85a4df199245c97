/-! all meanings grow with what is asked of their ends -/
theorem mn_and {A A' B B' : Prop} (f : A → A') (g : B → B') : A ∧ B → A' ∧ B' := fun h => ⟨f h.1, g h.2⟩
theorem mn_imp {a B B' : Prop} (g : B → B') : (a → B) → (a → B') := fun h x => g (h x)
theorem mn_all {α : Sort _} {B B' : α → Prop} (g : ∀ x : α, B x → B' x) : (∀ x : α, B x) → ∀ x : α, B' x := fun h x => g x (h x)
theorem mn_ex {α : Sort _} {B B' : α → Prop} (g : ∀ x : α, B x → B' x) : (∃ x : α, B x) → ∃ x : α, B' x := fun h => h.elim (fun x hx => ⟨x, g x hx⟩)
theorem mn_J7_fill_53178_5 {post post' : Mem → Prop} (hpost : ∀ (x0 : Mem), post x0 → post' x0) : ∀ (n : Nat) (v0 : Int) (v1 : Int) (v2 : Int) (v3 : Int) (m : Mem), wp_J7_fill_53178_5 post n v0 v1 v2 v3 m → wp_J7_fill_53178_5 post' n v0 v1 v2 v3 m := by
  intro n
  induction n with
  | zero => intro v0 v1 v2 v3 m; unfold wp_J7_fill_53178_5; exact id
  | succ n ih =>
    intro v0 v1 v2 v3 m
    unfold wp_J7_fill_53178_5
    exact (mn_and (mn_imp (hpost _)) (mn_imp (mn_and id (mn_all (fun _ => (mn_imp (ih _ _ _ _ _)))))))
theorem mn_J7_fill_53178 {v0 : Int} {v1 : Int} {m : Mem} {post post' : Mem → Prop} (hpost : ∀ (x0 : Mem), post x0 → post' x0) : wp_J7_fill_53178 v0 v1 m post → wp_J7_fill_53178 v0 v1 m post' := by
  unfold wp_J7_fill_53178
  exact (mn_and id (mn_all (fun _ => (mn_imp (mn_ex (fun _ => (mn_J7_fill_53178_5 hpost _ _ _ _ _ _)))))))
theorem mn_X0_begin {m : Mem} {post post' : Mem → Prop} (hpost : ∀ (x0 : Mem), post x0 → post' x0) : wp_X0_begin m post → wp_X0_begin m post' := by
  unfold wp_X0_begin
  exact (mn_all (fun _ => (mn_imp (mn_all (fun _ => (mn_imp (mn_J7_fill_53178 (fun _ => (hpost _)))))))))
theorem mn_X0_has {v1 : Int} {m : Mem} {post post' : Int → Mem → Prop} (hpost : ∀ (x0 : Int) (x1 : Mem), post x0 x1 → post' x0 x1) : wp_X0_has v1 m post → wp_X0_has v1 m post' := by
  unfold wp_X0_has
  exact (mn_and (mn_imp (hpost _ _)) (mn_imp (mn_and (mn_imp (hpost _ _)) (mn_imp (hpost _ _)))))
theorem mn_X0_madeAlike {v1 : Int} {v2 : Int} {m : Mem} {post post' : Int → Mem → Prop} (hpost : ∀ (x0 : Int) (x1 : Mem), post x0 x1 → post' x0 x1) : wp_X0_madeAlike v1 v2 m post → wp_X0_madeAlike v1 v2 m post' := by
  unfold wp_X0_madeAlike
  exact (mn_and id (mn_and id (mn_and (mn_imp (hpost _ _)) (mn_imp (mn_and id (mn_and id (mn_and (mn_imp (hpost _ _)) (mn_imp (hpost _ _)))))))))
theorem mn_X0_choose {v1 : Int} {v2 : Int} {m : Mem} {post post' : Mem → Prop} (hpost : ∀ (x0 : Mem), post x0 → post' x0) : wp_X0_choose v1 v2 m post → wp_X0_choose v1 v2 m post' := by
  unfold wp_X0_choose
  exact (mn_and id (mn_all (fun _ => (mn_imp (mn_and (mn_imp (mn_and id (mn_all (fun _ => (mn_imp (hpost _)))))) (mn_imp (mn_and id (mn_and id (mn_and (mn_imp (hpost _)) (mn_imp (mn_and id (mn_all (fun _ => (mn_imp (hpost _)))))))))))))))
theorem mn_X0_add_52 {post post' : Int → Mem → Prop} (hpost : ∀ (x0 : Int) (x1 : Mem), post x0 x1 → post' x0 x1) : ∀ (n : Nat) (v1 : Int) (v3 : Int) (v5 : Int) (v6 : Int) (m : Mem), wp_X0_add_52 post n v1 v3 v5 v6 m → wp_X0_add_52 post' n v1 v3 v5 v6 m := by
  intro n
  induction n with
  | zero => intro v1 v3 v5 v6 m; unfold wp_X0_add_52; exact id
  | succ n ih =>
    intro v1 v3 v5 v6 m
    unfold wp_X0_add_52
    exact (mn_and (mn_imp (hpost _ _)) (mn_imp (mn_and (mn_imp (ih _ _ _ _ _)) (mn_imp (mn_X0_choose (fun _ => (ih _ _ _ _ _)))))))
theorem mn_X0_add {v1 : Int} {v2 : Int} {v3 : Int} {v4 : Int} {m : Mem} {post post' : Int → Mem → Prop} (hpost : ∀ (x0 : Int) (x1 : Mem), post x0 x1 → post' x0 x1) : wp_X0_add v1 v2 v3 v4 m post → wp_X0_add v1 v2 v3 v4 m post' := by
  unfold wp_X0_add
  exact (mn_all (fun _ => (mn_imp (mn_and id (mn_all (fun _ => (mn_imp (mn_and id (mn_all (fun _ => (mn_imp (mn_and id (mn_all (fun _ => (mn_imp (mn_and id (mn_all (fun _ => (mn_imp (mn_all (fun _ => (mn_imp (mn_ex (fun _ => (mn_X0_add_52 hpost _ _ _ _ _ _)))))))))))))))))))))))))
theorem mn_X0_follow_23 {K108 K108' : Int → Int → Mem → Prop} {post post' : Int → Mem → Prop} (hK108 : ∀ (x0 : Int) (x1 : Int) (x2 : Mem), K108 x0 x1 x2 → K108' x0 x1 x2) (hpost : ∀ (x0 : Int) (x1 : Mem), post x0 x1 → post' x0 x1) : ∀ (n : Nat) (v2 : Int) (v3 : Int) (v4 : Int) (v5 : Int) (v6 : Int) (m : Mem), wp_X0_follow_23 K108 post n v2 v3 v4 v5 v6 m → wp_X0_follow_23 K108' post' n v2 v3 v4 v5 v6 m := by
  intro n
  induction n with
  | zero => intro v2 v3 v4 v5 v6 m; unfold wp_X0_follow_23; exact id
  | succ n ih =>
    intro v2 v3 v4 v5 v6 m
    unfold wp_X0_follow_23
    exact (mn_and (mn_imp (hK108 _ _ _)) (mn_imp (mn_and (mn_imp (hK108 _ _ _)) (mn_imp (mn_and id (mn_all (fun _ => (mn_imp (mn_and (mn_imp (mn_and id (mn_all (fun _ => (mn_imp (mn_and (mn_imp (mn_all (fun _ => (mn_imp (mn_and id (mn_all (fun _ => (mn_imp (mn_all (fun _ => (mn_imp (ih _ _ _ _ _ _)))))))))))) (mn_imp (hpost _ _)))))))) (mn_imp (hpost _ _)))))))))))
theorem mn_X0_follow_108 {v2 : Int} {v5 : Int} {m : Mem} {post post' : Int → Mem → Prop} (hpost : ∀ (x0 : Int) (x1 : Mem), post x0 x1 → post' x0 x1) : wp_X0_follow_108 v2 v5 m post → wp_X0_follow_108 v2 v5 m post' := by
  unfold wp_X0_follow_108
  exact (mn_and (mn_imp (hpost _ _)) (mn_imp (hpost _ _)))
theorem mn_X0_follow {v1 : Int} {v2 : Int} {v3 : Int} {m : Mem} {post post' : Int → Mem → Prop} (hpost : ∀ (x0 : Int) (x1 : Mem), post x0 x1 → post' x0 x1) : wp_X0_follow v1 v2 v3 m post → wp_X0_follow v1 v2 v3 m post' := by
  unfold wp_X0_follow
  exact (mn_all (fun _ => (mn_imp (mn_all (fun _ => (mn_imp (mn_all (fun _ => (mn_imp (mn_ex (fun _ => (mn_X0_follow_23 (fun _ _ _ => (mn_X0_follow_108 hpost)) hpost _ _ _ _ _ _ _))))))))))))
theorem mn_X0_stopAt {v1 : Int} {m : Mem} {post post' : Int → Mem → Prop} (hpost : ∀ (x0 : Int) (x1 : Mem), post x0 x1 → post' x0 x1) : wp_X0_stopAt v1 m post → wp_X0_stopAt v1 m post' := by
  unfold wp_X0_stopAt
  exact (mn_and (mn_imp (hpost _ _)) (mn_imp (mn_and (mn_imp (hpost _ _)) (mn_imp (mn_and id (hpost _ _))))))
theorem mn_X0_stopsInclude_2 {post post' : Int → Mem → Prop} (hpost : ∀ (x0 : Int) (x1 : Mem), post x0 x1 → post' x0 x1) : ∀ (n : Nat) (v1 : Int) (v2 : Int) (m : Mem), wp_X0_stopsInclude_2 post n v1 v2 m → wp_X0_stopsInclude_2 post' n v1 v2 m := by
  intro n
  induction n with
  | zero => intro v1 v2 m; unfold wp_X0_stopsInclude_2; exact id
  | succ n ih =>
    intro v1 v2 m
    unfold wp_X0_stopsInclude_2
    exact (mn_and (mn_imp (hpost _ _)) (mn_imp (mn_and id (mn_and (mn_imp (ih _ _ _)) (mn_imp (hpost _ _))))))
theorem mn_X0_stopsInclude {v1 : Int} {m : Mem} {post post' : Int → Mem → Prop} (hpost : ∀ (x0 : Int) (x1 : Mem), post x0 x1 → post' x0 x1) : wp_X0_stopsInclude v1 m post → wp_X0_stopsInclude v1 m post' := by
  unfold wp_X0_stopsInclude
  exact (mn_ex (fun _ => (mn_X0_stopsInclude_2 hpost _ _ _ _)))
theorem mn_X0_tell {v1 : Int} {v2 : Int} {m : Mem} {post post' : Int → Mem → Prop} (hpost : ∀ (x0 : Int) (x1 : Mem), post x0 x1 → post' x0 x1) : wp_X0_tell v1 v2 m post → wp_X0_tell v1 v2 m post' := by
  unfold wp_X0_tell
  exact (mn_and (mn_imp (mn_and id (hpost _ _))) (mn_and (mn_imp (mn_and id (hpost _ _))) (mn_and (mn_imp (mn_and id (hpost _ _))) (mn_imp (mn_and id (hpost _ _))))))
theorem mn_X0_digestOnto_17 {K5 K5' : Int → Int → Mem → Prop} {post post' : Int → Mem → Prop} (hK5 : ∀ (x0 : Int) (x1 : Int) (x2 : Mem), K5 x0 x1 x2 → K5' x0 x1 x2) (hpost : ∀ (x0 : Int) (x1 : Mem), post x0 x1 → post' x0 x1) : ∀ (n : Nat) (v3 : Int) (v5 : Int) (v6 : Int) (m : Mem), wp_X0_digestOnto_17 K5 post n v3 v5 v6 m → wp_X0_digestOnto_17 K5' post' n v3 v5 v6 m := by
  intro n
  induction n with
  | zero => intro v3 v5 v6 m; unfold wp_X0_digestOnto_17; exact id
  | succ n ih =>
    intro v3 v5 v6 m
    unfold wp_X0_digestOnto_17
    exact (mn_and (mn_imp (hK5 _ _ _)) (mn_imp (mn_X0_tell (fun _ _ => (mn_all (fun _ => (mn_imp (ih _ _ _ _))))))))
theorem mn_X0_digestOnto_5 {post post' : Int → Mem → Prop} (hpost : ∀ (x0 : Int) (x1 : Mem), post x0 x1 → post' x0 x1) : ∀ (n : Nat) (v3 : Int) (v5 : Int) (m : Mem), wp_X0_digestOnto_5 post n v3 v5 m → wp_X0_digestOnto_5 post' n v3 v5 m := by
  intro n
  induction n with
  | zero => intro v3 v5 m; unfold wp_X0_digestOnto_5; exact id
  | succ n ih =>
    intro v3 v5 m
    unfold wp_X0_digestOnto_5
    exact (mn_and (mn_imp (hpost _ _)) (mn_imp (mn_ex (fun _ => (mn_X0_digestOnto_17 (fun _ _ _ => (ih _ _ _)) hpost _ _ _ _ _)))))
theorem mn_X0_digestOnto {v1 : Int} {m : Mem} {post post' : Int → Mem → Prop} (hpost : ∀ (x0 : Int) (x1 : Mem), post x0 x1 → post' x0 x1) : wp_X0_digestOnto v1 m post → wp_X0_digestOnto v1 m post' := by
  unfold wp_X0_digestOnto
  exact (mn_ex (fun _ => (mn_X0_digestOnto_5 hpost _ _ _ _)))
theorem mn_X1_gather_7 {post post' : Int → Mem → Prop} (hpost : ∀ (x0 : Int) (x1 : Mem), post x0 x1 → post' x0 x1) : ∀ (n : Nat) (v1 : Int) (v3 : Int) (m : Mem), wp_X1_gather_7 post n v1 v3 m → wp_X1_gather_7 post' n v1 v3 m := by
  intro n
  induction n with
  | zero => intro v1 v3 m; unfold wp_X1_gather_7; exact id
  | succ n ih =>
    intro v1 v3 m
    unfold wp_X1_gather_7
    exact (mn_and (mn_imp (hpost _ _)) (mn_imp (mn_and id (mn_and (mn_imp (mn_and (mn_imp (mn_and id (mn_all (fun _ => (mn_imp (mn_all (fun _ => (mn_imp (ih _ _ _))))))))) (mn_imp (hpost _ _)))) (mn_imp (ih _ _ _))))))
theorem mn_X1_gather {v1 : Int} {m : Mem} {post post' : Int → Mem → Prop} (hpost : ∀ (x0 : Int) (x1 : Mem), post x0 x1 → post' x0 x1) : wp_X1_gather v1 m post → wp_X1_gather v1 m post' := by
  unfold wp_X1_gather
  exact (mn_all (fun _ => (mn_imp (mn_ex (fun _ => (mn_X1_gather_7 hpost _ _ _ _))))))
theorem mn_X1_turn_91 {v2 : Int} {v3 : Int} {v5 : Int} {v6 : Int} {v7 : Int} {v8 : Int} {s0 : Int} {s1 : Int} {m : Mem} {K21 K21' : Int → Int → Int → Int → Int → Mem → Prop} {post post' : Int → Mem → Prop} (hK21 : ∀ (x0 : Int) (x1 : Int) (x2 : Int) (x3 : Int) (x4 : Int) (x5 : Mem), K21 x0 x1 x2 x3 x4 x5 → K21' x0 x1 x2 x3 x4 x5) (hpost : ∀ (x0 : Int) (x1 : Mem), post x0 x1 → post' x0 x1) : wp_X1_turn_91 v2 v3 v5 v6 v7 v8 s0 s1 m K21 post → wp_X1_turn_91 v2 v3 v5 v6 v7 v8 s0 s1 m K21' post' := by
  unfold wp_X1_turn_91
  exact (mn_and id (mn_all (fun _ => (mn_imp (mn_and (mn_imp (mn_all (fun _ => (mn_imp (hK21 _ _ _ _ _ _))))) (mn_imp (mn_all (fun _ => (mn_imp (hK21 _ _ _ _ _ _))))))))))
theorem mn_X1_turn_21 {post post' : Int → Mem → Prop} (hpost : ∀ (x0 : Int) (x1 : Mem), post x0 x1 → post' x0 x1) : ∀ (n : Nat) (v2 : Int) (v3 : Int) (v5 : Int) (v6 : Int) (v7 : Int) (m : Mem), wp_X1_turn_21 post n v2 v3 v5 v6 v7 m → wp_X1_turn_21 post' n v2 v3 v5 v6 v7 m := by
  intro n
  induction n with
  | zero => intro v2 v3 v5 v6 v7 m; unfold wp_X1_turn_21; exact id
  | succ n ih =>
    intro v2 v3 v5 v6 v7 m
    unfold wp_X1_turn_21
    exact (mn_and (mn_imp (hpost _ _)) (mn_imp (mn_and id (mn_all (fun _ => (mn_imp (mn_and id (mn_all (fun _ => (mn_imp (mn_and id (mn_all (fun _ => (mn_imp (mn_and (mn_imp (hpost _ _)) (mn_imp (mn_and id (mn_and (mn_imp (mn_and (mn_imp (mn_X1_turn_91 (fun _ _ _ _ _ _ => (ih _ _ _ _ _ _)) hpost)) (mn_imp (mn_X1_turn_91 (fun _ _ _ _ _ _ => (ih _ _ _ _ _ _)) hpost)))) (mn_imp (hpost _ _))))))))))))))))))))
theorem mn_X1_turn {v1 : Int} {v2 : Int} {v3 : Int} {m : Mem} {post post' : Int → Mem → Prop} (hpost : ∀ (x0 : Int) (x1 : Mem), post x0 x1 → post' x0 x1) : wp_X1_turn v1 v2 v3 m post → wp_X1_turn v1 v2 v3 m post' := by
  unfold wp_X1_turn
  exact (mn_and (mn_imp (mn_all (fun _ => (mn_imp (mn_ex (fun _ => (mn_X1_turn_21 hpost _ _ _ _ _ _ _))))))) (mn_imp (hpost _ _)))
theorem mn_X1_comesPast {v1 : Int} {v2 : Int} {v3 : Int} {m : Mem} {post post' : Int → Mem → Prop} (hpost : ∀ (x0 : Int) (x1 : Mem), post x0 x1 → post' x0 x1) : wp_X1_comesPast v1 v2 v3 m post → wp_X1_comesPast v1 v2 v3 m post' := by
  unfold wp_X1_comesPast
  exact (mn_X0_follow (fun _ _ => (mn_and (mn_imp (hpost _ _)) (mn_imp (mn_X0_stopsInclude (fun _ _ => (mn_and (mn_imp (hpost _ _)) (mn_imp (hpost _ _)))))))))
theorem mn_X1_allCome_49 {v1 : Int} {v2 : Int} {v4 : Int} {v5 : Int} {v6 : Int} {s0 : Int} {m : Mem} {K12 K12' : Int → Int → Int → Int → Int → Mem → Prop} {post post' : Int → Mem → Prop} (hK12 : ∀ (x0 : Int) (x1 : Int) (x2 : Int) (x3 : Int) (x4 : Int) (x5 : Mem), K12 x0 x1 x2 x3 x4 x5 → K12' x0 x1 x2 x3 x4 x5) (hpost : ∀ (x0 : Int) (x1 : Mem), post x0 x1 → post' x0 x1) : wp_X1_allCome_49 v1 v2 v4 v5 v6 s0 m K12 post → wp_X1_allCome_49 v1 v2 v4 v5 v6 s0 m K12' post' := by
  unfold wp_X1_allCome_49
  exact (mn_and (mn_imp (hK12 _ _ _ _ _ _)) (mn_imp (mn_X1_comesPast (fun _ _ => (mn_and (mn_imp (hK12 _ _ _ _ _ _)) (mn_imp (hpost _ _)))))))
theorem mn_X1_allCome_48 {v1 : Int} {v2 : Int} {v4 : Int} {v5 : Int} {v6 : Int} {m : Mem} {K12 K12' : Int → Int → Int → Int → Int → Mem → Prop} {post post' : Int → Mem → Prop} (hK12 : ∀ (x0 : Int) (x1 : Int) (x2 : Int) (x3 : Int) (x4 : Int) (x5 : Mem), K12 x0 x1 x2 x3 x4 x5 → K12' x0 x1 x2 x3 x4 x5) (hpost : ∀ (x0 : Int) (x1 : Mem), post x0 x1 → post' x0 x1) : wp_X1_allCome_48 v1 v2 v4 v5 v6 m K12 post → wp_X1_allCome_48 v1 v2 v4 v5 v6 m K12' post' := by
  unfold wp_X1_allCome_48
  exact (mn_X1_allCome_49 (fun _ _ _ _ _ _ => (hK12 _ _ _ _ _ _)) hpost)
theorem mn_X1_allCome_12 {K3 K3' : Int → Int → Int → Int → Mem → Prop} {post post' : Int → Mem → Prop} (hK3 : ∀ (x0 : Int) (x1 : Int) (x2 : Int) (x3 : Int) (x4 : Mem), K3 x0 x1 x2 x3 x4 → K3' x0 x1 x2 x3 x4) (hpost : ∀ (x0 : Int) (x1 : Mem), post x0 x1 → post' x0 x1) : ∀ (n : Nat) (v1 : Int) (v2 : Int) (v4 : Int) (v5 : Int) (v6 : Int) (m : Mem), wp_X1_allCome_12 K3 post n v1 v2 v4 v5 v6 m → wp_X1_allCome_12 K3' post' n v1 v2 v4 v5 v6 m := by
  intro n
  induction n with
  | zero => intro v1 v2 v4 v5 v6 m; unfold wp_X1_allCome_12; exact id
  | succ n ih =>
    intro v1 v2 v4 v5 v6 m
    unfold wp_X1_allCome_12
    exact (mn_and (mn_imp (hK3 _ _ _ _ _)) (mn_imp (mn_and (mn_imp (mn_X1_allCome_48 (fun _ _ _ _ _ _ => (ih _ _ _ _ _ _)) hpost)) (mn_imp (mn_and (mn_imp (mn_X1_allCome_48 (fun _ _ _ _ _ _ => (ih _ _ _ _ _ _)) hpost)) (mn_imp (mn_and id (mn_and (mn_imp (mn_X1_allCome_48 (fun _ _ _ _ _ _ => (ih _ _ _ _ _ _)) hpost)) (mn_imp (mn_X1_allCome_49 (fun _ _ _ _ _ _ => (ih _ _ _ _ _ _)) hpost))))))))))
theorem mn_X1_allCome_3 {post post' : Int → Mem → Prop} (hpost : ∀ (x0 : Int) (x1 : Mem), post x0 x1 → post' x0 x1) : ∀ (n : Nat) (v1 : Int) (v2 : Int) (v4 : Int) (v5 : Int) (m : Mem), wp_X1_allCome_3 post n v1 v2 v4 v5 m → wp_X1_allCome_3 post' n v1 v2 v4 v5 m := by
  intro n
  induction n with
  | zero => intro v1 v2 v4 v5 m; unfold wp_X1_allCome_3; exact id
  | succ n ih =>
    intro v1 v2 v4 v5 m
    unfold wp_X1_allCome_3
    exact (mn_and (mn_imp (hpost _ _)) (mn_imp (mn_ex (fun _ => (mn_X1_allCome_12 (fun _ _ _ _ _ => (ih _ _ _ _ _)) hpost _ _ _ _ _ _ _)))))
theorem mn_X1_allCome {v1 : Int} {v2 : Int} {v4 : Int} {m : Mem} {post post' : Int → Mem → Prop} (hpost : ∀ (x0 : Int) (x1 : Mem), post x0 x1 → post' x0 x1) : wp_X1_allCome v1 v2 v4 m post → wp_X1_allCome v1 v2 v4 m post' := by
  unfold wp_X1_allCome
  exact (mn_ex (fun _ => (mn_X1_allCome_3 hpost _ _ _ _ _ _)))
theorem mn_X1_seek_26 {K52 K52' : Int → Int → Int → Int → Int → Mem → Prop} {post post' : Mem → Prop} (hK52 : ∀ (x0 : Int) (x1 : Int) (x2 : Int) (x3 : Int) (x4 : Int) (x5 : Mem), K52 x0 x1 x2 x3 x4 x5 → K52' x0 x1 x2 x3 x4 x5) (hpost : ∀ (x0 : Mem), post x0 → post' x0) : ∀ (n : Nat) (v1 : Int) (v2 : Int) (v4 : Int) (v5 : Int) (v6 : Int) (m : Mem), wp_X1_seek_26 K52 post n v1 v2 v4 v5 v6 m → wp_X1_seek_26 K52' post' n v1 v2 v4 v5 v6 m := by
  intro n
  induction n with
  | zero => intro v1 v2 v4 v5 v6 m; unfold wp_X1_seek_26; exact id
  | succ n ih =>
    intro v1 v2 v4 v5 v6 m
    unfold wp_X1_seek_26
    exact (mn_and (mn_imp (hK52 _ _ _ _ _ _)) (mn_imp (mn_all (fun _ => (mn_imp (ih _ _ _ _ _ _))))))
theorem mn_X1_seek_105 {v1 : Int} {v2 : Int} {v4 : Int} {v5 : Int} {v6 : Int} {v7 : Int} {s0 : Int} {m : Mem} {K52 K52' : Int → Int → Int → Int → Int → Mem → Prop} {post post' : Mem → Prop} (hK52 : ∀ (x0 : Int) (x1 : Int) (x2 : Int) (x3 : Int) (x4 : Int) (x5 : Mem), K52 x0 x1 x2 x3 x4 x5 → K52' x0 x1 x2 x3 x4 x5) (hpost : ∀ (x0 : Mem), post x0 → post' x0) : wp_X1_seek_105 v1 v2 v4 v5 v6 v7 s0 m K52 post → wp_X1_seek_105 v1 v2 v4 v5 v6 v7 s0 m K52' post' := by
  unfold wp_X1_seek_105
  exact (mn_and (mn_imp (hK52 _ _ _ _ _ _)) (mn_imp (mn_X1_allCome (fun _ _ => (mn_and (mn_imp (hK52 _ _ _ _ _ _)) (mn_imp (mn_all (fun _ => (mn_imp (mn_and id (mn_all (fun _ => (mn_imp (hK52 _ _ _ _ _ _))))))))))))))
theorem mn_X1_seek_104 {v1 : Int} {v2 : Int} {v4 : Int} {v5 : Int} {v6 : Int} {v7 : Int} {m : Mem} {K52 K52' : Int → Int → Int → Int → Int → Mem → Prop} {post post' : Mem → Prop} (hK52 : ∀ (x0 : Int) (x1 : Int) (x2 : Int) (x3 : Int) (x4 : Int) (x5 : Mem), K52 x0 x1 x2 x3 x4 x5 → K52' x0 x1 x2 x3 x4 x5) (hpost : ∀ (x0 : Mem), post x0 → post' x0) : wp_X1_seek_104 v1 v2 v4 v5 v6 v7 m K52 post → wp_X1_seek_104 v1 v2 v4 v5 v6 v7 m K52' post' := by
  unfold wp_X1_seek_104
  exact (mn_X1_seek_105 (fun _ _ _ _ _ _ => (hK52 _ _ _ _ _ _)) hpost)
theorem mn_X1_seek_100 {v1 : Int} {v2 : Int} {v4 : Int} {v5 : Int} {v6 : Int} {v7 : Int} {m : Mem} {K52 K52' : Int → Int → Int → Int → Int → Mem → Prop} {post post' : Mem → Prop} (hK52 : ∀ (x0 : Int) (x1 : Int) (x2 : Int) (x3 : Int) (x4 : Int) (x5 : Mem), K52 x0 x1 x2 x3 x4 x5 → K52' x0 x1 x2 x3 x4 x5) (hpost : ∀ (x0 : Mem), post x0 → post' x0) : wp_X1_seek_100 v1 v2 v4 v5 v6 v7 m K52 post → wp_X1_seek_100 v1 v2 v4 v5 v6 v7 m K52' post' := by
  unfold wp_X1_seek_100
  exact (mn_X1_seek_105 (fun _ _ _ _ _ _ => (hK52 _ _ _ _ _ _)) hpost)
theorem mn_X1_seek_52 {post post' : Mem → Prop} (hpost : ∀ (x0 : Mem), post x0 → post' x0) : ∀ (n : Nat) (v1 : Int) (v2 : Int) (v4 : Int) (v5 : Int) (v6 : Int) (m : Mem), wp_X1_seek_52 post n v1 v2 v4 v5 v6 m → wp_X1_seek_52 post' n v1 v2 v4 v5 v6 m := by
  intro n
  induction n with
  | zero => intro v1 v2 v4 v5 v6 m; unfold wp_X1_seek_52; exact id
  | succ n ih =>
    intro v1 v2 v4 v5 v6 m
    unfold wp_X1_seek_52
    exact (mn_and (mn_imp (hpost _)) (mn_imp (mn_and (mn_imp (hpost _)) (mn_imp (mn_X1_turn (fun _ _ => (mn_and (mn_imp (mn_X1_seek_104 (fun _ _ _ _ _ _ => (ih _ _ _ _ _ _)) hpost)) (mn_imp (mn_and (mn_imp (mn_X1_seek_100 (fun _ _ _ _ _ _ => (ih _ _ _ _ _ _)) hpost)) (mn_imp (mn_and (mn_imp (mn_X1_seek_104 (fun _ _ _ _ _ _ => (ih _ _ _ _ _ _)) hpost)) (mn_imp (mn_X1_seek_100 (fun _ _ _ _ _ _ => (ih _ _ _ _ _ _)) hpost)))))))))))))
theorem mn_X1_seek {v1 : Int} {v2 : Int} {v4 : Int} {m : Mem} {post post' : Mem → Prop} (hpost : ∀ (x0 : Mem), post x0 → post' x0) : wp_X1_seek v1 v2 v4 m post → wp_X1_seek v1 v2 v4 m post' := by
  unfold wp_X1_seek
  exact (mn_all (fun _ => (mn_imp (mn_and id (mn_all (fun _ => (mn_imp (mn_ex (fun _ => (mn_X1_seek_26 (fun _ _ _ _ _ _ => (mn_ex (fun _ => (mn_X1_seek_52 hpost _ _ _ _ _ _ _)))) hpost _ _ _ _ _ _ _))))))))))
theorem mn_X2_begin {m : Mem} {post post' : Mem → Prop} (hpost : ∀ (x0 : Mem), post x0 → post' x0) : wp_X2_begin m post → wp_X2_begin m post' := by
  unfold wp_X2_begin
  exact (mn_all (fun _ => (mn_imp (mn_J7_fill_53178 (fun _ => (hpost _))))))
theorem mn_X2_gather_12 {post post' : Mem → Prop} (hpost : ∀ (x0 : Mem), post x0 → post' x0) : ∀ (n : Nat) (v1 : Int) (v2 : Int) (m : Mem), wp_X2_gather_12 post n v1 v2 m → wp_X2_gather_12 post' n v1 v2 m := by
  intro n
  induction n with
  | zero => intro v1 v2 m; unfold wp_X2_gather_12; exact id
  | succ n ih =>
    intro v1 v2 m
    unfold wp_X2_gather_12
    exact (mn_and (mn_imp (hpost _)) (mn_imp (mn_and id (mn_and (mn_imp (mn_and id (mn_and (mn_imp (ih _ _ _)) (mn_imp (mn_and id (mn_all (fun _ => (mn_imp (mn_and id (mn_and id (mn_all (fun _ => (mn_imp (mn_all (fun _ => (mn_imp (ih _ _ _))))))))))))))))) (mn_imp (mn_and id (mn_all (fun _ => (mn_imp (mn_and id (mn_and id (mn_all (fun _ => (mn_imp (mn_all (fun _ => (mn_imp (ih _ _ _))))))))))))))))))
theorem mn_X2_gather {v1 : Int} {m : Mem} {post post' : Mem → Prop} (hpost : ∀ (x0 : Mem), post x0 → post' x0) : wp_X2_gather v1 m post → wp_X2_gather v1 m post' := by
  unfold wp_X2_gather
  exact (mn_all (fun _ => (mn_imp (mn_all (fun _ => (mn_imp (mn_ex (fun _ => (mn_X2_gather_12 hpost _ _ _ _)))))))))
theorem mn_X3_shortenRow_3 {post post' : Mem → Prop} (hpost : ∀ (x0 : Mem), post x0 → post' x0) : ∀ (n : Nat) (v0 : Int) (v1 : Int) (v2 : Int) (v3 : Int) (v4 : Int) (v5 : Int) (m : Mem), wp_X3_shortenRow_3 post n v0 v1 v2 v3 v4 v5 m → wp_X3_shortenRow_3 post' n v0 v1 v2 v3 v4 v5 m := by
  intro n
  induction n with
  | zero => intro v0 v1 v2 v3 v4 v5 m; unfold wp_X3_shortenRow_3; exact id
  | succ n ih =>
    intro v0 v1 v2 v3 v4 v5 m
    unfold wp_X3_shortenRow_3
    exact (mn_and (mn_imp (hpost _)) (mn_imp (mn_and id (mn_all (fun _ => (mn_imp (mn_and (mn_imp (ih _ _ _ _ _ _ _)) (mn_imp (mn_and (mn_imp (ih _ _ _ _ _ _ _)) (mn_imp (mn_and id (mn_and (mn_imp (ih _ _ _ _ _ _ _)) (mn_imp (mn_and id (mn_all (fun _ => (mn_imp (ih _ _ _ _ _ _ _))))))))))))))))))
theorem mn_X3_shortenRow {v0 : Int} {v1 : Int} {v2 : Int} {v3 : Int} {v4 : Int} {m : Mem} {post post' : Mem → Prop} (hpost : ∀ (x0 : Mem), post x0 → post' x0) : wp_X3_shortenRow v0 v1 v2 v3 v4 m post → wp_X3_shortenRow v0 v1 v2 v3 v4 m post' := by
  unfold wp_X3_shortenRow
  exact (mn_ex (fun _ => (mn_X3_shortenRow_3 hpost _ _ _ _ _ _ _ _)))
theorem mn_X3_shorten_10 {K2 K2' : Int → Int → Int → Int → Mem → Prop} {post post' : Mem → Prop} (hK2 : ∀ (x0 : Int) (x1 : Int) (x2 : Int) (x3 : Int) (x4 : Mem), K2 x0 x1 x2 x3 x4 → K2' x0 x1 x2 x3 x4) (hpost : ∀ (x0 : Mem), post x0 → post' x0) : ∀ (n : Nat) (v0 : Int) (v1 : Int) (v2 : Int) (v3 : Int) (v4 : Int) (m : Mem), wp_X3_shorten_10 K2 post n v0 v1 v2 v3 v4 m → wp_X3_shorten_10 K2' post' n v0 v1 v2 v3 v4 m := by
  intro n
  induction n with
  | zero => intro v0 v1 v2 v3 v4 m; unfold wp_X3_shorten_10; exact id
  | succ n ih =>
    intro v0 v1 v2 v3 v4 m
    unfold wp_X3_shorten_10
    exact (mn_and (mn_imp (hK2 _ _ _ _ _)) (mn_imp (mn_and id (mn_all (fun _ => (mn_imp (mn_and (mn_imp (ih _ _ _ _ _ _)) (mn_imp (mn_and (mn_imp (ih _ _ _ _ _ _)) (mn_imp (mn_X3_shortenRow (fun _ => (ih _ _ _ _ _ _)))))))))))))
theorem mn_X3_shorten_2 {post post' : Mem → Prop} (hpost : ∀ (x0 : Mem), post x0 → post' x0) : ∀ (n : Nat) (v0 : Int) (v1 : Int) (v2 : Int) (v3 : Int) (m : Mem), wp_X3_shorten_2 post n v0 v1 v2 v3 m → wp_X3_shorten_2 post' n v0 v1 v2 v3 m := by
  intro n
  induction n with
  | zero => intro v0 v1 v2 v3 m; unfold wp_X3_shorten_2; exact id
  | succ n ih =>
    intro v0 v1 v2 v3 m
    unfold wp_X3_shorten_2
    exact (mn_and (mn_imp (hpost _)) (mn_imp (mn_ex (fun _ => (mn_X3_shorten_10 (fun _ _ _ _ _ => (ih _ _ _ _ _)) hpost _ _ _ _ _ _ _)))))
theorem mn_X3_shorten {v0 : Int} {v1 : Int} {v2 : Int} {m : Mem} {post post' : Mem → Prop} (hpost : ∀ (x0 : Mem), post x0 → post' x0) : wp_X3_shorten v0 v1 v2 m post → wp_X3_shorten v0 v1 v2 m post' := by
  unfold wp_X3_shorten
  exact (mn_ex (fun _ => (mn_X3_shorten_2 hpost _ _ _ _ _ _)))
theorem mn_X3_measure_12 {K2 K2' : Int → Mem → Prop} {post post' : Mem → Prop} (hK2 : ∀ (x0 : Int) (x1 : Mem), K2 x0 x1 → K2' x0 x1) (hpost : ∀ (x0 : Mem), post x0 → post' x0) : ∀ (n : Nat) (v1 : Int) (v2 : Int) (m : Mem), wp_X3_measure_12 K2 post n v1 v2 m → wp_X3_measure_12 K2' post' n v1 v2 m := by
  intro n
  induction n with
  | zero => intro v1 v2 m; unfold wp_X3_measure_12; exact id
  | succ n ih =>
    intro v1 v2 m
    unfold wp_X3_measure_12
    exact (mn_and (mn_imp (hK2 _ _)) (mn_imp (mn_and (mn_imp (mn_and id (mn_and id (mn_all (fun _ => (mn_imp (ih _ _ _))))))) (mn_imp (mn_and id (mn_all (fun _ => (mn_imp (ih _ _ _)))))))))
theorem mn_X3_measure_2 {K63 K63' : Mem → Prop} {post post' : Mem → Prop} (hK63 : ∀ (x0 : Mem), K63 x0 → K63' x0) (hpost : ∀ (x0 : Mem), post x0 → post' x0) : ∀ (n : Nat) (v1 : Int) (m : Mem), wp_X3_measure_2 K63 post n v1 m → wp_X3_measure_2 K63' post' n v1 m := by
  intro n
  induction n with
  | zero => intro v1 m; unfold wp_X3_measure_2; exact id
  | succ n ih =>
    intro v1 m
    unfold wp_X3_measure_2
    exact (mn_and (mn_imp (hK63 _)) (mn_imp (mn_ex (fun _ => (mn_X3_measure_12 (fun _ _ => (ih _ _)) hpost _ _ _ _)))))
theorem mn_X3_measure {m : Mem} {post post' : Mem → Prop} (hpost : ∀ (x0 : Mem), post x0 → post' x0) : wp_X3_measure m post → wp_X3_measure m post' := by
  unfold wp_X3_measure
  exact (mn_ex (fun _ => (mn_X3_measure_2 (fun _ => (mn_X3_shorten (fun _ => (hpost _)))) hpost _ _ _)))
theorem mn_X2_setFares_96 {v2 : Int} {v3 : Int} {s0 : Int} {s1 : Int} {m : Mem} {K12 K12' : Int → Int → Mem → Prop} {post post' : Mem → Prop} (hK12 : ∀ (x0 : Int) (x1 : Int) (x2 : Mem), K12 x0 x1 x2 → K12' x0 x1 x2) (hpost : ∀ (x0 : Mem), post x0 → post' x0) : wp_X2_setFares_96 v2 v3 s0 s1 m K12 post → wp_X2_setFares_96 v2 v3 s0 s1 m K12' post' := by
  unfold wp_X2_setFares_96
  exact (mn_and id (mn_all (fun _ => (mn_imp (mn_and id (mn_all (fun _ => (mn_imp (hK12 _ _ _)))))))))
theorem mn_X2_setFares_12 {K2 K2' : Int → Mem → Prop} {post post' : Mem → Prop} (hK2 : ∀ (x0 : Int) (x1 : Mem), K2 x0 x1 → K2' x0 x1) (hpost : ∀ (x0 : Mem), post x0 → post' x0) : ∀ (n : Nat) (v2 : Int) (v3 : Int) (m : Mem), wp_X2_setFares_12 K2 post n v2 v3 m → wp_X2_setFares_12 K2' post' n v2 v3 m := by
  intro n
  induction n with
  | zero => intro v2 v3 m; unfold wp_X2_setFares_12; exact id
  | succ n ih =>
    intro v2 v3 m
    unfold wp_X2_setFares_12
    exact (mn_and (mn_imp (hK2 _ _)) (mn_imp (mn_and id (mn_and id (mn_all (fun _ => (mn_imp (mn_and id (mn_and id (mn_and id (mn_all (fun _ => (mn_imp (mn_and (mn_imp (mn_X2_setFares_96 (fun _ _ _ => (ih _ _ _)) hpost)) (mn_imp (mn_X2_setFares_96 (fun _ _ _ => (ih _ _ _)) hpost))))))))))))))))
theorem mn_X2_setFares_2 {post post' : Mem → Prop} (hpost : ∀ (x0 : Mem), post x0 → post' x0) : ∀ (n : Nat) (v2 : Int) (m : Mem), wp_X2_setFares_2 post n v2 m → wp_X2_setFares_2 post' n v2 m := by
  intro n
  induction n with
  | zero => intro v2 m; unfold wp_X2_setFares_2; exact id
  | succ n ih =>
    intro v2 m
    unfold wp_X2_setFares_2
    exact (mn_and (mn_imp (hpost _)) (mn_imp (mn_ex (fun _ => (mn_X2_setFares_12 (fun _ _ => (ih _ _)) hpost _ _ _ _)))))
theorem mn_X2_setFares {m : Mem} {post post' : Mem → Prop} (hpost : ∀ (x0 : Mem), post x0 → post' x0) : wp_X2_setFares m post → wp_X2_setFares m post' := by
  unfold wp_X2_setFares
  exact (mn_ex (fun _ => (mn_X2_setFares_2 hpost _ _ _)))
theorem mn_X2_isWanting_2 {post post' : Int → Mem → Prop} (hpost : ∀ (x0 : Int) (x1 : Mem), post x0 x1 → post' x0 x1) : ∀ (n : Nat) (v1 : Int) (m : Mem), wp_X2_isWanting_2 post n v1 m → wp_X2_isWanting_2 post' n v1 m := by
  intro n
  induction n with
  | zero => intro v1 m; unfold wp_X2_isWanting_2; exact id
  | succ n ih =>
    intro v1 m
    unfold wp_X2_isWanting_2
    exact (mn_and (mn_imp (hpost _ _)) (mn_imp (mn_and id (mn_and (mn_imp (ih _ _)) (mn_imp (hpost _ _))))))
theorem mn_X2_isWanting {m : Mem} {post post' : Int → Mem → Prop} (hpost : ∀ (x0 : Int) (x1 : Mem), post x0 x1 → post' x0 x1) : wp_X2_isWanting m post → wp_X2_isWanting m post' := by
  unfold wp_X2_isWanting
  exact (mn_ex (fun _ => (mn_X2_isWanting_2 hpost _ _ _)))
theorem mn_X2_spreadForth_74 {v1 : Int} {v2 : Int} {v3 : Int} {v4 : Int} {s0 : Int} {m : Mem} {K14 K14' : Int → Int → Int → Mem → Prop} {post post' : Int → Mem → Prop} (hK14 : ∀ (x0 : Int) (x1 : Int) (x2 : Int) (x3 : Mem), K14 x0 x1 x2 x3 → K14' x0 x1 x2 x3) (hpost : ∀ (x0 : Int) (x1 : Mem), post x0 x1 → post' x0 x1) : wp_X2_spreadForth_74 v1 v2 v3 v4 s0 m K14 post → wp_X2_spreadForth_74 v1 v2 v3 v4 s0 m K14' post' := by
  unfold wp_X2_spreadForth_74
  exact (mn_and (mn_imp (hK14 _ _ _ _)) (mn_imp (mn_and id (mn_and (mn_imp (hK14 _ _ _ _)) (mn_imp (mn_and id (mn_all (fun _ => (mn_imp (mn_and id (mn_all (fun _ => (mn_imp (hK14 _ _ _ _))))))))))))))
theorem mn_X2_spreadForth_73 {v1 : Int} {v2 : Int} {v3 : Int} {v4 : Int} {m : Mem} {K14 K14' : Int → Int → Int → Mem → Prop} {post post' : Int → Mem → Prop} (hK14 : ∀ (x0 : Int) (x1 : Int) (x2 : Int) (x3 : Mem), K14 x0 x1 x2 x3 → K14' x0 x1 x2 x3) (hpost : ∀ (x0 : Int) (x1 : Mem), post x0 x1 → post' x0 x1) : wp_X2_spreadForth_73 v1 v2 v3 v4 m K14 post → wp_X2_spreadForth_73 v1 v2 v3 v4 m K14' post' := by
  unfold wp_X2_spreadForth_73
  exact (mn_X2_spreadForth_74 (fun _ _ _ _ => (hK14 _ _ _ _)) hpost)
theorem mn_X2_spreadForth_14 {K4 K4' : Int → Int → Mem → Prop} {post post' : Int → Mem → Prop} (hK4 : ∀ (x0 : Int) (x1 : Int) (x2 : Mem), K4 x0 x1 x2 → K4' x0 x1 x2) (hpost : ∀ (x0 : Int) (x1 : Mem), post x0 x1 → post' x0 x1) : ∀ (n : Nat) (v1 : Int) (v2 : Int) (v3 : Int) (m : Mem), wp_X2_spreadForth_14 K4 post n v1 v2 v3 m → wp_X2_spreadForth_14 K4' post' n v1 v2 v3 m := by
  intro n
  induction n with
  | zero => intro v1 v2 v3 m; unfold wp_X2_spreadForth_14; exact id
  | succ n ih =>
    intro v1 v2 v3 m
    unfold wp_X2_spreadForth_14
    exact (mn_and (mn_imp (hK4 _ _ _)) (mn_imp (mn_and id (mn_and id (mn_all (fun _ => (mn_imp (mn_and id (mn_and (mn_imp (mn_X2_spreadForth_73 (fun _ _ _ _ => (ih _ _ _ _)) hpost)) (mn_imp (mn_and id (mn_and (mn_imp (mn_X2_spreadForth_73 (fun _ _ _ _ => (ih _ _ _ _)) hpost)) (mn_imp (mn_X2_spreadForth_74 (fun _ _ _ _ => (ih _ _ _ _)) hpost))))))))))))))
theorem mn_X2_spreadForth_4 {post post' : Int → Mem → Prop} (hpost : ∀ (x0 : Int) (x1 : Mem), post x0 x1 → post' x0 x1) : ∀ (n : Nat) (v1 : Int) (v2 : Int) (m : Mem), wp_X2_spreadForth_4 post n v1 v2 m → wp_X2_spreadForth_4 post' n v1 v2 m := by
  intro n
  induction n with
  | zero => intro v1 v2 m; unfold wp_X2_spreadForth_4; exact id
  | succ n ih =>
    intro v1 v2 m
    unfold wp_X2_spreadForth_4
    exact (mn_and (mn_imp (mn_and id (hpost _ _))) (mn_imp (mn_ex (fun _ => (mn_X2_spreadForth_14 (fun _ _ _ => (ih _ _ _)) hpost _ _ _ _ _)))))
theorem mn_X2_spreadForth {m : Mem} {post post' : Int → Mem → Prop} (hpost : ∀ (x0 : Int) (x1 : Mem), post x0 x1 → post' x0 x1) : wp_X2_spreadForth m post → wp_X2_spreadForth m post' := by
  unfold wp_X2_spreadForth
  exact (mn_ex (fun _ => (mn_X2_spreadForth_4 hpost _ _ _ _)))
theorem mn_X2_spreadBack_72 {v1 : Int} {v2 : Int} {v3 : Int} {v4 : Int} {s0 : Int} {m : Mem} {K14 K14' : Int → Int → Int → Mem → Prop} {post post' : Int → Mem → Prop} (hK14 : ∀ (x0 : Int) (x1 : Int) (x2 : Int) (x3 : Mem), K14 x0 x1 x2 x3 → K14' x0 x1 x2 x3) (hpost : ∀ (x0 : Int) (x1 : Mem), post x0 x1 → post' x0 x1) : wp_X2_spreadBack_72 v1 v2 v3 v4 s0 m K14 post → wp_X2_spreadBack_72 v1 v2 v3 v4 s0 m K14' post' := by
  unfold wp_X2_spreadBack_72
  exact (mn_and (mn_imp (hK14 _ _ _ _)) (mn_imp (mn_and id (mn_and (mn_imp (hK14 _ _ _ _)) (mn_imp (mn_and id (mn_all (fun _ => (mn_imp (mn_and id (mn_all (fun _ => (mn_imp (hK14 _ _ _ _))))))))))))))
theorem mn_X2_spreadBack_71 {v1 : Int} {v2 : Int} {v3 : Int} {v4 : Int} {m : Mem} {K14 K14' : Int → Int → Int → Mem → Prop} {post post' : Int → Mem → Prop} (hK14 : ∀ (x0 : Int) (x1 : Int) (x2 : Int) (x3 : Mem), K14 x0 x1 x2 x3 → K14' x0 x1 x2 x3) (hpost : ∀ (x0 : Int) (x1 : Mem), post x0 x1 → post' x0 x1) : wp_X2_spreadBack_71 v1 v2 v3 v4 m K14 post → wp_X2_spreadBack_71 v1 v2 v3 v4 m K14' post' := by
  unfold wp_X2_spreadBack_71
  exact (mn_X2_spreadBack_72 (fun _ _ _ _ => (hK14 _ _ _ _)) hpost)
theorem mn_X2_spreadBack_14 {K4 K4' : Int → Int → Mem → Prop} {post post' : Int → Mem → Prop} (hK4 : ∀ (x0 : Int) (x1 : Int) (x2 : Mem), K4 x0 x1 x2 → K4' x0 x1 x2) (hpost : ∀ (x0 : Int) (x1 : Mem), post x0 x1 → post' x0 x1) : ∀ (n : Nat) (v1 : Int) (v2 : Int) (v3 : Int) (m : Mem), wp_X2_spreadBack_14 K4 post n v1 v2 v3 m → wp_X2_spreadBack_14 K4' post' n v1 v2 v3 m := by
  intro n
  induction n with
  | zero => intro v1 v2 v3 m; unfold wp_X2_spreadBack_14; exact id
  | succ n ih =>
    intro v1 v2 v3 m
    unfold wp_X2_spreadBack_14
    exact (mn_and (mn_imp (hK4 _ _ _)) (mn_imp (mn_and id (mn_and id (mn_all (fun _ => (mn_imp (mn_and id (mn_and (mn_imp (mn_X2_spreadBack_71 (fun _ _ _ _ => (ih _ _ _ _)) hpost)) (mn_imp (mn_and id (mn_and (mn_imp (mn_X2_spreadBack_71 (fun _ _ _ _ => (ih _ _ _ _)) hpost)) (mn_imp (mn_X2_spreadBack_72 (fun _ _ _ _ => (ih _ _ _ _)) hpost))))))))))))))
theorem mn_X2_spreadBack_4 {post post' : Int → Mem → Prop} (hpost : ∀ (x0 : Int) (x1 : Mem), post x0 x1 → post' x0 x1) : ∀ (n : Nat) (v1 : Int) (v2 : Int) (m : Mem), wp_X2_spreadBack_4 post n v1 v2 m → wp_X2_spreadBack_4 post' n v1 v2 m := by
  intro n
  induction n with
  | zero => intro v1 v2 m; unfold wp_X2_spreadBack_4; exact id
  | succ n ih =>
    intro v1 v2 m
    unfold wp_X2_spreadBack_4
    exact (mn_and (mn_imp (mn_and id (hpost _ _))) (mn_imp (mn_ex (fun _ => (mn_X2_spreadBack_14 (fun _ _ _ => (ih _ _ _)) hpost _ _ _ _ _)))))
theorem mn_X2_spreadBack {m : Mem} {post post' : Int → Mem → Prop} (hpost : ∀ (x0 : Int) (x1 : Mem), post x0 x1 → post' x0 x1) : wp_X2_spreadBack m post → wp_X2_spreadBack m post' := by
  unfold wp_X2_spreadBack
  exact (mn_ex (fun _ => (mn_X2_spreadBack_4 hpost _ _ _ _)))
theorem mn_X2_spread_30 {v1 : Int} {s0 : Int} {s1 : Int} {m : Mem} {K2 K2' : Int → Mem → Prop} {post post' : Mem → Prop} (hK2 : ∀ (x0 : Int) (x1 : Mem), K2 x0 x1 → K2' x0 x1) (hpost : ∀ (x0 : Mem), post x0 → post' x0) : wp_X2_spread_30 v1 s0 s1 m K2 post → wp_X2_spread_30 v1 s0 s1 m K2' post' := by
  unfold wp_X2_spread_30
  exact (mn_and id (mn_all (fun _ => (mn_imp (mn_and id (mn_all (fun _ => (mn_imp (hK2 _ _)))))))))
theorem mn_X2_spread_2 {K46 K46' : Int → Mem → Prop} {post post' : Mem → Prop} (hK46 : ∀ (x0 : Int) (x1 : Mem), K46 x0 x1 → K46' x0 x1) (hpost : ∀ (x0 : Mem), post x0 → post' x0) : ∀ (n : Nat) (v1 : Int) (m : Mem), wp_X2_spread_2 K46 post n v1 m → wp_X2_spread_2 K46' post' n v1 m := by
  intro n
  induction n with
  | zero => intro v1 m; unfold wp_X2_spread_2; exact id
  | succ n ih =>
    intro v1 m
    unfold wp_X2_spread_2
    exact (mn_and (mn_imp (hK46 _ _)) (mn_imp (mn_and id (mn_and (mn_imp (mn_X2_spread_30 (fun _ _ => (ih _ _)) hpost)) (mn_imp (mn_X2_spread_30 (fun _ _ => (ih _ _)) hpost))))))
theorem mn_X2_spread_46 {K79 K79' : Int → Int → Mem → Prop} {post post' : Mem → Prop} (hK79 : ∀ (x0 : Int) (x1 : Int) (x2 : Mem), K79 x0 x1 x2 → K79' x0 x1 x2) (hpost : ∀ (x0 : Mem), post x0 → post' x0) : ∀ (n : Nat) (v1 : Int) (m : Mem), wp_X2_spread_46 K79 post n v1 m → wp_X2_spread_46 K79' post' n v1 m := by
  intro n
  induction n with
  | zero => intro v1 m; unfold wp_X2_spread_46; exact id
  | succ n ih =>
    intro v1 m
    unfold wp_X2_spread_46
    exact (mn_and (mn_imp (hK79 _ _ _)) (mn_imp (mn_and id (mn_all (fun _ => (mn_imp (mn_and id (mn_all (fun _ => (mn_imp (ih _ _)))))))))))
theorem mn_X2_spread_79 {post post' : Mem → Prop} (hpost : ∀ (x0 : Mem), post x0 → post' x0) : ∀ (n : Nat) (v1 : Int) (v2 : Int) (m : Mem), wp_X2_spread_79 post n v1 v2 m → wp_X2_spread_79 post' n v1 v2 m := by
  intro n
  induction n with
  | zero => intro v1 v2 m; unfold wp_X2_spread_79; exact id
  | succ n ih =>
    intro v1 v2 m
    unfold wp_X2_spread_79
    exact (mn_and (mn_imp (hpost _)) (mn_imp (mn_and (mn_imp (hpost _)) (mn_imp (mn_X2_spreadForth (fun _ _ => (mn_X2_spreadBack (fun _ _ => (mn_and (mn_imp (ih _ _ _)) (mn_imp (mn_and (mn_imp (ih _ _ _)) (mn_imp (ih _ _ _)))))))))))))
theorem mn_X2_spread {m : Mem} {post post' : Mem → Prop} (hpost : ∀ (x0 : Mem), post x0 → post' x0) : wp_X2_spread m post → wp_X2_spread m post' := by
  unfold wp_X2_spread
  exact (mn_ex (fun _ => (mn_X2_spread_2 (fun _ _ => (mn_ex (fun _ => (mn_X2_spread_46 (fun _ _ _ => (mn_ex (fun _ => (mn_X2_spread_79 hpost _ _ _ _)))) hpost _ _ _)))) hpost _ _ _)))
theorem mn_X2_cheapestTaker_37 {v1 : Int} {v2 : Int} {s0 : Int} {m : Mem} {K4 K4' : Int → Int → Mem → Prop} {post post' : Int → Mem → Prop} (hK4 : ∀ (x0 : Int) (x1 : Int) (x2 : Mem), K4 x0 x1 x2 → K4' x0 x1 x2) (hpost : ∀ (x0 : Int) (x1 : Mem), post x0 x1 → post' x0 x1) : wp_X2_cheapestTaker_37 v1 v2 s0 m K4 post → wp_X2_cheapestTaker_37 v1 v2 s0 m K4' post' := by
  unfold wp_X2_cheapestTaker_37
  exact (mn_and (mn_imp (hK4 _ _ _)) (mn_imp (mn_and (mn_imp (hK4 _ _ _)) (mn_imp (mn_and id (mn_and id (mn_and (mn_imp (hK4 _ _ _)) (mn_imp (hK4 _ _ _)))))))))
theorem mn_X2_cheapestTaker_36 {v1 : Int} {v2 : Int} {m : Mem} {K4 K4' : Int → Int → Mem → Prop} {post post' : Int → Mem → Prop} (hK4 : ∀ (x0 : Int) (x1 : Int) (x2 : Mem), K4 x0 x1 x2 → K4' x0 x1 x2) (hpost : ∀ (x0 : Int) (x1 : Mem), post x0 x1 → post' x0 x1) : wp_X2_cheapestTaker_36 v1 v2 m K4 post → wp_X2_cheapestTaker_36 v1 v2 m K4' post' := by
  unfold wp_X2_cheapestTaker_36
  exact (mn_X2_cheapestTaker_37 (fun _ _ _ => (hK4 _ _ _)) hpost)
theorem mn_X2_cheapestTaker_4 {post post' : Int → Mem → Prop} (hpost : ∀ (x0 : Int) (x1 : Mem), post x0 x1 → post' x0 x1) : ∀ (n : Nat) (v1 : Int) (v2 : Int) (m : Mem), wp_X2_cheapestTaker_4 post n v1 v2 m → wp_X2_cheapestTaker_4 post' n v1 v2 m := by
  intro n
  induction n with
  | zero => intro v1 v2 m; unfold wp_X2_cheapestTaker_4; exact id
  | succ n ih =>
    intro v1 v2 m
    unfold wp_X2_cheapestTaker_4
    exact (mn_and (mn_imp (hpost _ _)) (mn_imp (mn_and id (mn_and (mn_imp (mn_X2_cheapestTaker_36 (fun _ _ _ => (ih _ _ _)) hpost)) (mn_imp (mn_and id (mn_and (mn_imp (mn_X2_cheapestTaker_36 (fun _ _ _ => (ih _ _ _)) hpost)) (mn_imp (mn_X2_cheapestTaker_37 (fun _ _ _ => (ih _ _ _)) hpost)))))))))
theorem mn_X2_cheapestTaker {m : Mem} {post post' : Int → Mem → Prop} (hpost : ∀ (x0 : Int) (x1 : Mem), post x0 x1 → post' x0 x1) : wp_X2_cheapestTaker m post → wp_X2_cheapestTaker m post' := by
  unfold wp_X2_cheapestTaker
  exact (mn_ex (fun _ => (mn_X2_cheapestTaker_4 hpost _ _ _ _)))
theorem mn_X2_amountTo_12 {post post' : Int → Mem → Prop} (hpost : ∀ (x0 : Int) (x1 : Mem), post x0 x1 → post' x0 x1) : ∀ (n : Nat) (v2 : Int) (v3 : Int) (v4 : Int) (m : Mem), wp_X2_amountTo_12 post n v2 v3 v4 m → wp_X2_amountTo_12 post' n v2 v3 v4 m := by
  intro n
  induction n with
  | zero => intro v2 v3 v4 m; unfold wp_X2_amountTo_12; exact id
  | succ n ih =>
    intro v2 v3 v4 m
    unfold wp_X2_amountTo_12
    exact (mn_and (mn_imp (hpost _ _)) (mn_imp (mn_and (mn_imp (hpost _ _)) (mn_imp (mn_and id (mn_all (fun _ => (mn_imp (mn_and (mn_imp (mn_and id (mn_all (fun _ => (mn_imp (mn_and (mn_imp (mn_and id (mn_all (fun _ => (mn_imp (ih _ _ _ _)))))) (mn_imp (mn_and id (mn_all (fun _ => (mn_imp (ih _ _ _ _)))))))))))) (mn_imp (hpost _ _)))))))))))
theorem mn_X2_amountTo {v1 : Int} {m : Mem} {post post' : Int → Mem → Prop} (hpost : ∀ (x0 : Int) (x1 : Mem), post x0 x1 → post' x0 x1) : wp_X2_amountTo v1 m post → wp_X2_amountTo v1 m post' := by
  unfold wp_X2_amountTo
  exact (mn_and id (mn_all (fun _ => (mn_imp (mn_ex (fun _ => (mn_X2_amountTo_12 hpost _ _ _ _ _)))))))
theorem mn_X2_send_15 {post post' : Mem → Prop} (hpost : ∀ (x0 : Mem), post x0 → post' x0) : ∀ (n : Nat) (v2 : Int) (v3 : Int) (v4 : Int) (m : Mem), wp_X2_send_15 post n v2 v3 v4 m → wp_X2_send_15 post' n v2 v3 v4 m := by
  intro n
  induction n with
  | zero => intro v2 v3 v4 m; unfold wp_X2_send_15; exact id
  | succ n ih =>
    intro v2 v3 v4 m
    unfold wp_X2_send_15
    exact (mn_and (mn_imp (hpost _)) (mn_imp (mn_and (mn_imp (hpost _)) (mn_imp (mn_and id (mn_all (fun _ => (mn_imp (mn_and (mn_imp (mn_and id (mn_and id (mn_all (fun _ => (mn_imp (mn_and id (mn_all (fun _ => (mn_imp (mn_and (mn_imp (mn_and id (mn_and id (mn_all (fun _ => (mn_imp (ih _ _ _ _))))))) (mn_imp (mn_and id (mn_and id (mn_all (fun _ => (mn_imp (ih _ _ _ _)))))))))))))))))) (mn_imp (hpost _)))))))))))
theorem mn_X2_send {v1 : Int} {v2 : Int} {m : Mem} {post post' : Mem → Prop} (hpost : ∀ (x0 : Mem), post x0 → post' x0) : wp_X2_send v1 v2 m post → wp_X2_send v1 v2 m post' := by
  unfold wp_X2_send
  exact (mn_and id (mn_and id (mn_all (fun _ => (mn_imp (mn_ex (fun _ => (mn_X2_send_15 hpost _ _ _ _ _))))))))
theorem mn_X2_leastPaid_21 {K90 K90' : Int → Mem → Prop} {post post' : Int → Mem → Prop} (hK90 : ∀ (x0 : Int) (x1 : Mem), K90 x0 x1 → K90' x0 x1) (hpost : ∀ (x0 : Int) (x1 : Mem), post x0 x1 → post' x0 x1) : ∀ (n : Nat) (v2 : Int) (v3 : Int) (m : Mem), wp_X2_leastPaid_21 K90 post n v2 v3 m → wp_X2_leastPaid_21 K90' post' n v2 v3 m := by
  intro n
  induction n with
  | zero => intro v2 v3 m; unfold wp_X2_leastPaid_21; exact id
  | succ n ih =>
    intro v2 v3 m
    unfold wp_X2_leastPaid_21
    exact (mn_and (mn_imp (hK90 _ _)) (mn_imp (mn_X2_isWanting (fun _ _ => (mn_and (mn_imp (mn_X2_spread (fun _ => (mn_X2_cheapestTaker (fun _ _ => (mn_and (mn_imp (mn_X2_amountTo (fun _ _ => (mn_X2_send (fun _ => (mn_and id (mn_all (fun _ => (mn_imp (ih _ _ _)))))))))) (mn_imp (hpost _ _)))))))) (mn_imp (hpost _ _)))))))
theorem mn_X2_leastPaid {m : Mem} {post post' : Int → Mem → Prop} (hpost : ∀ (x0 : Int) (x1 : Mem), post x0 x1 → post' x0 x1) : wp_X2_leastPaid m post → wp_X2_leastPaid m post' := by
  unfold wp_X2_leastPaid
  exact (mn_X2_gather (fun _ => (mn_X3_measure (fun _ => (mn_X2_setFares (fun _ => (mn_ex (fun _ => (mn_X2_leastPaid_21 (fun _ _ => (mn_X2_isWanting (fun _ _ => (mn_and (mn_imp (hpost _ _)) (mn_imp (hpost _ _)))))) hpost _ _ _ _)))))))))
theorem mn_X2_digestOnto_6 {post post' : Int → Mem → Prop} (hpost : ∀ (x0 : Int) (x1 : Mem), post x0 x1 → post' x0 x1) : ∀ (n : Nat) (v3 : Int) (v4 : Int) (v6 : Int) (m : Mem), wp_X2_digestOnto_6 post n v3 v4 v6 m → wp_X2_digestOnto_6 post' n v3 v4 v6 m := by
  intro n
  induction n with
  | zero => intro v3 v4 v6 m; unfold wp_X2_digestOnto_6; exact id
  | succ n ih =>
    intro v3 v4 v6 m
    unfold wp_X2_digestOnto_6
    exact (mn_and (mn_imp (hpost _ _)) (mn_imp (mn_and id (mn_all (fun _ => (mn_imp (ih _ _ _ _)))))))
theorem mn_X2_digestOnto {v1 : Int} {v3 : Int} {m : Mem} {post post' : Int → Mem → Prop} (hpost : ∀ (x0 : Int) (x1 : Mem), post x0 x1 → post' x0 x1) : wp_X2_digestOnto v1 v3 m post → wp_X2_digestOnto v1 v3 m post' := by
  unfold wp_X2_digestOnto
  exact (mn_ex (fun _ => (mn_X2_digestOnto_6 hpost _ _ _ _ _)))
theorem mn_X3_begin {v1 : Int} {m : Mem} {post post' : Mem → Prop} (hpost : ∀ (x0 : Mem), post x0 → post' x0) : wp_X3_begin v1 m post → wp_X3_begin v1 m post' := by
  unfold wp_X3_begin
  exact (mn_all (fun _ => (mn_imp (mn_J7_fill_53178 (fun _ => (hpost _))))))
theorem mn_X3_has {v1 : Int} {m : Mem} {post post' : Int → Mem → Prop} (hpost : ∀ (x0 : Int) (x1 : Mem), post x0 x1 → post' x0 x1) : wp_X3_has v1 m post → wp_X3_has v1 m post' := by
  unfold wp_X3_has
  exact (mn_and (mn_imp (hpost _ _)) (mn_imp (mn_and (mn_imp (hpost _ _)) (mn_imp (hpost _ _)))))
theorem mn_X3_hasPair {v1 : Int} {v2 : Int} {m : Mem} {post post' : Int → Mem → Prop} (hpost : ∀ (x0 : Int) (x1 : Mem), post x0 x1 → post' x0 x1) : wp_X3_hasPair v1 v2 m post → wp_X3_hasPair v1 v2 m post' := by
  unfold wp_X3_hasPair
  exact (mn_X3_has (fun _ _ => (mn_and (mn_imp (hpost _ _)) (mn_imp (mn_X3_has (fun _ _ => (mn_and (mn_imp (hpost _ _)) (mn_imp (mn_and (mn_imp (hpost _ _)) (mn_imp (hpost _ _)))))))))))
theorem mn_X3_setMiles {v1 : Int} {v2 : Int} {v3 : Int} {m : Mem} {post post' : Int → Mem → Prop} (hpost : ∀ (x0 : Int) (x1 : Mem), post x0 x1 → post' x0 x1) : wp_X3_setMiles v1 v2 v3 m post → wp_X3_setMiles v1 v2 v3 m post' := by
  unfold wp_X3_setMiles
  exact (mn_and id (mn_all (fun _ => (mn_imp (mn_and id (mn_all (fun _ => (mn_imp (mn_and id (mn_all (fun _ => (mn_imp (hpost _ _)))))))))))))
theorem mn_X3_digestOnto_30 {K15 K15' : Int → Int → Mem → Prop} {post post' : Int → Mem → Prop} (hK15 : ∀ (x0 : Int) (x1 : Int) (x2 : Mem), K15 x0 x1 x2 → K15' x0 x1 x2) (hpost : ∀ (x0 : Int) (x1 : Mem), post x0 x1 → post' x0 x1) : ∀ (n : Nat) (v3 : Int) (v5 : Int) (v6 : Int) (m : Mem), wp_X3_digestOnto_30 K15 post n v3 v5 v6 m → wp_X3_digestOnto_30 K15' post' n v3 v5 v6 m := by
  intro n
  induction n with
  | zero => intro v3 v5 v6 m; unfold wp_X3_digestOnto_30; exact id
  | succ n ih =>
    intro v3 v5 v6 m
    unfold wp_X3_digestOnto_30
    exact (mn_and (mn_imp (hK15 _ _ _)) (mn_imp (mn_and id (mn_all (fun _ => (mn_imp (ih _ _ _ _)))))))
theorem mn_X3_digestOnto_15 {post post' : Int → Mem → Prop} (hpost : ∀ (x0 : Int) (x1 : Mem), post x0 x1 → post' x0 x1) : ∀ (n : Nat) (v3 : Int) (v5 : Int) (m : Mem), wp_X3_digestOnto_15 post n v3 v5 m → wp_X3_digestOnto_15 post' n v3 v5 m := by
  intro n
  induction n with
  | zero => intro v3 v5 m; unfold wp_X3_digestOnto_15; exact id
  | succ n ih =>
    intro v3 v5 m
    unfold wp_X3_digestOnto_15
    exact (mn_and (mn_imp (hpost _ _)) (mn_imp (mn_all (fun _ => (mn_imp (mn_ex (fun _ => (mn_X3_digestOnto_30 (fun _ _ _ => (ih _ _ _)) hpost _ _ _ _ _))))))))
theorem mn_X3_digestOnto {v1 : Int} {m : Mem} {post post' : Int → Mem → Prop} (hpost : ∀ (x0 : Int) (x1 : Mem), post x0 x1 → post' x0 x1) : wp_X3_digestOnto v1 m post → wp_X3_digestOnto v1 m post' := by
  unfold wp_X3_digestOnto
  exact (mn_all (fun _ => (mn_imp (mn_ex (fun _ => (mn_X3_digestOnto_15 hpost _ _ _ _))))))
theorem mn_X4_add {v1 : Int} {v2 : Int} {m : Mem} {post post' : Mem → Prop} (hpost : ∀ (x0 : Mem), post x0 → post' x0) : wp_X4_add v1 v2 m post → wp_X4_add v1 v2 m post' := by
  unfold wp_X4_add
  exact (mn_and id (mn_all (fun _ => (mn_imp (mn_and id (mn_all (fun _ => (mn_imp (mn_all (fun _ => (mn_imp (hpost _))))))))))))
theorem mn_X4_hoursUnmissed_4 {post post' : Int → Mem → Prop} (hpost : ∀ (x0 : Int) (x1 : Mem), post x0 x1 → post' x0 x1) : ∀ (n : Nat) (v1 : Int) (v2 : Int) (m : Mem), wp_X4_hoursUnmissed_4 post n v1 v2 m → wp_X4_hoursUnmissed_4 post' n v1 v2 m := by
  intro n
  induction n with
  | zero => intro v1 v2 m; unfold wp_X4_hoursUnmissed_4; exact id
  | succ n ih =>
    intro v1 v2 m
    unfold wp_X4_hoursUnmissed_4
    exact (mn_and (mn_imp (hpost _ _)) (mn_imp (mn_and id (mn_all (fun _ => (mn_imp (ih _ _ _)))))))
theorem mn_X4_hoursUnmissed {m : Mem} {post post' : Int → Mem → Prop} (hpost : ∀ (x0 : Int) (x1 : Mem), post x0 x1 → post' x0 x1) : wp_X4_hoursUnmissed m post → wp_X4_hoursUnmissed m post' := by
  unfold wp_X4_hoursUnmissed
  exact (mn_ex (fun _ => (mn_X4_hoursUnmissed_4 hpost _ _ _ _)))
theorem mn_J7_fill_d0a16_6 {post post' : Mem → Prop} (hpost : ∀ (x0 : Mem), post x0 → post' x0) : ∀ (n : Nat) (v0 : Int) (v1 : Int) (v3 : Int) (v4 : Int) (m : Mem), wp_J7_fill_d0a16_6 post n v0 v1 v3 v4 m → wp_J7_fill_d0a16_6 post' n v0 v1 v3 v4 m := by
  intro n
  induction n with
  | zero => intro v0 v1 v3 v4 m; unfold wp_J7_fill_d0a16_6; exact id
  | succ n ih =>
    intro v0 v1 v3 v4 m
    unfold wp_J7_fill_d0a16_6
    exact (mn_and (mn_imp (hpost _)) (mn_imp (mn_and id (mn_all (fun _ => (mn_imp (ih _ _ _ _ _)))))))
theorem mn_J7_fill_d0a16 {v0 : Int} {v1 : Int} {m : Mem} {post post' : Mem → Prop} (hpost : ∀ (x0 : Mem), post x0 → post' x0) : wp_J7_fill_d0a16 v0 v1 m post → wp_J7_fill_d0a16 v0 v1 m post' := by
  unfold wp_J7_fill_d0a16
  exact (mn_and id (mn_all (fun _ => (mn_imp (mn_ex (fun _ => (mn_J7_fill_d0a16_6 hpost _ _ _ _ _ _)))))))
theorem mn_X4_countMissing_27 {K17 K17' : Int → Mem → Prop} {post post' : Mem → Prop} (hK17 : ∀ (x0 : Int) (x1 : Mem), K17 x0 x1 → K17' x0 x1) (hpost : ∀ (x0 : Mem), post x0 → post' x0) : ∀ (n : Nat) (v1 : Int) (v2 : Int) (m : Mem), wp_X4_countMissing_27 K17 post n v1 v2 m → wp_X4_countMissing_27 K17' post' n v1 v2 m := by
  intro n
  induction n with
  | zero => intro v1 v2 m; unfold wp_X4_countMissing_27; exact id
  | succ n ih =>
    intro v1 v2 m
    unfold wp_X4_countMissing_27
    exact (mn_and (mn_imp (hK17 _ _)) (mn_imp (mn_and id (mn_and id (mn_and id (mn_and id (mn_all (fun _ => (mn_imp (ih _ _ _))))))))))
theorem mn_X4_countMissing_17 {post post' : Mem → Prop} (hpost : ∀ (x0 : Mem), post x0 → post' x0) : ∀ (n : Nat) (v1 : Int) (m : Mem), wp_X4_countMissing_17 post n v1 m → wp_X4_countMissing_17 post' n v1 m := by
  intro n
  induction n with
  | zero => intro v1 m; unfold wp_X4_countMissing_17; exact id
  | succ n ih =>
    intro v1 m
    unfold wp_X4_countMissing_17
    exact (mn_and (mn_imp (hpost _)) (mn_imp (mn_ex (fun _ => (mn_X4_countMissing_27 (fun _ _ => (ih _ _)) hpost _ _ _ _)))))
theorem mn_X4_countMissing {m : Mem} {post post' : Mem → Prop} (hpost : ∀ (x0 : Mem), post x0 → post' x0) : wp_X4_countMissing m post → wp_X4_countMissing m post' := by
  unfold wp_X4_countMissing
  exact (mn_J7_fill_d0a16 (fun _ => (mn_all (fun _ => (mn_imp (mn_ex (fun _ => (mn_X4_countMissing_17 hpost _ _ _))))))))
theorem mn_X4_reduce_9 {K44 K44' : Int → Int → Int → Mem → Prop} {post post' : Mem → Prop} (hK44 : ∀ (x0 : Int) (x1 : Int) (x2 : Int) (x3 : Mem), K44 x0 x1 x2 x3 → K44' x0 x1 x2 x3) (hpost : ∀ (x0 : Mem), post x0 → post' x0) : ∀ (n : Nat) (v1 : Int) (v3 : Int) (v5 : Int) (v7 : Int) (v9 : Int) (m : Mem), wp_X4_reduce_9 K44 post n v1 v3 v5 v7 v9 m → wp_X4_reduce_9 K44' post' n v1 v3 v5 v7 v9 m := by
  intro n
  induction n with
  | zero => intro v1 v3 v5 v7 v9 m; unfold wp_X4_reduce_9; exact id
  | succ n ih =>
    intro v1 v3 v5 v7 v9 m
    unfold wp_X4_reduce_9
    exact (mn_and (mn_imp (hK44 _ _ _ _)) (mn_imp (mn_and (mn_imp (hK44 _ _ _ _)) (mn_imp (mn_and id (mn_all (fun _ => (mn_imp (ih _ _ _ _ _ _)))))))))
theorem mn_X4_reduce_60 {v3 : Int} {v5 : Int} {s0 : Int} {m : Mem} {post post' : Mem → Prop} (hpost : ∀ (x0 : Mem), post x0 → post' x0) : wp_X4_reduce_60 v3 v5 s0 m post → wp_X4_reduce_60 v3 v5 s0 m post' := by
  unfold wp_X4_reduce_60
  exact (mn_all (fun _ => (mn_imp (mn_and (mn_imp (mn_all (fun _ => (mn_imp (hpost _))))) (mn_imp (mn_and id (mn_all (fun _ => (mn_imp (hpost _))))))))))
theorem mn_X4_reduce_44 {v1 : Int} {v3 : Int} {v5 : Int} {m : Mem} {post post' : Mem → Prop} (hpost : ∀ (x0 : Mem), post x0 → post' x0) : wp_X4_reduce_44 v1 v3 v5 m post → wp_X4_reduce_44 v1 v3 v5 m post' := by
  unfold wp_X4_reduce_44
  exact (mn_and (mn_imp (mn_X4_reduce_60 hpost)) (mn_imp (mn_and id (mn_X4_reduce_60 hpost))))
theorem mn_X4_reduce {v1 : Int} {v3 : Int} {m : Mem} {post post' : Mem → Prop} (hpost : ∀ (x0 : Mem), post x0 → post' x0) : wp_X4_reduce v1 v3 m post → wp_X4_reduce v1 v3 m post' := by
  unfold wp_X4_reduce
  exact (mn_ex (fun _ => (mn_X4_reduce_9 (fun _ _ _ _ => (mn_X4_reduce_44 hpost)) hpost _ _ _ _ _ _ _)))
theorem mn_X4_shareOf_12 {K58 K58' : Int → Int → Int → Mem → Prop} {post post' : Mem → Prop} (hK58 : ∀ (x0 : Int) (x1 : Int) (x2 : Int) (x3 : Mem), K58 x0 x1 x2 x3 → K58' x0 x1 x2 x3) (hpost : ∀ (x0 : Mem), post x0 → post' x0) : ∀ (n : Nat) (v1 : Int) (v2 : Int) (v4 : Int) (v6 : Int) (m : Mem), wp_X4_shareOf_12 K58 post n v1 v2 v4 v6 m → wp_X4_shareOf_12 K58' post' n v1 v2 v4 v6 m := by
  intro n
  induction n with
  | zero => intro v1 v2 v4 v6 m; unfold wp_X4_shareOf_12; exact id
  | succ n ih =>
    intro v1 v2 v4 v6 m
    unfold wp_X4_shareOf_12
    exact (mn_and (mn_imp (hK58 _ _ _ _)) (mn_imp (mn_and id (mn_all (fun _ => (mn_imp (mn_and (mn_imp (mn_all (fun _ => (mn_imp (ih _ _ _ _ _))))) (mn_imp (mn_all (fun _ => (mn_imp (ih _ _ _ _ _))))))))))))
theorem mn_X4_shareOf_58 {post post' : Mem → Prop} (hpost : ∀ (x0 : Mem), post x0 → post' x0) : ∀ (n : Nat) (v2 : Int) (v4 : Int) (v6 : Int) (m : Mem), wp_X4_shareOf_58 post n v2 v4 v6 m → wp_X4_shareOf_58 post' n v2 v4 v6 m := by
  intro n
  induction n with
  | zero => intro v2 v4 v6 m; unfold wp_X4_shareOf_58; exact id
  | succ n ih =>
    intro v2 v4 v6 m
    unfold wp_X4_shareOf_58
    exact (mn_and (mn_imp (mn_X4_reduce (fun _ => (hpost _)))) (mn_imp (mn_and id (mn_all (fun _ => (mn_imp (mn_all (fun _ => (mn_imp (ih _ _ _ _))))))))))
theorem mn_X4_shareOf {v1 : Int} {m : Mem} {post post' : Mem → Prop} (hpost : ∀ (x0 : Mem), post x0 → post' x0) : wp_X4_shareOf v1 m post → wp_X4_shareOf v1 m post' := by
  unfold wp_X4_shareOf
  exact (mn_X4_countMissing (fun _ => (mn_ex (fun _ => (mn_X4_shareOf_12 (fun _ _ _ _ => (mn_ex (fun _ => (mn_X4_shareOf_58 hpost _ _ _ _ _)))) hpost _ _ _ _ _ _)))))
theorem mn_X4_shareWithin {v1 : Int} {m : Mem} {post post' : Mem → Prop} (hpost : ∀ (x0 : Mem), post x0 → post' x0) : wp_X4_shareWithin v1 m post → wp_X4_shareWithin v1 m post' := by
  unfold wp_X4_shareWithin
  exact (mn_X4_hoursUnmissed (fun _ _ => (mn_all (fun _ => (mn_imp (mn_and (mn_imp (mn_X4_shareOf (fun _ => (hpost _)))) (mn_imp (mn_all (fun _ => (mn_imp (mn_all (fun _ => (mn_imp (hpost _))))))))))))))
theorem mn_X4_hoursFor_2 {post post' : Int → Mem → Prop} (hpost : ∀ (x0 : Int) (x1 : Mem), post x0 x1 → post' x0 x1) : ∀ (n : Nat) (v1 : Int) (v2 : Int) (m : Mem), wp_X4_hoursFor_2 post n v1 v2 m → wp_X4_hoursFor_2 post' n v1 v2 m := by
  intro n
  induction n with
  | zero => intro v1 v2 m; unfold wp_X4_hoursFor_2; exact id
  | succ n ih =>
    intro v1 v2 m
    unfold wp_X4_hoursFor_2
    exact (mn_and (mn_imp (hpost _ _)) (mn_imp (mn_X4_shareOf (fun _ => (mn_and (mn_imp (ih _ _ _)) (mn_imp (mn_X4_hoursUnmissed (fun _ _ => (hpost _ _)))))))))
theorem mn_X4_hoursFor {v1 : Int} {m : Mem} {post post' : Int → Mem → Prop} (hpost : ∀ (x0 : Int) (x1 : Mem), post x0 x1 → post' x0 x1) : wp_X4_hoursFor v1 m post → wp_X4_hoursFor v1 m post' := by
  unfold wp_X4_hoursFor
  exact (mn_ex (fun _ => (mn_X4_hoursFor_2 hpost _ _ _ _)))
theorem mn_X4_digestOnto_5 {post post' : Int → Mem → Prop} (hpost : ∀ (x0 : Int) (x1 : Mem), post x0 x1 → post' x0 x1) : ∀ (n : Nat) (v3 : Int) (v5 : Int) (m : Mem), wp_X4_digestOnto_5 post n v3 v5 m → wp_X4_digestOnto_5 post' n v3 v5 m := by
  intro n
  induction n with
  | zero => intro v3 v5 m; unfold wp_X4_digestOnto_5; exact id
  | succ n ih =>
    intro v3 v5 m
    unfold wp_X4_digestOnto_5
    exact (mn_and (mn_imp (hpost _ _)) (mn_imp (mn_and id (mn_and id (mn_all (fun _ => (mn_imp (ih _ _ _))))))))
theorem mn_X4_digestOnto {v1 : Int} {m : Mem} {post post' : Int → Mem → Prop} (hpost : ∀ (x0 : Int) (x1 : Mem), post x0 x1 → post' x0 x1) : wp_X4_digestOnto v1 m post → wp_X4_digestOnto v1 m post' := by
  unfold wp_X4_digestOnto
  exact (mn_ex (fun _ => (mn_X4_digestOnto_5 hpost _ _ _ _)))
theorem mn_X5_forget {m : Mem} {post post' : Mem → Prop} (hpost : ∀ (x0 : Mem), post x0 → post' x0) : wp_X5_forget m post → wp_X5_forget m post' := by
  unfold wp_X5_forget
  exact (mn_all (fun _ => (mn_imp (hpost _))))
theorem mn_X5_begin {m : Mem} {post post' : Mem → Prop} (hpost : ∀ (x0 : Mem), post x0 → post' x0) : wp_X5_begin m post → wp_X5_begin m post' := by
  unfold wp_X5_begin
  exact (mn_all (fun _ => (mn_imp (mn_J7_fill_53178 (fun _ => (mn_J7_fill_53178 (fun _ => (mn_X5_forget (fun _ => (hpost _))))))))))
theorem mn_X5_fullNet_12 {K4 K4' : Int → Int → Int → Mem → Prop} {post post' : Int → Mem → Prop} (hK4 : ∀ (x0 : Int) (x1 : Int) (x2 : Int) (x3 : Mem), K4 x0 x1 x2 x3 → K4' x0 x1 x2 x3) (hpost : ∀ (x0 : Int) (x1 : Mem), post x0 x1 → post' x0 x1) : ∀ (n : Nat) (v0 : Int) (v1 : Int) (v3 : Int) (v4 : Int) (m : Mem), wp_X5_fullNet_12 K4 post n v0 v1 v3 v4 m → wp_X5_fullNet_12 K4' post' n v0 v1 v3 v4 m := by
  intro n
  induction n with
  | zero => intro v0 v1 v3 v4 m; unfold wp_X5_fullNet_12; exact id
  | succ n ih =>
    intro v0 v1 v3 v4 m
    unfold wp_X5_fullNet_12
    exact (mn_and (mn_imp (hK4 _ _ _ _)) (mn_imp (mn_and (mn_imp (mn_all (fun _ => (mn_imp (ih _ _ _ _ _))))) (mn_imp (mn_all (fun _ => (mn_imp (ih _ _ _ _ _))))))))
theorem mn_X5_fullNet_4 {post post' : Int → Mem → Prop} (hpost : ∀ (x0 : Int) (x1 : Mem), post x0 x1 → post' x0 x1) : ∀ (n : Nat) (v0 : Int) (v1 : Int) (v3 : Int) (m : Mem), wp_X5_fullNet_4 post n v0 v1 v3 m → wp_X5_fullNet_4 post' n v0 v1 v3 m := by
  intro n
  induction n with
  | zero => intro v0 v1 v3 m; unfold wp_X5_fullNet_4; exact id
  | succ n ih =>
    intro v0 v1 v3 m
    unfold wp_X5_fullNet_4
    exact (mn_and (mn_imp (hpost _ _)) (mn_imp (mn_ex (fun _ => (mn_X5_fullNet_12 (fun _ _ _ _ => (ih _ _ _ _)) hpost _ _ _ _ _ _)))))
theorem mn_X5_fullNet {v0 : Int} {m : Mem} {post post' : Int → Mem → Prop} (hpost : ∀ (x0 : Int) (x1 : Mem), post x0 x1 → post' x0 x1) : wp_X5_fullNet v0 m post → wp_X5_fullNet v0 m post' := by
  unfold wp_X5_fullNet
  exact (mn_ex (fun _ => (mn_X5_fullNet_4 hpost _ _ _ _ _)))
theorem mn_J13_bitCount_95d88 {v0 : Int} {m : Mem} {post post' : Int → Mem → Prop} (hpost : ∀ (x0 : Int) (x1 : Mem), post x0 x1 → post' x0 x1) : wp_J13_bitCount_95d88 v0 m post → wp_J13_bitCount_95d88 v0 m post' := by
  unfold wp_J13_bitCount_95d88
  exact (mn_all (fun _ => (mn_imp (mn_all (fun _ => (mn_imp (mn_all (fun _ => (mn_imp (mn_all (fun _ => (mn_imp (mn_all (fun _ => (mn_imp (mn_all (fun _ => (mn_imp (hpost _ _)))))))))))))))))))
theorem mn_X5_fitsTracks_3 {post post' : Int → Mem → Prop} (hpost : ∀ (x0 : Int) (x1 : Mem), post x0 x1 → post' x0 x1) : ∀ (n : Nat) (v1 : Int) (v3 : Int) (v4 : Int) (m : Mem), wp_X5_fitsTracks_3 post n v1 v3 v4 m → wp_X5_fitsTracks_3 post' n v1 v3 v4 m := by
  intro n
  induction n with
  | zero => intro v1 v3 v4 m; unfold wp_X5_fitsTracks_3; exact id
  | succ n ih =>
    intro v1 v3 v4 m
    unfold wp_X5_fitsTracks_3
    exact (mn_and (mn_imp (hpost _ _)) (mn_imp (mn_J13_bitCount_95d88 (fun _ _ => (mn_and id (mn_and (mn_imp (ih _ _ _ _)) (mn_imp (hpost _ _))))))))
theorem mn_X5_fitsTracks {v1 : Int} {v3 : Int} {m : Mem} {post post' : Int → Mem → Prop} (hpost : ∀ (x0 : Int) (x1 : Mem), post x0 x1 → post' x0 x1) : wp_X5_fitsTracks v1 v3 m post → wp_X5_fitsTracks v1 v3 m post' := by
  unfold wp_X5_fitsTracks
  exact (mn_ex (fun _ => (mn_X5_fitsTracks_3 hpost _ _ _ _ _)))
theorem mn_X5_allows {v1 : Int} {v3 : Int} {m : Mem} {post post' : Int → Mem → Prop} (hpost : ∀ (x0 : Int) (x1 : Mem), post x0 x1 → post' x0 x1) : wp_X5_allows v1 v3 m post → wp_X5_allows v1 v3 m post' := by
  unfold wp_X5_allows
  exact (mn_X5_fullNet (fun _ _ => (mn_and (mn_imp (hpost _ _)) (mn_imp (mn_X5_fitsTracks (fun _ _ => (mn_and (mn_imp (hpost _ _)) (mn_imp (hpost _ _)))))))))
theorem mn_X5_lay_15 {K3 K3' : Int → Int → Mem → Prop} {post post' : Mem → Prop} (hK3 : ∀ (x0 : Int) (x1 : Int) (x2 : Mem), K3 x0 x1 x2 → K3' x0 x1 x2) (hpost : ∀ (x0 : Mem), post x0 → post' x0) : ∀ (n : Nat) (v1 : Int) (v4 : Int) (v5 : Int) (m : Mem), wp_X5_lay_15 K3 post n v1 v4 v5 m → wp_X5_lay_15 K3' post' n v1 v4 v5 m := by
  intro n
  induction n with
  | zero => intro v1 v4 v5 m; unfold wp_X5_lay_15; exact id
  | succ n ih =>
    intro v1 v4 v5 m
    unfold wp_X5_lay_15
    exact (mn_and (mn_imp (hK3 _ _ _)) (mn_imp (mn_all (fun _ => (mn_imp (mn_and (mn_imp (mn_and id (mn_all (fun _ => (mn_imp (ih _ _ _ _)))))) (mn_imp (mn_and id (mn_and id (mn_all (fun _ => (mn_imp (ih _ _ _ _)))))))))))))
theorem mn_X5_lay_3 {post post' : Mem → Prop} (hpost : ∀ (x0 : Mem), post x0 → post' x0) : ∀ (n : Nat) (v1 : Int) (v4 : Int) (m : Mem), wp_X5_lay_3 post n v1 v4 m → wp_X5_lay_3 post' n v1 v4 m := by
  intro n
  induction n with
  | zero => intro v1 v4 m; unfold wp_X5_lay_3; exact id
  | succ n ih =>
    intro v1 v4 m
    unfold wp_X5_lay_3
    exact (mn_and (mn_imp (hpost _)) (mn_imp (mn_ex (fun _ => (mn_X5_lay_15 (fun _ _ _ => (ih _ _ _)) hpost _ _ _ _ _)))))
theorem mn_X5_lay {v1 : Int} {m : Mem} {post post' : Mem → Prop} (hpost : ∀ (x0 : Mem), post x0 → post' x0) : wp_X5_lay v1 m post → wp_X5_lay v1 m post' := by
  unfold wp_X5_lay
  exact (mn_ex (fun _ => (mn_X5_lay_3 hpost _ _ _ _)))
theorem mn_X5_costOf_88 {v4 : Int} {v5 : Int} {v6 : Int} {v7 : Int} {m : Mem} {K39 K39' : Int → Int → Int → Mem → Prop} {post post' : Int → Mem → Prop} (hK39 : ∀ (x0 : Int) (x1 : Int) (x2 : Int) (x3 : Mem), K39 x0 x1 x2 x3 → K39' x0 x1 x2 x3) (hpost : ∀ (x0 : Int) (x1 : Mem), post x0 x1 → post' x0 x1) : wp_X5_costOf_88 v4 v5 v6 v7 m K39 post → wp_X5_costOf_88 v4 v5 v6 v7 m K39' post' := by
  unfold wp_X5_costOf_88
  exact (mn_and (mn_imp (mn_all (fun _ => (mn_imp (hK39 _ _ _ _))))) (mn_imp (mn_and id (mn_all (fun _ => (mn_imp (hK39 _ _ _ _)))))))
theorem mn_X5_costOf_39 {K27 K27' : Int → Int → Mem → Prop} {post post' : Int → Mem → Prop} (hK27 : ∀ (x0 : Int) (x1 : Int) (x2 : Mem), K27 x0 x1 x2 → K27' x0 x1 x2) (hpost : ∀ (x0 : Int) (x1 : Mem), post x0 x1 → post' x0 x1) : ∀ (n : Nat) (v4 : Int) (v5 : Int) (v6 : Int) (m : Mem), wp_X5_costOf_39 K27 post n v4 v5 v6 m → wp_X5_costOf_39 K27' post' n v4 v5 v6 m := by
  intro n
  induction n with
  | zero => intro v4 v5 v6 m; unfold wp_X5_costOf_39; exact id
  | succ n ih =>
    intro v4 v5 v6 m
    unfold wp_X5_costOf_39
    exact (mn_and (mn_imp (hK27 _ _ _)) (mn_imp (mn_and id (mn_all (fun _ => (mn_imp (mn_and (mn_imp (mn_X5_costOf_88 (fun _ _ _ _ => (ih _ _ _ _)) hpost)) (mn_imp (mn_and id (mn_and (mn_imp (mn_X5_costOf_88 (fun _ _ _ _ => (ih _ _ _ _)) hpost)) (mn_imp (hpost _ _))))))))))))
theorem mn_X5_costOf_27 {post post' : Int → Mem → Prop} (hpost : ∀ (x0 : Int) (x1 : Mem), post x0 x1 → post' x0 x1) : ∀ (n : Nat) (v4 : Int) (v5 : Int) (m : Mem), wp_X5_costOf_27 post n v4 v5 m → wp_X5_costOf_27 post' n v4 v5 m := by
  intro n
  induction n with
  | zero => intro v4 v5 m; unfold wp_X5_costOf_27; exact id
  | succ n ih =>
    intro v4 v5 m
    unfold wp_X5_costOf_27
    exact (mn_and (mn_imp (hpost _ _)) (mn_imp (mn_ex (fun _ => (mn_X5_costOf_39 (fun _ _ _ => (ih _ _ _)) hpost _ _ _ _ _)))))
theorem mn_X5_costOf {v1 : Int} {m : Mem} {post post' : Int → Mem → Prop} (hpost : ∀ (x0 : Int) (x1 : Mem), post x0 x1 → post' x0 x1) : wp_X5_costOf v1 m post → wp_X5_costOf v1 m post' := by
  unfold wp_X5_costOf
  exact (mn_X5_lay (fun _ => (mn_X3_shorten (fun _ => (mn_ex (fun _ => (mn_X5_costOf_27 hpost _ _ _ _)))))))
theorem mn_X5_netOf_5 {post post' : Int → Mem → Prop} (hpost : ∀ (x0 : Int) (x1 : Mem), post x0 x1 → post' x0 x1) : ∀ (n : Nat) (v0 : Int) (v1 : Int) (v2 : Int) (v4 : Int) (m : Mem), wp_X5_netOf_5 post n v0 v1 v2 v4 m → wp_X5_netOf_5 post' n v0 v1 v2 v4 m := by
  intro n
  induction n with
  | zero => intro v0 v1 v2 v4 m; unfold wp_X5_netOf_5; exact id
  | succ n ih =>
    intro v0 v1 v2 v4 m
    unfold wp_X5_netOf_5
    exact (mn_and (mn_imp (hpost _ _)) (mn_imp (mn_all (fun _ => (mn_imp (mn_all (fun _ => (mn_imp (mn_all (fun _ => (mn_imp (mn_all (fun _ => (mn_imp (ih _ _ _ _ _)))))))))))))))
theorem mn_X5_netOf {v0 : Int} {v1 : Int} {m : Mem} {post post' : Int → Mem → Prop} (hpost : ∀ (x0 : Int) (x1 : Mem), post x0 x1 → post' x0 x1) : wp_X5_netOf v0 v1 m post → wp_X5_netOf v0 v1 m post' := by
  unfold wp_X5_netOf
  exact (mn_ex (fun _ => (mn_X5_netOf_5 hpost _ _ _ _ _ _)))
theorem mn_X5_weigh_25 {v1 : Int} {v3 : Int} {s0 : Int} {m : Mem} {post post' : Mem → Prop} (hpost : ∀ (x0 : Mem), post x0 → post' x0) : wp_X5_weigh_25 v1 v3 s0 m post → wp_X5_weigh_25 v1 v3 s0 m post' := by
  unfold wp_X5_weigh_25
  exact (mn_and (mn_imp (mn_all (fun _ => (mn_imp (mn_all (fun _ => (mn_imp (hpost _)))))))) (mn_imp (mn_and (mn_imp (mn_all (fun _ => (mn_imp (mn_all (fun _ => (mn_imp (hpost _)))))))) (mn_imp (mn_and (mn_imp (hpost _)) (mn_imp (mn_and (mn_imp (hpost _)) (mn_imp (mn_all (fun _ => (mn_imp (mn_all (fun _ => (mn_imp (hpost _)))))))))))))))
theorem mn_X5_weigh {v1 : Int} {v3 : Int} {m : Mem} {post post' : Mem → Prop} (hpost : ∀ (x0 : Mem), post x0 → post' x0) : wp_X5_weigh v1 v3 m post → wp_X5_weigh v1 v3 m post' := by
  unfold wp_X5_weigh
  exact (mn_and (mn_imp (mn_J13_bitCount_95d88 (fun _ _ => (mn_J13_bitCount_95d88 (fun _ _ => (mn_and (mn_imp (mn_X5_weigh_25 hpost)) (mn_imp (mn_X5_weigh_25 hpost)))))))) (mn_imp (hpost _)))
theorem mn_X5_findBest_42 {post post' : Mem → Prop} (hpost : ∀ (x0 : Mem), post x0 → post' x0) : ∀ (n : Nat) (v2 : Int) (v3 : Int) (m : Mem), wp_X5_findBest_42 post n v2 v3 m → wp_X5_findBest_42 post' n v2 v3 m := by
  intro n
  induction n with
  | zero => intro v2 v3 m; unfold wp_X5_findBest_42; exact id
  | succ n ih =>
    intro v2 v3 m
    unfold wp_X5_findBest_42
    exact (mn_and (mn_imp (mn_all (fun _ => (mn_imp (hpost _))))) (mn_imp (mn_X5_netOf (fun _ _ => (mn_X5_fitsTracks (fun _ _ => (mn_and (mn_imp (ih _ _ _)) (mn_imp (mn_X5_costOf (fun _ _ => (mn_X5_weigh (fun _ => (ih _ _ _)))))))))))))
theorem mn_X5_findBest {m : Mem} {post post' : Mem → Prop} (hpost : ∀ (x0 : Mem), post x0 → post' x0) : wp_X5_findBest m post → wp_X5_findBest m post' := by
  unfold wp_X5_findBest
  exact (mn_and (mn_imp (hpost _)) (mn_imp (mn_and (mn_imp (mn_all (fun _ => (mn_imp (mn_all (fun _ => (mn_imp (mn_all (fun _ => (mn_imp (mn_ex (fun _ => (mn_X5_findBest_42 hpost _ _ _ _))))))))))))) (mn_imp (hpost _)))))
theorem mn_X5_digestOnto_15 {K6 K6' : Int → Int → Int → Mem → Prop} {post post' : Int → Mem → Prop} (hK6 : ∀ (x0 : Int) (x1 : Int) (x2 : Int) (x3 : Mem), K6 x0 x1 x2 x3 → K6' x0 x1 x2 x3) (hpost : ∀ (x0 : Int) (x1 : Mem), post x0 x1 → post' x0 x1) : ∀ (n : Nat) (v3 : Int) (v4 : Int) (v6 : Int) (v7 : Int) (m : Mem), wp_X5_digestOnto_15 K6 post n v3 v4 v6 v7 m → wp_X5_digestOnto_15 K6' post' n v3 v4 v6 v7 m := by
  intro n
  induction n with
  | zero => intro v3 v4 v6 v7 m; unfold wp_X5_digestOnto_15; exact id
  | succ n ih =>
    intro v3 v4 v6 v7 m
    unfold wp_X5_digestOnto_15
    exact (mn_and (mn_imp (hK6 _ _ _ _)) (mn_imp (mn_and id (mn_all (fun _ => (mn_imp (ih _ _ _ _ _)))))))
theorem mn_X5_digestOnto_6 {K59 K59' : Int → Int → Int → Mem → Prop} {post post' : Int → Mem → Prop} (hK59 : ∀ (x0 : Int) (x1 : Int) (x2 : Int) (x3 : Mem), K59 x0 x1 x2 x3 → K59' x0 x1 x2 x3) (hpost : ∀ (x0 : Int) (x1 : Mem), post x0 x1 → post' x0 x1) : ∀ (n : Nat) (v3 : Int) (v4 : Int) (v6 : Int) (m : Mem), wp_X5_digestOnto_6 K59 post n v3 v4 v6 m → wp_X5_digestOnto_6 K59' post' n v3 v4 v6 m := by
  intro n
  induction n with
  | zero => intro v3 v4 v6 m; unfold wp_X5_digestOnto_6; exact id
  | succ n ih =>
    intro v3 v4 v6 m
    unfold wp_X5_digestOnto_6
    exact (mn_and (mn_imp (hK59 _ _ _ _)) (mn_imp (mn_ex (fun _ => (mn_X5_digestOnto_15 (fun _ _ _ _ => (ih _ _ _ _)) hpost _ _ _ _ _ _)))))
theorem mn_X5_digestOnto_59 {post post' : Int → Mem → Prop} (hpost : ∀ (x0 : Int) (x1 : Mem), post x0 x1 → post' x0 x1) : ∀ (n : Nat) (v3 : Int) (v4 : Int) (v6 : Int) (m : Mem), wp_X5_digestOnto_59 post n v3 v4 v6 m → wp_X5_digestOnto_59 post' n v3 v4 v6 m := by
  intro n
  induction n with
  | zero => intro v3 v4 v6 m; unfold wp_X5_digestOnto_59; exact id
  | succ n ih =>
    intro v3 v4 v6 m
    unfold wp_X5_digestOnto_59
    exact (mn_and (mn_imp (hpost _ _)) (mn_imp (mn_and id (mn_all (fun _ => (mn_imp (ih _ _ _ _)))))))
theorem mn_X5_digestOnto {v1 : Int} {v3 : Int} {m : Mem} {post post' : Int → Mem → Prop} (hpost : ∀ (x0 : Int) (x1 : Mem), post x0 x1 → post' x0 x1) : wp_X5_digestOnto v1 v3 m post → wp_X5_digestOnto v1 v3 m post' := by
  unfold wp_X5_digestOnto
  exact (mn_ex (fun _ => (mn_X5_digestOnto_6 (fun _ _ _ _ => (mn_ex (fun _ => (mn_X5_digestOnto_59 hpost _ _ _ _ _)))) hpost _ _ _ _ _)))
theorem mn_X6_lettersIn_42 {v0 : Int} {v2 : Int} {v3 : Int} {v4 : Int} {m : Mem} {K4 K4' : Int → Int → Int → Mem → Prop} {post post' : Int → Mem → Prop} (hK4 : ∀ (x0 : Int) (x1 : Int) (x2 : Int) (x3 : Mem), K4 x0 x1 x2 x3 → K4' x0 x1 x2 x3) (hpost : ∀ (x0 : Int) (x1 : Mem), post x0 x1 → post' x0 x1) : wp_X6_lettersIn_42 v0 v2 v3 v4 m K4 post → wp_X6_lettersIn_42 v0 v2 v3 v4 m K4' post' := by
  unfold wp_X6_lettersIn_42
  exact (mn_and (mn_imp (mn_all (fun _ => (mn_imp (hK4 _ _ _ _))))) (mn_imp (mn_all (fun _ => (mn_imp (hK4 _ _ _ _))))))
theorem mn_X6_lettersIn_4 {post post' : Int → Mem → Prop} (hpost : ∀ (x0 : Int) (x1 : Mem), post x0 x1 → post' x0 x1) : ∀ (n : Nat) (v0 : Int) (v2 : Int) (v3 : Int) (m : Mem), wp_X6_lettersIn_4 post n v0 v2 v3 m → wp_X6_lettersIn_4 post' n v0 v2 v3 m := by
  intro n
  induction n with
  | zero => intro v0 v2 v3 m; unfold wp_X6_lettersIn_4; exact id
  | succ n ih =>
    intro v0 v2 v3 m
    unfold wp_X6_lettersIn_4
    exact (mn_and (mn_imp (hpost _ _)) (mn_imp (mn_all (fun _ => (mn_imp (mn_and (mn_imp (hpost _ _)) (mn_imp (mn_and (mn_imp (mn_X6_lettersIn_42 (fun _ _ _ _ => (ih _ _ _ _)) hpost)) (mn_imp (mn_and (mn_imp (mn_X6_lettersIn_42 (fun _ _ _ _ => (ih _ _ _ _)) hpost)) (mn_imp (hpost _ _))))))))))))
theorem mn_X6_lettersIn {v0 : Int} {m : Mem} {post post' : Int → Mem → Prop} (hpost : ∀ (x0 : Int) (x1 : Mem), post x0 x1 → post' x0 x1) : wp_X6_lettersIn v0 m post → wp_X6_lettersIn v0 m post' := by
  unfold wp_X6_lettersIn
  exact (mn_ex (fun _ => (mn_X6_lettersIn_4 hpost _ _ _ _ _)))
theorem mn_X6_write_3 {post post' : Mem → Prop} (hpost : ∀ (x0 : Mem), post x0 → post' x0) : ∀ (n : Nat) (v1 : Int) (v3 : Int) (v4 : Int) (m : Mem), wp_X6_write_3 post n v1 v3 v4 m → wp_X6_write_3 post' n v1 v3 v4 m := by
  intro n
  induction n with
  | zero => intro v1 v3 v4 m; unfold wp_X6_write_3; exact id
  | succ n ih =>
    intro v1 v3 v4 m
    unfold wp_X6_write_3
    exact (mn_and (mn_imp (hpost _)) (mn_imp (mn_and (mn_imp (hpost _)) (mn_imp (mn_and id (mn_all (fun _ => (mn_imp (mn_all (fun _ => (mn_imp (ih _ _ _ _))))))))))))
theorem mn_X6_write {v1 : Int} {v3 : Int} {m : Mem} {post post' : Mem → Prop} (hpost : ∀ (x0 : Mem), post x0 → post' x0) : wp_X6_write v1 v3 m post → wp_X6_write v1 v3 m post' := by
  unfold wp_X6_write
  exact (mn_ex (fun _ => (mn_X6_write_3 hpost _ _ _ _ _)))
theorem mn_X6_placeBehindTaken {v1 : Int} {m : Mem} {post post' : Int → Mem → Prop} (hpost : ∀ (x0 : Int) (x1 : Mem), post x0 x1 → post' x0 x1) : wp_X6_placeBehindTaken v1 m post → wp_X6_placeBehindTaken v1 m post' := by
  unfold wp_X6_placeBehindTaken
  exact (mn_and (mn_imp (hpost _ _)) (mn_imp (mn_and (mn_imp (hpost _ _)) (mn_imp (mn_and (mn_imp (mn_all (fun _ => (mn_imp (hpost _ _))))) (mn_imp (hpost _ _)))))))
theorem mn_X6_placeBehind_22 {v1 : Int} {s0 : Int} {m : Mem} {post post' : Int → Mem → Prop} (hpost : ∀ (x0 : Int) (x1 : Mem), post x0 x1 → post' x0 x1) : wp_X6_placeBehind_22 v1 s0 m post → wp_X6_placeBehind_22 v1 s0 m post' := by
  unfold wp_X6_placeBehind_22
  exact (mn_and (mn_imp (mn_all (fun _ => (mn_imp (mn_and (mn_imp (hpost _ _)) (mn_imp (hpost _ _))))))) (mn_and (mn_imp (mn_and (mn_imp (hpost _ _)) (mn_imp (hpost _ _)))) (mn_and (mn_imp (mn_all (fun _ => (mn_imp (mn_and (mn_imp (hpost _ _)) (mn_imp (mn_and (mn_imp (hpost _ _)) (mn_imp (hpost _ _))))))))) (mn_and (mn_imp (mn_and (mn_imp (hpost _ _)) (mn_imp (hpost _ _)))) (mn_and (mn_imp (mn_X6_placeBehindTaken (fun _ _ => (hpost _ _)))) (mn_and (mn_imp (mn_and (mn_imp (mn_X6_placeBehindTaken (fun _ _ => (hpost _ _)))) (mn_imp (hpost _ _)))) (mn_and (mn_imp (mn_all (fun _ => (mn_imp (mn_and (mn_imp (hpost _ _)) (mn_imp (mn_and (mn_imp (hpost _ _)) (mn_imp (hpost _ _))))))))) (mn_imp (hpost _ _)))))))))
theorem mn_X6_placeBehind_21 {v1 : Int} {m : Mem} {post post' : Int → Mem → Prop} (hpost : ∀ (x0 : Int) (x1 : Mem), post x0 x1 → post' x0 x1) : wp_X6_placeBehind_21 v1 m post → wp_X6_placeBehind_21 v1 m post' := by
  unfold wp_X6_placeBehind_21
  exact (mn_X6_placeBehind_22 hpost)
theorem mn_X6_placeBehind {v1 : Int} {v2 : Int} {m : Mem} {post post' : Int → Mem → Prop} (hpost : ∀ (x0 : Int) (x1 : Mem), post x0 x1 → post' x0 x1) : wp_X6_placeBehind v1 v2 m post → wp_X6_placeBehind v1 v2 m post' := by
  unfold wp_X6_placeBehind
  exact (mn_and (mn_imp (mn_X6_placeBehind_21 hpost)) (mn_imp (mn_and (mn_imp (mn_X6_placeBehind_21 hpost)) (mn_imp (mn_X6_placeBehind_22 hpost)))))
theorem mn_X6_readFor_17 {post post' : Int → Mem → Prop} (hpost : ∀ (x0 : Int) (x1 : Mem), post x0 x1 → post' x0 x1) : ∀ (n : Nat) (v1 : Int) (v2 : Int) (m : Mem), wp_X6_readFor_17 post n v1 v2 m → wp_X6_readFor_17 post' n v1 v2 m := by
  intro n
  induction n with
  | zero => intro v1 v2 m; unfold wp_X6_readFor_17; exact id
  | succ n ih =>
    intro v1 v2 m
    unfold wp_X6_readFor_17
    exact (mn_and (mn_imp (hpost _ _)) (mn_imp (mn_and id (mn_X6_placeBehind (fun _ _ => (mn_and (mn_imp (mn_all (fun _ => (mn_imp (ih _ _ _))))) (mn_imp (hpost _ _))))))))
theorem mn_X6_readFor {v1 : Int} {m : Mem} {post post' : Int → Mem → Prop} (hpost : ∀ (x0 : Int) (x1 : Mem), post x0 x1 → post' x0 x1) : wp_X6_readFor v1 m post → wp_X6_readFor v1 m post' := by
  unfold wp_X6_readFor
  exact (mn_all (fun _ => (mn_imp (mn_all (fun _ => (mn_imp (mn_all (fun _ => (mn_imp (mn_ex (fun _ => (mn_X6_readFor_17 hpost _ _ _ _))))))))))))
theorem mn_X6_isWholeFor {v1 : Int} {m : Mem} {post post' : Int → Mem → Prop} (hpost : ∀ (x0 : Int) (x1 : Mem), post x0 x1 → post' x0 x1) : wp_X6_isWholeFor v1 m post → wp_X6_isWholeFor v1 m post' := by
  unfold wp_X6_isWholeFor
  exact (mn_X6_readFor (fun _ _ => (mn_and (mn_imp (hpost _ _)) (mn_imp (mn_and (mn_imp (hpost _ _)) (mn_imp (mn_and (mn_imp (hpost _ _)) (mn_imp (hpost _ _)))))))))
theorem mn_X6_digestOnto_5 {post post' : Int → Mem → Prop} (hpost : ∀ (x0 : Int) (x1 : Mem), post x0 x1 → post' x0 x1) : ∀ (n : Nat) (v3 : Int) (v5 : Int) (m : Mem), wp_X6_digestOnto_5 post n v3 v5 m → wp_X6_digestOnto_5 post' n v3 v5 m := by
  intro n
  induction n with
  | zero => intro v3 v5 m; unfold wp_X6_digestOnto_5; exact id
  | succ n ih =>
    intro v3 v5 m
    unfold wp_X6_digestOnto_5
    exact (mn_and (mn_imp (hpost _ _)) (mn_imp (mn_and id (mn_all (fun _ => (mn_imp (ih _ _ _)))))))
theorem mn_X6_digestOnto {v1 : Int} {m : Mem} {post post' : Int → Mem → Prop} (hpost : ∀ (x0 : Int) (x1 : Mem), post x0 x1 → post' x0 x1) : wp_X6_digestOnto v1 m post → wp_X6_digestOnto v1 m post' := by
  unfold wp_X6_digestOnto
  exact (mn_ex (fun _ => (mn_X6_digestOnto_5 hpost _ _ _ _)))
theorem mn_X7_has {v1 : Int} {m : Mem} {post post' : Int → Mem → Prop} (hpost : ∀ (x0 : Int) (x1 : Mem), post x0 x1 → post' x0 x1) : wp_X7_has v1 m post → wp_X7_has v1 m post' := by
  unfold wp_X7_has
  exact (mn_and (mn_imp (hpost _ _)) (mn_imp (mn_and (mn_imp (hpost _ _)) (mn_imp (hpost _ _)))))
theorem mn_X7_add {v1 : Int} {m : Mem} {post post' : Mem → Prop} (hpost : ∀ (x0 : Mem), post x0 → post' x0) : wp_X7_add v1 m post → wp_X7_add v1 m post' := by
  unfold wp_X7_add
  exact (mn_and id (mn_all (fun _ => (mn_imp (mn_all (fun _ => (mn_imp (hpost _))))))))
theorem mn_X7_orderByMarks_14 {K2 K2' : Int → Mem → Prop} {post post' : Mem → Prop} (hK2 : ∀ (x0 : Int) (x1 : Mem), K2 x0 x1 → K2' x0 x1) (hpost : ∀ (x0 : Mem), post x0 → post' x0) : ∀ (n : Nat) (v1 : Int) (v2 : Int) (v3 : Int) (m : Mem), wp_X7_orderByMarks_14 K2 post n v1 v2 v3 m → wp_X7_orderByMarks_14 K2' post' n v1 v2 v3 m := by
  intro n
  induction n with
  | zero => intro v1 v2 v3 m; unfold wp_X7_orderByMarks_14; exact id
  | succ n ih =>
    intro v1 v2 v3 m
    unfold wp_X7_orderByMarks_14
    exact (mn_and (mn_imp (mn_and id (mn_all (fun _ => (mn_imp (hK2 _ _)))))) (mn_imp (mn_and id (mn_and id (mn_and id (mn_and (mn_imp (mn_and id (mn_all (fun _ => (mn_imp (hK2 _ _)))))) (mn_imp (mn_and id (mn_and id (mn_all (fun _ => (mn_imp (mn_all (fun _ => (mn_imp (ih _ _ _ _))))))))))))))))
theorem mn_X7_orderByMarks_2 {post post' : Mem → Prop} (hpost : ∀ (x0 : Mem), post x0 → post' x0) : ∀ (n : Nat) (v1 : Int) (m : Mem), wp_X7_orderByMarks_2 post n v1 m → wp_X7_orderByMarks_2 post' n v1 m := by
  intro n
  induction n with
  | zero => intro v1 m; unfold wp_X7_orderByMarks_2; exact id
  | succ n ih =>
    intro v1 m
    unfold wp_X7_orderByMarks_2
    exact (mn_and (mn_imp (hpost _)) (mn_imp (mn_ex (fun _ => (mn_X7_orderByMarks_14 (fun _ _ => (ih _ _)) hpost _ _ _ _ _)))))
theorem mn_X7_orderByMarks {m : Mem} {post post' : Mem → Prop} (hpost : ∀ (x0 : Mem), post x0 → post' x0) : wp_X7_orderByMarks m post → wp_X7_orderByMarks m post' := by
  unfold wp_X7_orderByMarks
  exact (mn_ex (fun _ => (mn_X7_orderByMarks_2 hpost _ _ _)))
theorem mn_X7_giveNumbers_40 {v1 : Int} {v2 : Int} {m : Mem} {K8 K8' : Int → Int → Mem → Prop} {post post' : Mem → Prop} (hK8 : ∀ (x0 : Int) (x1 : Int) (x2 : Mem), K8 x0 x1 x2 → K8' x0 x1 x2) (hpost : ∀ (x0 : Mem), post x0 → post' x0) : wp_X7_giveNumbers_40 v1 v2 m K8 post → wp_X7_giveNumbers_40 v1 v2 m K8' post' := by
  unfold wp_X7_giveNumbers_40
  exact (mn_and id (mn_and id (mn_all (fun _ => (mn_imp (hK8 _ _ _))))))
theorem mn_X7_giveNumbers_8 {post post' : Mem → Prop} (hpost : ∀ (x0 : Mem), post x0 → post' x0) : ∀ (n : Nat) (v1 : Int) (v2 : Int) (m : Mem), wp_X7_giveNumbers_8 post n v1 v2 m → wp_X7_giveNumbers_8 post' n v1 v2 m := by
  intro n
  induction n with
  | zero => intro v1 v2 m; unfold wp_X7_giveNumbers_8; exact id
  | succ n ih =>
    intro v1 v2 m
    unfold wp_X7_giveNumbers_8
    exact (mn_and (mn_imp (hpost _)) (mn_imp (mn_and (mn_imp (mn_X7_giveNumbers_40 (fun _ _ _ => (ih _ _ _)) hpost)) (mn_imp (mn_and id (mn_and id (mn_and (mn_imp (mn_X7_giveNumbers_40 (fun _ _ _ => (ih _ _ _)) hpost)) (mn_imp (mn_X7_giveNumbers_40 (fun _ _ _ => (ih _ _ _)) hpost)))))))))
theorem mn_X7_giveNumbers {m : Mem} {post post' : Mem → Prop} (hpost : ∀ (x0 : Mem), post x0 → post' x0) : wp_X7_giveNumbers m post → wp_X7_giveNumbers m post' := by
  unfold wp_X7_giveNumbers
  exact (mn_X7_orderByMarks (fun _ => (mn_ex (fun _ => (mn_X7_giveNumbers_8 hpost _ _ _ _)))))
theorem mn_X7_stepsBy_4 {K37 K37' : Int → Int → Int → Int → Int → Mem → Prop} {post post' : Int → Mem → Prop} (hK37 : ∀ (x0 : Int) (x1 : Int) (x2 : Int) (x3 : Int) (x4 : Int) (x5 : Mem), K37 x0 x1 x2 x3 x4 x5 → K37' x0 x1 x2 x3 x4 x5) (hpost : ∀ (x0 : Int) (x1 : Mem), post x0 x1 → post' x0 x1) : ∀ (n : Nat) (v1 : Int) (v2 : Int) (v3 : Int) (m : Mem), wp_X7_stepsBy_4 K37 post n v1 v2 v3 m → wp_X7_stepsBy_4 K37' post' n v1 v2 v3 m := by
  intro n
  induction n with
  | zero => intro v1 v2 v3 m; unfold wp_X7_stepsBy_4; exact id
  | succ n ih =>
    intro v1 v2 v3 m
    unfold wp_X7_stepsBy_4
    exact (mn_and (mn_imp (hK37 _ _ _ _ _ _)) (mn_imp (mn_and id (mn_all (fun _ => (mn_imp (ih _ _ _ _)))))))
theorem mn_X7_stepsBy_37 {post post' : Int → Mem → Prop} (hpost : ∀ (x0 : Int) (x1 : Mem), post x0 x1 → post' x0 x1) : ∀ (n : Nat) (v1 : Int) (v2 : Int) (v3 : Int) (v4 : Int) (v5 : Int) (m : Mem), wp_X7_stepsBy_37 post n v1 v2 v3 v4 v5 m → wp_X7_stepsBy_37 post' n v1 v2 v3 v4 v5 m := by
  intro n
  induction n with
  | zero => intro v1 v2 v3 v4 v5 m; unfold wp_X7_stepsBy_37; exact id
  | succ n ih =>
    intro v1 v2 v3 v4 v5 m
    unfold wp_X7_stepsBy_37
    exact (mn_and (mn_imp (hpost _ _)) (mn_imp (mn_and (mn_imp (hpost _ _)) (mn_imp (mn_all (fun _ => (mn_imp (ih _ _ _ _ _ _))))))))
theorem mn_X7_stepsBy {v1 : Int} {m : Mem} {post post' : Int → Mem → Prop} (hpost : ∀ (x0 : Int) (x1 : Mem), post x0 x1 → post' x0 x1) : wp_X7_stepsBy v1 m post → wp_X7_stepsBy v1 m post' := by
  unfold wp_X7_stepsBy
  exact (mn_ex (fun _ => (mn_X7_stepsBy_4 (fun _ _ _ _ _ _ => (mn_ex (fun _ => (mn_X7_stepsBy_37 hpost _ _ _ _ _ _ _)))) hpost _ _ _ _ _)))
theorem mn_X7_rollOnce_25 {K16 K16' : Int → Int → Int → Int → Mem → Prop} {post post' : Mem → Prop} (hK16 : ∀ (x0 : Int) (x1 : Int) (x2 : Int) (x3 : Int) (x4 : Mem), K16 x0 x1 x2 x3 x4 → K16' x0 x1 x2 x3 x4) (hpost : ∀ (x0 : Mem), post x0 → post' x0) : ∀ (n : Nat) (v1 : Int) (v2 : Int) (v3 : Int) (v4 : Int) (v5 : Int) (m : Mem), wp_X7_rollOnce_25 K16 post n v1 v2 v3 v4 v5 m → wp_X7_rollOnce_25 K16' post' n v1 v2 v3 v4 v5 m := by
  intro n
  induction n with
  | zero => intro v1 v2 v3 v4 v5 m; unfold wp_X7_rollOnce_25; exact id
  | succ n ih =>
    intro v1 v2 v3 v4 v5 m
    unfold wp_X7_rollOnce_25
    exact (mn_and (mn_imp (hK16 _ _ _ _ _)) (mn_imp (mn_and id (mn_and id (mn_and id (mn_and id (mn_and (mn_imp (ih _ _ _ _ _ _)) (mn_imp (mn_and id (mn_and id (mn_all (fun _ => (mn_imp (ih _ _ _ _ _ _))))))))))))))
theorem mn_X7_rollOnce_16 {K83 K83' : Int → Mem → Prop} {post post' : Mem → Prop} (hK83 : ∀ (x0 : Int) (x1 : Mem), K83 x0 x1 → K83' x0 x1) (hpost : ∀ (x0 : Mem), post x0 → post' x0) : ∀ (n : Nat) (v1 : Int) (v2 : Int) (v3 : Int) (v4 : Int) (m : Mem), wp_X7_rollOnce_16 K83 post n v1 v2 v3 v4 m → wp_X7_rollOnce_16 K83' post' n v1 v2 v3 v4 m := by
  intro n
  induction n with
  | zero => intro v1 v2 v3 v4 m; unfold wp_X7_rollOnce_16; exact id
  | succ n ih =>
    intro v1 v2 v3 v4 m
    unfold wp_X7_rollOnce_16
    exact (mn_and (mn_imp (hK83 _ _)) (mn_imp (mn_ex (fun _ => (mn_X7_rollOnce_25 (fun _ _ _ _ _ => (ih _ _ _ _ _)) hpost _ _ _ _ _ _ _)))))
theorem mn_X7_rollOnce {v1 : Int} {v2 : Int} {m : Mem} {post post' : Mem → Prop} (hpost : ∀ (x0 : Mem), post x0 → post' x0) : wp_X7_rollOnce v1 v2 m post → wp_X7_rollOnce v1 v2 m post' := by
  unfold wp_X7_rollOnce
  exact (mn_and (mn_imp (hpost _)) (mn_imp (mn_and (mn_imp (mn_ex (fun _ => (mn_X7_rollOnce_16 (fun _ _ => (mn_and id (mn_all (fun _ => (mn_imp (hpost _)))))) hpost _ _ _ _ _ _)))) (mn_imp (hpost _)))))
theorem mn_X7_sortBy_2 {K28 K28' : Int → Int → Int → Int → Mem → Prop} {post post' : Mem → Prop} (hK28 : ∀ (x0 : Int) (x1 : Int) (x2 : Int) (x3 : Int) (x4 : Mem), K28 x0 x1 x2 x3 x4 → K28' x0 x1 x2 x3 x4) (hpost : ∀ (x0 : Mem), post x0 → post' x0) : ∀ (n : Nat) (v1 : Int) (v2 : Int) (v3 : Int) (m : Mem), wp_X7_sortBy_2 K28 post n v1 v2 v3 m → wp_X7_sortBy_2 K28' post' n v1 v2 v3 m := by
  intro n
  induction n with
  | zero => intro v1 v2 v3 m; unfold wp_X7_sortBy_2; exact id
  | succ n ih =>
    intro v1 v2 v3 m
    unfold wp_X7_sortBy_2
    exact (mn_and (mn_imp (hK28 _ _ _ _ _)) (mn_imp (mn_and id (mn_all (fun _ => (mn_imp (ih _ _ _ _)))))))
theorem mn_X7_sortBy_28 {post post' : Mem → Prop} (hpost : ∀ (x0 : Mem), post x0 → post' x0) : ∀ (n : Nat) (v1 : Int) (v2 : Int) (v3 : Int) (v4 : Int) (m : Mem), wp_X7_sortBy_28 post n v1 v2 v3 v4 m → wp_X7_sortBy_28 post' n v1 v2 v3 v4 m := by
  intro n
  induction n with
  | zero => intro v1 v2 v3 v4 m; unfold wp_X7_sortBy_28; exact id
  | succ n ih =>
    intro v1 v2 v3 v4 m
    unfold wp_X7_sortBy_28
    exact (mn_and (mn_imp (hpost _)) (mn_imp (mn_X7_rollOnce (fun _ => (mn_all (fun _ => (mn_imp (ih _ _ _ _ _))))))))
theorem mn_X7_sortBy {v1 : Int} {v2 : Int} {m : Mem} {post post' : Mem → Prop} (hpost : ∀ (x0 : Mem), post x0 → post' x0) : wp_X7_sortBy v1 v2 m post → wp_X7_sortBy v1 v2 m post' := by
  unfold wp_X7_sortBy
  exact (mn_ex (fun _ => (mn_X7_sortBy_2 (fun _ _ _ _ _ => (mn_ex (fun _ => (mn_X7_sortBy_28 hpost _ _ _ _ _ _)))) hpost _ _ _ _ _)))
theorem mn_X7_digestOnto_5 {post post' : Int → Mem → Prop} (hpost : ∀ (x0 : Int) (x1 : Mem), post x0 x1 → post' x0 x1) : ∀ (n : Nat) (v3 : Int) (v5 : Int) (m : Mem), wp_X7_digestOnto_5 post n v3 v5 m → wp_X7_digestOnto_5 post' n v3 v5 m := by
  intro n
  induction n with
  | zero => intro v3 v5 m; unfold wp_X7_digestOnto_5; exact id
  | succ n ih =>
    intro v3 v5 m
    unfold wp_X7_digestOnto_5
    exact (mn_and (mn_imp (hpost _ _)) (mn_imp (mn_and id (mn_all (fun _ => (mn_imp (ih _ _ _)))))))
theorem mn_X7_digestOnto {v1 : Int} {m : Mem} {post post' : Int → Mem → Prop} (hpost : ∀ (x0 : Int) (x1 : Mem), post x0 x1 → post' x0 x1) : wp_X7_digestOnto v1 m post → wp_X7_digestOnto v1 m post' := by
  unfold wp_X7_digestOnto
  exact (mn_ex (fun _ => (mn_X7_digestOnto_5 hpost _ _ _ _)))
theorem mn_X8_begin {m : Mem} {post post' : Mem → Prop} (hpost : ∀ (x0 : Mem), post x0 → post' x0) : wp_X8_begin m post → wp_X8_begin m post' := by
  unfold wp_X8_begin
  exact (mn_all (fun _ => (mn_imp (mn_all (fun _ => (mn_imp (hpost _)))))))
theorem mn_X8_has {v1 : Int} {m : Mem} {post post' : Int → Mem → Prop} (hpost : ∀ (x0 : Int) (x1 : Mem), post x0 x1 → post' x0 x1) : wp_X8_has v1 m post → wp_X8_has v1 m post' := by
  unfold wp_X8_has
  exact (mn_and (mn_imp (hpost _ _)) (mn_imp (mn_and (mn_imp (hpost _ _)) (mn_imp (hpost _ _)))))
theorem mn_X8_add {v1 : Int} {v2 : Int} {v3 : Int} {v4 : Int} {m : Mem} {post post' : Int → Mem → Prop} (hpost : ∀ (x0 : Int) (x1 : Mem), post x0 x1 → post' x0 x1) : wp_X8_add v1 v2 v3 v4 m post → wp_X8_add v1 v2 v3 v4 m post' := by
  unfold wp_X8_add
  exact (mn_all (fun _ => (mn_imp (mn_and id (mn_all (fun _ => (mn_imp (mn_and id (mn_all (fun _ => (mn_imp (mn_and id (mn_all (fun _ => (mn_imp (mn_and id (mn_all (fun _ => (mn_imp (mn_and id (mn_all (fun _ => (mn_imp (mn_and id (mn_all (fun _ => (mn_imp (mn_and id (mn_all (fun _ => (mn_imp (mn_and id (mn_all (fun _ => (mn_imp (mn_and id (mn_all (fun _ => (mn_imp (mn_all (fun _ => (mn_imp (hpost _ _)))))))))))))))))))))))))))))))))))))))))))
theorem mn_X8_serve {v1 : Int} {v2 : Int} {v3 : Int} {m : Mem} {post post' : Mem → Prop} (hpost : ∀ (x0 : Mem), post x0 → post' x0) : wp_X8_serve v1 v2 v3 m post → wp_X8_serve v1 v2 v3 m post' := by
  unfold wp_X8_serve
  exact (mn_and id (mn_all (fun _ => (mn_imp (mn_and id (mn_all (fun _ => (mn_imp (mn_and id (mn_and id (mn_all (fun _ => (mn_imp (mn_and id (mn_and id (mn_all (fun _ => (mn_imp (hpost _)))))))))))))))))))
theorem mn_X8_isDue {v1 : Int} {v2 : Int} {m : Mem} {post post' : Int → Mem → Prop} (hpost : ∀ (x0 : Int) (x1 : Mem), post x0 x1 → post' x0 x1) : wp_X8_isDue v1 v2 m post → wp_X8_isDue v1 v2 m post' := by
  unfold wp_X8_isDue
  exact (mn_and id (mn_and (mn_imp (hpost _ _)) (mn_imp (mn_and id (mn_and (mn_imp (hpost _ _)) (mn_imp (hpost _ _)))))))
theorem mn_X8_noteLeaving {v1 : Int} {v2 : Int} {v3 : Int} {m : Mem} {post post' : Mem → Prop} (hpost : ∀ (x0 : Mem), post x0 → post' x0) : wp_X8_noteLeaving v1 v2 v3 m post → wp_X8_noteLeaving v1 v2 v3 m post' := by
  unfold wp_X8_noteLeaving
  exact (mn_and id (mn_and id (mn_all (fun _ => (mn_imp (mn_and id (mn_and id (mn_all (fun _ => (mn_imp (mn_and id (mn_and id (mn_all (fun _ => (mn_imp (mn_and id (mn_all (fun _ => (mn_imp (hpost _))))))))))))))))))))
theorem mn_X8_noteShut {v1 : Int} {m : Mem} {post post' : Mem → Prop} (hpost : ∀ (x0 : Mem), post x0 → post' x0) : wp_X8_noteShut v1 m post → wp_X8_noteShut v1 m post' := by
  unfold wp_X8_noteShut
  exact (mn_and id (mn_and id (mn_all (fun _ => (mn_imp (hpost _))))))
theorem mn_X8_onTheWay_22 {v1 : Int} {v2 : Int} {s0 : Int} {m : Mem} {post post' : Int → Mem → Prop} (hpost : ∀ (x0 : Int) (x1 : Mem), post x0 x1 → post' x0 x1) : wp_X8_onTheWay_22 v1 v2 s0 m post → wp_X8_onTheWay_22 v1 v2 s0 m post' := by
  unfold wp_X8_onTheWay_22
  exact (mn_and id (mn_and id (mn_and (mn_imp (hpost _ _)) (mn_imp (hpost _ _)))))
theorem mn_X8_onTheWay {v1 : Int} {v2 : Int} {m : Mem} {post post' : Int → Mem → Prop} (hpost : ∀ (x0 : Int) (x1 : Mem), post x0 x1 → post' x0 x1) : wp_X8_onTheWay v1 v2 m post → wp_X8_onTheWay v1 v2 m post' := by
  unfold wp_X8_onTheWay
  exact (mn_and id (mn_and id (mn_and (mn_imp (mn_X8_onTheWay_22 hpost)) (mn_imp (mn_X8_onTheWay_22 hpost)))))
theorem mn_X8_tell {v1 : Int} {v2 : Int} {v3 : Int} {m : Mem} {post post' : Int → Mem → Prop} (hpost : ∀ (x0 : Int) (x1 : Mem), post x0 x1 → post' x0 x1) : wp_X8_tell v1 v2 v3 m post → wp_X8_tell v1 v2 v3 m post' := by
  unfold wp_X8_tell
  exact (mn_and (mn_imp (mn_and id (hpost _ _))) (mn_and (mn_imp (mn_and id (hpost _ _))) (mn_and (mn_imp (mn_and id (hpost _ _))) (mn_imp (mn_X8_onTheWay (fun _ _ => (hpost _ _)))))))
theorem mn_J6_bitCount_0f7a4 {v0 : Int} {m : Mem} {post post' : Int → Mem → Prop} (hpost : ∀ (x0 : Int) (x1 : Mem), post x0 x1 → post' x0 x1) : wp_J6_bitCount_0f7a4 v0 m post → wp_J6_bitCount_0f7a4 v0 m post' := by
  unfold wp_J6_bitCount_0f7a4
  exact (mn_all (fun _ => (mn_imp (mn_all (fun _ => (mn_imp (mn_all (fun _ => (mn_imp (mn_all (fun _ => (mn_imp (mn_all (fun _ => (mn_imp (hpost _ _))))))))))))))))
theorem mn_X8_duties_4 {post post' : Int → Mem → Prop} (hpost : ∀ (x0 : Int) (x1 : Mem), post x0 x1 → post' x0 x1) : ∀ (n : Nat) (v1 : Int) (v2 : Int) (m : Mem), wp_X8_duties_4 post n v1 v2 m → wp_X8_duties_4 post' n v1 v2 m := by
  intro n
  induction n with
  | zero => intro v1 v2 m; unfold wp_X8_duties_4; exact id
  | succ n ih =>
    intro v1 v2 m
    unfold wp_X8_duties_4
    exact (mn_and (mn_imp (hpost _ _)) (mn_imp (mn_and id (mn_J6_bitCount_0f7a4 (fun _ _ => (mn_all (fun _ => (mn_imp (ih _ _ _)))))))))
theorem mn_X8_duties {m : Mem} {post post' : Int → Mem → Prop} (hpost : ∀ (x0 : Int) (x1 : Mem), post x0 x1 → post' x0 x1) : wp_X8_duties m post → wp_X8_duties m post' := by
  unfold wp_X8_duties
  exact (mn_ex (fun _ => (mn_X8_duties_4 hpost _ _ _ _)))
theorem mn_X8_dutyHours_4 {post post' : Int → Mem → Prop} (hpost : ∀ (x0 : Int) (x1 : Mem), post x0 x1 → post' x0 x1) : ∀ (n : Nat) (v1 : Int) (v2 : Int) (m : Mem), wp_X8_dutyHours_4 post n v1 v2 m → wp_X8_dutyHours_4 post' n v1 v2 m := by
  intro n
  induction n with
  | zero => intro v1 v2 m; unfold wp_X8_dutyHours_4; exact id
  | succ n ih =>
    intro v1 v2 m
    unfold wp_X8_dutyHours_4
    exact (mn_and (mn_imp (hpost _ _)) (mn_imp (mn_and id (mn_J6_bitCount_0f7a4 (fun _ _ => (mn_and id (mn_all (fun _ => (mn_imp (ih _ _ _))))))))))
theorem mn_X8_dutyHours {m : Mem} {post post' : Int → Mem → Prop} (hpost : ∀ (x0 : Int) (x1 : Mem), post x0 x1 → post' x0 x1) : wp_X8_dutyHours m post → wp_X8_dutyHours m post' := by
  unfold wp_X8_dutyHours
  exact (mn_ex (fun _ => (mn_X8_dutyHours_4 hpost _ _ _ _)))
theorem mn_X8_freeCrewsAt_2 {post post' : Mem → Prop} (hpost : ∀ (x0 : Mem), post x0 → post' x0) : ∀ (n : Nat) (v1 : Int) (v2 : Int) (m : Mem), wp_X8_freeCrewsAt_2 post n v1 v2 m → wp_X8_freeCrewsAt_2 post' n v1 v2 m := by
  intro n
  induction n with
  | zero => intro v1 v2 m; unfold wp_X8_freeCrewsAt_2; exact id
  | succ n ih =>
    intro v1 v2 m
    unfold wp_X8_freeCrewsAt_2
    exact (mn_and (mn_imp (hpost _)) (mn_imp (mn_and id (mn_all (fun _ => (mn_imp (mn_and (mn_imp (ih _ _ _)) (mn_imp (mn_X8_isDue (fun _ _ => (mn_and (mn_imp (ih _ _ _)) (mn_imp (mn_and id (mn_and id (mn_and id (mn_all (fun _ => (mn_imp (ih _ _ _)))))))))))))))))))
theorem mn_X8_freeCrewsAt {v1 : Int} {m : Mem} {post post' : Mem → Prop} (hpost : ∀ (x0 : Mem), post x0 → post' x0) : wp_X8_freeCrewsAt v1 m post → wp_X8_freeCrewsAt v1 m post' := by
  unfold wp_X8_freeCrewsAt
  exact (mn_ex (fun _ => (mn_X8_freeCrewsAt_2 hpost _ _ _ _)))
theorem mn_X8_crewsStartedAt_4 {post post' : Int → Mem → Prop} (hpost : ∀ (x0 : Int) (x1 : Mem), post x0 x1 → post' x0 x1) : ∀ (n : Nat) (v1 : Int) (v2 : Int) (v3 : Int) (m : Mem), wp_X8_crewsStartedAt_4 post n v1 v2 v3 m → wp_X8_crewsStartedAt_4 post' n v1 v2 v3 m := by
  intro n
  induction n with
  | zero => intro v1 v2 v3 m; unfold wp_X8_crewsStartedAt_4; exact id
  | succ n ih =>
    intro v1 v2 v3 m
    unfold wp_X8_crewsStartedAt_4
    exact (mn_and (mn_imp (hpost _ _)) (mn_imp (mn_X8_isDue (fun _ _ => (mn_and (mn_imp (mn_and id (mn_and id (mn_and (mn_imp (ih _ _ _ _)) (mn_imp (mn_and id (mn_and id (mn_and id (mn_all (fun _ => (mn_imp (ih _ _ _ _)))))))))))) (mn_imp (ih _ _ _ _)))))))
theorem mn_X8_crewsStartedAt {v1 : Int} {m : Mem} {post post' : Int → Mem → Prop} (hpost : ∀ (x0 : Int) (x1 : Mem), post x0 x1 → post' x0 x1) : wp_X8_crewsStartedAt v1 m post → wp_X8_crewsStartedAt v1 m post' := by
  unfold wp_X8_crewsStartedAt
  exact (mn_ex (fun _ => (mn_X8_crewsStartedAt_4 hpost _ _ _ _ _)))
theorem mn_X8_fewestCrews_12 {post post' : Int → Mem → Prop} (hpost : ∀ (x0 : Int) (x1 : Mem), post x0 x1 → post' x0 x1) : ∀ (n : Nat) (v1 : Int) (v2 : Int) (m : Mem), wp_X8_fewestCrews_12 post n v1 v2 m → wp_X8_fewestCrews_12 post' n v1 v2 m := by
  intro n
  induction n with
  | zero => intro v1 v2 m; unfold wp_X8_fewestCrews_12; exact id
  | succ n ih =>
    intro v1 v2 m
    unfold wp_X8_fewestCrews_12
    exact (mn_and (mn_imp (hpost _ _)) (mn_imp (mn_X8_freeCrewsAt (fun _ => (mn_X8_crewsStartedAt (fun _ _ => (mn_all (fun _ => (mn_imp (ih _ _ _))))))))))
theorem mn_X8_fewestCrews {m : Mem} {post post' : Int → Mem → Prop} (hpost : ∀ (x0 : Int) (x1 : Mem), post x0 x1 → post' x0 x1) : wp_X8_fewestCrews m post → wp_X8_fewestCrews m post' := by
  unfold wp_X8_fewestCrews
  exact (mn_J7_fill_53178 (fun _ => (mn_ex (fun _ => (mn_X8_fewestCrews_12 hpost _ _ _ _)))))
theorem mn_X8_digestOnto_18 {K6 K6' : Int → Int → Int → Mem → Prop} {post post' : Int → Mem → Prop} (hK6 : ∀ (x0 : Int) (x1 : Int) (x2 : Int) (x3 : Mem), K6 x0 x1 x2 x3 → K6' x0 x1 x2 x3) (hpost : ∀ (x0 : Int) (x1 : Mem), post x0 x1 → post' x0 x1) : ∀ (n : Nat) (v3 : Int) (v4 : Int) (v6 : Int) (v7 : Int) (m : Mem), wp_X8_digestOnto_18 K6 post n v3 v4 v6 v7 m → wp_X8_digestOnto_18 K6' post' n v3 v4 v6 v7 m := by
  intro n
  induction n with
  | zero => intro v3 v4 v6 v7 m; unfold wp_X8_digestOnto_18; exact id
  | succ n ih =>
    intro v3 v4 v6 v7 m
    unfold wp_X8_digestOnto_18
    exact (mn_and (mn_imp (hK6 _ _ _ _)) (mn_imp (mn_X8_tell (fun _ _ => (mn_all (fun _ => (mn_imp (ih _ _ _ _ _))))))))
theorem mn_X8_digestOnto_6 {post post' : Int → Mem → Prop} (hpost : ∀ (x0 : Int) (x1 : Mem), post x0 x1 → post' x0 x1) : ∀ (n : Nat) (v3 : Int) (v4 : Int) (v6 : Int) (m : Mem), wp_X8_digestOnto_6 post n v3 v4 v6 m → wp_X8_digestOnto_6 post' n v3 v4 v6 m := by
  intro n
  induction n with
  | zero => intro v3 v4 v6 m; unfold wp_X8_digestOnto_6; exact id
  | succ n ih =>
    intro v3 v4 v6 m
    unfold wp_X8_digestOnto_6
    exact (mn_and (mn_imp (hpost _ _)) (mn_imp (mn_ex (fun _ => (mn_X8_digestOnto_18 (fun _ _ _ _ => (ih _ _ _ _)) hpost _ _ _ _ _ _)))))
theorem mn_X8_digestOnto {v1 : Int} {v3 : Int} {m : Mem} {post post' : Int → Mem → Prop} (hpost : ∀ (x0 : Int) (x1 : Mem), post x0 x1 → post' x0 x1) : wp_X8_digestOnto v1 v3 m post → wp_X8_digestOnto v1 v3 m post' := by
  unfold wp_X8_digestOnto
  exact (mn_ex (fun _ => (mn_X8_digestOnto_6 hpost _ _ _ _ _)))
theorem mn_X9_begin {m : Mem} {post post' : Mem → Prop} (hpost : ∀ (x0 : Mem), post x0 → post' x0) : wp_X9_begin m post → wp_X9_begin m post' := by
  unfold wp_X9_begin
  exact (mn_all (fun _ => (mn_imp (mn_all (fun _ => (mn_imp (mn_all (fun _ => (mn_imp (mn_J7_fill_53178 (fun _ => (mn_J7_fill_53178 (fun _ => (hpost _))))))))))))))
theorem mn_X9_has {v1 : Int} {m : Mem} {post post' : Int → Mem → Prop} (hpost : ∀ (x0 : Int) (x1 : Mem), post x0 x1 → post' x0 x1) : wp_X9_has v1 m post → wp_X9_has v1 m post' := by
  unfold wp_X9_has
  exact (mn_and (mn_imp (hpost _ _)) (mn_imp (mn_and (mn_imp (hpost _ _)) (mn_imp (hpost _ _)))))
theorem mn_X9_add {v1 : Int} {v2 : Int} {m : Mem} {post post' : Int → Mem → Prop} (hpost : ∀ (x0 : Int) (x1 : Mem), post x0 x1 → post' x0 x1) : wp_X9_add v1 v2 m post → wp_X9_add v1 v2 m post' := by
  unfold wp_X9_add
  exact (mn_all (fun _ => (mn_imp (mn_and id (mn_all (fun _ => (mn_imp (mn_and id (mn_all (fun _ => (mn_imp (mn_and id (mn_all (fun _ => (mn_imp (mn_and id (mn_all (fun _ => (mn_imp (mn_and id (mn_all (fun _ => (mn_imp (mn_and id (mn_all (fun _ => (mn_imp (mn_all (fun _ => (mn_imp (hpost _ _)))))))))))))))))))))))))))))))
theorem mn_X9_comeIn_2 {post post' : Mem → Prop} (hpost : ∀ (x0 : Mem), post x0 → post' x0) : ∀ (n : Nat) (v2 : Int) (m : Mem), wp_X9_comeIn_2 post n v2 m → wp_X9_comeIn_2 post' n v2 m := by
  intro n
  induction n with
  | zero => intro v2 m; unfold wp_X9_comeIn_2; exact id
  | succ n ih =>
    intro v2 m
    unfold wp_X9_comeIn_2
    exact (mn_and (mn_imp (hpost _)) (mn_imp (mn_and id (mn_and (mn_imp (ih _ _)) (mn_imp (mn_and id (mn_and (mn_imp (mn_and id (mn_and id (mn_all (fun _ => (mn_imp (mn_and id (mn_all (fun _ => (mn_imp (mn_and id (mn_and (mn_imp (mn_and id (mn_all (fun _ => (mn_imp (mn_and id (mn_all (fun _ => (mn_imp (ih _ _)))))))))) (mn_imp (mn_and id (mn_all (fun _ => (mn_imp (ih _ _)))))))))))))))))) (mn_imp (ih _ _)))))))))
theorem mn_X9_comeIn {m : Mem} {post post' : Mem → Prop} (hpost : ∀ (x0 : Mem), post x0 → post' x0) : wp_X9_comeIn m post → wp_X9_comeIn m post' := by
  unfold wp_X9_comeIn
  exact (mn_ex (fun _ => (mn_X9_comeIn_2 hpost _ _ _)))
theorem mn_X9_isClosed {v1 : Int} {m : Mem} {post post' : Int → Mem → Prop} (hpost : ∀ (x0 : Int) (x1 : Mem), post x0 x1 → post' x0 x1) : wp_X9_isClosed v1 m post → wp_X9_isClosed v1 m post' := by
  unfold wp_X9_isClosed
  exact (mn_all (fun _ => (mn_imp (mn_and id (mn_and (mn_imp (hpost _ _)) (mn_imp (mn_and id (mn_and (mn_imp (hpost _ _)) (mn_imp (hpost _ _))))))))))
theorem mn_X9_nextFor_79 {v1 : Int} {v3 : Int} {v4 : Int} {s0 : Int} {m : Mem} {K5 K5' : Int → Int → Int → Mem → Prop} {post post' : Int → Mem → Prop} (hK5 : ∀ (x0 : Int) (x1 : Int) (x2 : Int) (x3 : Mem), K5 x0 x1 x2 x3 → K5' x0 x1 x2 x3) (hpost : ∀ (x0 : Int) (x1 : Mem), post x0 x1 → post' x0 x1) : wp_X9_nextFor_79 v1 v3 v4 s0 m K5 post → wp_X9_nextFor_79 v1 v3 v4 s0 m K5' post' := by
  unfold wp_X9_nextFor_79
  exact (mn_and (mn_imp (hK5 _ _ _ _)) (mn_imp (mn_and (mn_imp (hK5 _ _ _ _)) (mn_imp (mn_and id (mn_and id (mn_and (mn_imp (hK5 _ _ _ _)) (mn_imp (hK5 _ _ _ _)))))))))
theorem mn_X9_nextFor_5 {post post' : Int → Mem → Prop} (hpost : ∀ (x0 : Int) (x1 : Mem), post x0 x1 → post' x0 x1) : ∀ (n : Nat) (v1 : Int) (v3 : Int) (v4 : Int) (m : Mem), wp_X9_nextFor_5 post n v1 v3 v4 m → wp_X9_nextFor_5 post' n v1 v3 v4 m := by
  intro n
  induction n with
  | zero => intro v1 v3 v4 m; unfold wp_X9_nextFor_5; exact id
  | succ n ih =>
    intro v1 v3 v4 m
    unfold wp_X9_nextFor_5
    exact (mn_and (mn_imp (hpost _ _)) (mn_imp (mn_and id (mn_and id (mn_and (mn_imp (ih _ _ _ _)) (mn_imp (mn_and id (mn_and (mn_imp (mn_and id (mn_and id (mn_and id (mn_and (mn_imp (mn_X9_nextFor_79 (fun _ _ _ _ => (ih _ _ _ _)) hpost)) (mn_imp (mn_X9_nextFor_79 (fun _ _ _ _ => (ih _ _ _ _)) hpost))))))) (mn_imp (ih _ _ _ _))))))))))
theorem mn_X9_nextFor {v1 : Int} {m : Mem} {post post' : Int → Mem → Prop} (hpost : ∀ (x0 : Int) (x1 : Mem), post x0 x1 → post' x0 x1) : wp_X9_nextFor v1 m post → wp_X9_nextFor v1 m post' := by
  unfold wp_X9_nextFor
  exact (mn_ex (fun _ => (mn_X9_nextFor_5 hpost _ _ _ _ _)))
theorem mn_X9_take_3 {post post' : Int → Mem → Prop} (hpost : ∀ (x0 : Int) (x1 : Mem), post x0 x1 → post' x0 x1) : ∀ (n : Nat) (v1 : Int) (v2 : Int) (v3 : Int) (v6 : Int) (m : Mem), wp_X9_take_3 post n v1 v2 v3 v6 m → wp_X9_take_3 post' n v1 v2 v3 v6 m := by
  intro n
  induction n with
  | zero => intro v1 v2 v3 v6 m; unfold wp_X9_take_3; exact id
  | succ n ih =>
    intro v1 v2 v3 v6 m
    unfold wp_X9_take_3
    exact (mn_and (mn_imp (hpost _ _)) (mn_imp (mn_X9_nextFor (fun _ _ => (mn_and (mn_imp (mn_and id (mn_all (fun _ => (mn_imp (mn_and id (mn_all (fun _ => (mn_imp (mn_and id (mn_and id (mn_all (fun _ => (mn_imp (mn_and id (mn_and id (mn_all (fun _ => (mn_imp (ih _ _ _ _ _)))))))))))))))))))) (mn_imp (hpost _ _)))))))
theorem mn_X9_take {v1 : Int} {v2 : Int} {v3 : Int} {m : Mem} {post post' : Int → Mem → Prop} (hpost : ∀ (x0 : Int) (x1 : Mem), post x0 x1 → post' x0 x1) : wp_X9_take v1 v2 v3 m post → wp_X9_take v1 v2 v3 m post' := by
  unfold wp_X9_take
  exact (mn_ex (fun _ => (mn_X9_take_3 hpost _ _ _ _ _ _)))
theorem mn_X9_leaveOrStay_90 {v1 : Int} {v4 : Int} {m : Mem} {post post' : Mem → Prop} (hpost : ∀ (x0 : Mem), post x0 → post' x0) : wp_X9_leaveOrStay_90 v1 v4 m post → wp_X9_leaveOrStay_90 v1 v4 m post' := by
  unfold wp_X9_leaveOrStay_90
  exact (mn_X8_noteLeaving (fun _ => (hpost _)))
theorem mn_X9_leaveOrStay {v1 : Int} {m : Mem} {post post' : Mem → Prop} (hpost : ∀ (x0 : Mem), post x0 → post' x0) : wp_X9_leaveOrStay v1 m post → wp_X9_leaveOrStay v1 m post' := by
  unfold wp_X9_leaveOrStay
  exact (mn_and id (mn_X9_isClosed (fun _ _ => (mn_and (mn_imp (mn_X8_noteShut (fun _ => (hpost _)))) (mn_imp (mn_and id (mn_X9_isClosed (fun _ _ => (mn_and (mn_imp (mn_and id (mn_and id (mn_X9_take (fun _ _ => (mn_and id (mn_and (mn_imp (mn_X9_leaveOrStay_90 hpost)) (mn_imp (mn_and id (mn_and id (mn_X9_take (fun _ _ => (mn_all (fun _ => (mn_imp (mn_X9_leaveOrStay_90 hpost)))))))))))))))) (mn_imp (mn_X8_noteShut (fun _ => (hpost _)))))))))))))
theorem mn_X9_passHour_7 {post post' : Mem → Prop} (hpost : ∀ (x0 : Mem), post x0 → post' x0) : ∀ (n : Nat) (v3 : Int) (m : Mem), wp_X9_passHour_7 post n v3 m → wp_X9_passHour_7 post' n v3 m := by
  intro n
  induction n with
  | zero => intro v3 m; unfold wp_X9_passHour_7; exact id
  | succ n ih =>
    intro v3 m
    unfold wp_X9_passHour_7
    exact (mn_and (mn_imp (mn_all (fun _ => (mn_imp (hpost _))))) (mn_imp (mn_X8_isDue (fun _ _ => (mn_and (mn_imp (ih _ _)) (mn_imp (mn_X9_leaveOrStay (fun _ => (ih _ _)))))))))
theorem mn_X9_passHour {m : Mem} {post post' : Mem → Prop} (hpost : ∀ (x0 : Mem), post x0 → post' x0) : wp_X9_passHour m post → wp_X9_passHour m post' := by
  unfold wp_X9_passHour
  exact (mn_X9_comeIn (fun _ => (mn_ex (fun _ => (mn_X9_passHour_7 hpost _ _ _)))))
theorem mn_X9_standingAt_5 {post post' : Int → Mem → Prop} (hpost : ∀ (x0 : Int) (x1 : Mem), post x0 x1 → post' x0 x1) : ∀ (n : Nat) (v1 : Int) (v2 : Int) (v3 : Int) (v4 : Int) (m : Mem), wp_X9_standingAt_5 post n v1 v2 v3 v4 m → wp_X9_standingAt_5 post' n v1 v2 v3 v4 m := by
  intro n
  induction n with
  | zero => intro v1 v2 v3 v4 m; unfold wp_X9_standingAt_5; exact id
  | succ n ih =>
    intro v1 v2 v3 v4 m
    unfold wp_X9_standingAt_5
    exact (mn_and (mn_imp (hpost _ _)) (mn_imp (mn_and id (mn_and (mn_imp (ih _ _ _ _ _)) (mn_imp (mn_and (mn_imp (ih _ _ _ _ _)) (mn_imp (mn_and id (mn_and (mn_imp (ih _ _ _ _ _)) (mn_imp (ih _ _ _ _ _)))))))))))
theorem mn_X9_standingAt {v1 : Int} {v2 : Int} {m : Mem} {post post' : Int → Mem → Prop} (hpost : ∀ (x0 : Int) (x1 : Mem), post x0 x1 → post' x0 x1) : wp_X9_standingAt v1 v2 m post → wp_X9_standingAt v1 v2 m post' := by
  unfold wp_X9_standingAt
  exact (mn_ex (fun _ => (mn_X9_standingAt_5 hpost _ _ _ _ _ _)))
theorem mn_X9_doneMany_4 {post post' : Int → Mem → Prop} (hpost : ∀ (x0 : Int) (x1 : Mem), post x0 x1 → post' x0 x1) : ∀ (n : Nat) (v1 : Int) (v2 : Int) (m : Mem), wp_X9_doneMany_4 post n v1 v2 m → wp_X9_doneMany_4 post' n v1 v2 m := by
  intro n
  induction n with
  | zero => intro v1 v2 m; unfold wp_X9_doneMany_4; exact id
  | succ n ih =>
    intro v1 v2 m
    unfold wp_X9_doneMany_4
    exact (mn_and (mn_imp (hpost _ _)) (mn_imp (mn_and id (mn_all (fun _ => (mn_imp (ih _ _ _)))))))
theorem mn_X9_doneMany {m : Mem} {post post' : Int → Mem → Prop} (hpost : ∀ (x0 : Int) (x1 : Mem), post x0 x1 → post' x0 x1) : wp_X9_doneMany m post → wp_X9_doneMany m post' := by
  unfold wp_X9_doneMany
  exact (mn_ex (fun _ => (mn_X9_doneMany_4 hpost _ _ _ _)))
theorem mn_X9_runningMany_4 {post post' : Int → Mem → Prop} (hpost : ∀ (x0 : Int) (x1 : Mem), post x0 x1 → post' x0 x1) : ∀ (n : Nat) (v1 : Int) (v2 : Int) (m : Mem), wp_X9_runningMany_4 post n v1 v2 m → wp_X9_runningMany_4 post' n v1 v2 m := by
  intro n
  induction n with
  | zero => intro v1 v2 m; unfold wp_X9_runningMany_4; exact id
  | succ n ih =>
    intro v1 v2 m
    unfold wp_X9_runningMany_4
    exact (mn_and (mn_imp (hpost _ _)) (mn_imp (mn_and id (mn_and (mn_imp (mn_all (fun _ => (mn_imp (ih _ _ _))))) (mn_imp (mn_all (fun _ => (mn_imp (ih _ _ _)))))))))
theorem mn_X9_runningMany {m : Mem} {post post' : Int → Mem → Prop} (hpost : ∀ (x0 : Int) (x1 : Mem), post x0 x1 → post' x0 x1) : wp_X9_runningMany m post → wp_X9_runningMany m post' := by
  unfold wp_X9_runningMany
  exact (mn_ex (fun _ => (mn_X9_runningMany_4 hpost _ _ _ _)))
theorem mn_X9_tell {v1 : Int} {v2 : Int} {m : Mem} {post post' : Int → Mem → Prop} (hpost : ∀ (x0 : Int) (x1 : Mem), post x0 x1 → post' x0 x1) : wp_X9_tell v1 v2 m post → wp_X9_tell v1 v2 m post' := by
  unfold wp_X9_tell
  exact (mn_and (mn_imp (mn_and id (hpost _ _))) (mn_and (mn_imp (mn_and id (hpost _ _))) (mn_and (mn_imp (mn_and id (hpost _ _))) (mn_and (mn_imp (mn_and id (hpost _ _))) (mn_and (mn_imp (mn_and id (hpost _ _))) (mn_imp (mn_and id (hpost _ _))))))))
theorem mn_X9_digestOnto_17 {K5 K5' : Int → Int → Mem → Prop} {post post' : Int → Mem → Prop} (hK5 : ∀ (x0 : Int) (x1 : Int) (x2 : Mem), K5 x0 x1 x2 → K5' x0 x1 x2) (hpost : ∀ (x0 : Int) (x1 : Mem), post x0 x1 → post' x0 x1) : ∀ (n : Nat) (v3 : Int) (v5 : Int) (v6 : Int) (m : Mem), wp_X9_digestOnto_17 K5 post n v3 v5 v6 m → wp_X9_digestOnto_17 K5' post' n v3 v5 v6 m := by
  intro n
  induction n with
  | zero => intro v3 v5 v6 m; unfold wp_X9_digestOnto_17; exact id
  | succ n ih =>
    intro v3 v5 v6 m
    unfold wp_X9_digestOnto_17
    exact (mn_and (mn_imp (hK5 _ _ _)) (mn_imp (mn_X9_tell (fun _ _ => (mn_all (fun _ => (mn_imp (ih _ _ _ _))))))))
theorem mn_X9_digestOnto_5 {K51 K51' : Int → Mem → Prop} {post post' : Int → Mem → Prop} (hK51 : ∀ (x0 : Int) (x1 : Mem), K51 x0 x1 → K51' x0 x1) (hpost : ∀ (x0 : Int) (x1 : Mem), post x0 x1 → post' x0 x1) : ∀ (n : Nat) (v3 : Int) (v5 : Int) (m : Mem), wp_X9_digestOnto_5 K51 post n v3 v5 m → wp_X9_digestOnto_5 K51' post' n v3 v5 m := by
  intro n
  induction n with
  | zero => intro v3 v5 m; unfold wp_X9_digestOnto_5; exact id
  | succ n ih =>
    intro v3 v5 m
    unfold wp_X9_digestOnto_5
    exact (mn_and (mn_imp (hK51 _ _)) (mn_imp (mn_ex (fun _ => (mn_X9_digestOnto_17 (fun _ _ _ => (ih _ _ _)) hpost _ _ _ _ _)))))
theorem mn_X9_digestOnto {v1 : Int} {m : Mem} {post post' : Int → Mem → Prop} (hpost : ∀ (x0 : Int) (x1 : Mem), post x0 x1 → post' x0 x1) : wp_X9_digestOnto v1 m post → wp_X9_digestOnto v1 m post' := by
  unfold wp_X9_digestOnto
  exact (mn_ex (fun _ => (mn_X9_digestOnto_5 (fun _ _ => (hpost _ _)) hpost _ _ _ _)))
theorem mn_X10_begin {v1 : Int} {m : Mem} {post post' : Mem → Prop} (hpost : ∀ (x0 : Mem), post x0 → post' x0) : wp_X10_begin v1 m post → wp_X10_begin v1 m post' := by
  unfold wp_X10_begin
  exact (mn_X3_begin (fun _ => (mn_all (fun _ => (mn_imp (mn_X0_begin (fun _ => (mn_X8_begin (fun _ => (mn_X9_begin (fun _ => (mn_all (fun _ => (mn_imp (mn_X5_begin (fun _ => (mn_X2_begin (fun _ => (mn_all (fun _ => (mn_imp (mn_all (fun _ => (mn_imp (hpost _)))))))))))))))))))))))))
theorem mn_X10_land {v1 : Int} {m : Mem} {post post' : Int → Mem → Prop} (hpost : ∀ (x0 : Int) (x1 : Mem), post x0 x1 → post' x0 x1) : wp_X10_land v1 m post → wp_X10_land v1 m post' := by
  unfold wp_X10_land
  exact (mn_and (mn_imp (hpost _ _)) (mn_imp (mn_and (mn_imp (mn_X10_begin (fun _ => (hpost _ _)))) (mn_imp (hpost _ _)))))
theorem mn_X10_miles {v1 : Int} {v2 : Int} {v3 : Int} {m : Mem} {post post' : Int → Mem → Prop} (hpost : ∀ (x0 : Int) (x1 : Mem), post x0 x1 → post' x0 x1) : wp_X10_miles v1 v2 v3 m post → wp_X10_miles v1 v2 v3 m post' := by
  unfold wp_X10_miles
  exact (mn_X3_hasPair (fun _ _ => (mn_and (mn_imp (mn_and (mn_imp (hpost _ _)) (mn_imp (mn_and (mn_imp (mn_X5_forget (fun _ => (mn_X3_setMiles (fun _ _ => (hpost _ _)))))) (mn_imp (hpost _ _)))))) (mn_imp (hpost _ _)))))
theorem mn_X10_far {v1 : Int} {v2 : Int} {m : Mem} {post post' : Int → Mem → Prop} (hpost : ∀ (x0 : Int) (x1 : Mem), post x0 x1 → post' x0 x1) : wp_X10_far v1 v2 m post → wp_X10_far v1 v2 m post' := by
  unfold wp_X10_far
  exact (mn_X3_has (fun _ _ => (mn_and (mn_imp (hpost _ _)) (mn_imp (mn_X3_has (fun _ _ => (mn_and (mn_imp (mn_X3_measure (fun _ => (mn_and id (hpost _ _))))) (mn_imp (hpost _ _)))))))))
theorem mn_X10_letters {v1 : Int} {m : Mem} {post post' : Int → Mem → Prop} (hpost : ∀ (x0 : Int) (x1 : Mem), post x0 x1 → post' x0 x1) : wp_X10_letters v1 m post → wp_X10_letters v1 m post' := by
  unfold wp_X10_letters
  exact (mn_X6_lettersIn (fun _ _ => (mn_and (mn_imp (mn_and (mn_imp (mn_X6_write (fun _ => (hpost _ _)))) (mn_imp (hpost _ _)))) (mn_imp (hpost _ _)))))
theorem mn_X10_blank {m : Mem} {post post' : Int → Mem → Prop} (hpost : ∀ (x0 : Int) (x1 : Mem), post x0 x1 → post' x0 x1) : wp_X10_blank m post → wp_X10_blank m post' := by
  unfold wp_X10_blank
  exact (mn_all (fun _ => (mn_imp (mn_all (fun _ => (mn_imp (hpost _ _)))))))
theorem mn_X10_good {m : Mem} {post post' : Int → Mem → Prop} (hpost : ∀ (x0 : Int) (x1 : Mem), post x0 x1 → post' x0 x1) : wp_X10_good m post → wp_X10_good m post' := by
  unfold wp_X10_good
  exact (mn_X6_readFor (fun _ _ => (hpost _ _)))
theorem mn_X10_block {m : Mem} {post post' : Int → Mem → Prop} (hpost : ∀ (x0 : Int) (x1 : Mem), post x0 x1 → post' x0 x1) : wp_X10_block m post → wp_X10_block m post' := by
  unfold wp_X10_block
  exact (mn_X6_isWholeFor (fun _ _ => (mn_and (mn_imp (mn_and (mn_imp (mn_X0_add (fun _ _ => (mn_all (fun _ => (mn_imp (hpost _ _))))))) (mn_imp (hpost _ _)))) (mn_imp (hpost _ _)))))
theorem mn_X10_about {v1 : Int} {v2 : Int} {m : Mem} {post post' : Int → Mem → Prop} (hpost : ∀ (x0 : Int) (x1 : Mem), post x0 x1 → post' x0 x1) : wp_X10_about v1 v2 m post → wp_X10_about v1 v2 m post' := by
  unfold wp_X10_about
  exact (mn_X0_has (fun _ _ => (mn_and (mn_imp (mn_and (mn_imp (hpost _ _)) (mn_imp (mn_and (mn_imp (mn_X0_tell (fun _ _ => (hpost _ _)))) (mn_imp (hpost _ _)))))) (mn_imp (hpost _ _)))))
theorem mn_X10_goes {v1 : Int} {v2 : Int} {m : Mem} {post post' : Int → Mem → Prop} (hpost : ∀ (x0 : Int) (x1 : Mem), post x0 x1 → post' x0 x1) : wp_X10_goes v1 v2 m post → wp_X10_goes v1 v2 m post' := by
  unfold wp_X10_goes
  exact (mn_X3_has (fun _ _ => (mn_and (mn_imp (hpost _ _)) (mn_imp (mn_X3_has (fun _ _ => (mn_and (mn_imp (mn_and id (hpost _ _))) (mn_imp (hpost _ _)))))))))
theorem mn_X10_milesAlongStops_4 {post post' : Int → Mem → Prop} (hpost : ∀ (x0 : Int) (x1 : Mem), post x0 x1 → post' x0 x1) : ∀ (n : Nat) (v1 : Int) (v2 : Int) (m : Mem), wp_X10_milesAlongStops_4 post n v1 v2 m → wp_X10_milesAlongStops_4 post' n v1 v2 m := by
  intro n
  induction n with
  | zero => intro v1 v2 m; unfold wp_X10_milesAlongStops_4; exact id
  | succ n ih =>
    intro v1 v2 m
    unfold wp_X10_milesAlongStops_4
    exact (mn_and (mn_imp (hpost _ _)) (mn_imp (mn_and id (mn_and id (mn_and id (mn_all (fun _ => (mn_imp (ih _ _ _)))))))))
theorem mn_X10_milesAlongStops {m : Mem} {post post' : Int → Mem → Prop} (hpost : ∀ (x0 : Int) (x1 : Mem), post x0 x1 → post' x0 x1) : wp_X10_milesAlongStops m post → wp_X10_milesAlongStops m post' := by
  unfold wp_X10_milesAlongStops
  exact (mn_ex (fun _ => (mn_X10_milesAlongStops_4 hpost _ _ _ _)))
theorem mn_X10_way_49 {v1 : Int} {v2 : Int} {v3 : Int} {m : Mem} {post post' : Int → Mem → Prop} (hpost : ∀ (x0 : Int) (x1 : Mem), post x0 x1 → post' x0 x1) : wp_X10_way_49 v1 v2 v3 m post → wp_X10_way_49 v1 v2 v3 m post' := by
  unfold wp_X10_way_49
  exact (mn_X0_follow (fun _ _ => (mn_and (mn_imp (mn_and (mn_imp (mn_and (mn_imp (mn_X0_stopAt (fun _ _ => (hpost _ _)))) (mn_imp (mn_X10_milesAlongStops (fun _ _ => (hpost _ _)))))) (mn_imp (hpost _ _)))) (mn_imp (hpost _ _)))))
theorem mn_X10_way {v1 : Int} {v2 : Int} {v3 : Int} {m : Mem} {post post' : Int → Mem → Prop} (hpost : ∀ (x0 : Int) (x1 : Mem), post x0 x1 → post' x0 x1) : wp_X10_way v1 v2 v3 m post → wp_X10_way v1 v2 v3 m post' := by
  unfold wp_X10_way
  exact (mn_X3_has (fun _ _ => (mn_and (mn_imp (hpost _ _)) (mn_imp (mn_X3_has (fun _ _ => (mn_and (mn_imp (mn_and (mn_imp (hpost _ _)) (mn_imp (mn_and (mn_imp (hpost _ _)) (mn_imp (mn_and (mn_imp (mn_X10_way_49 hpost)) (mn_imp (mn_and (mn_imp (mn_X10_way_49 hpost)) (mn_imp (hpost _ _)))))))))) (mn_imp (hpost _ _)))))))))
theorem mn_X10_lost_17 {K4 K4' : Int → Int → Mem → Prop} {post post' : Int → Mem → Prop} (hK4 : ∀ (x0 : Int) (x1 : Int) (x2 : Mem), K4 x0 x1 x2 → K4' x0 x1 x2) (hpost : ∀ (x0 : Int) (x1 : Mem), post x0 x1 → post' x0 x1) : ∀ (n : Nat) (v1 : Int) (v2 : Int) (v3 : Int) (m : Mem), wp_X10_lost_17 K4 post n v1 v2 v3 m → wp_X10_lost_17 K4' post' n v1 v2 v3 m := by
  intro n
  induction n with
  | zero => intro v1 v2 v3 m; unfold wp_X10_lost_17; exact id
  | succ n ih =>
    intro v1 v2 v3 m
    unfold wp_X10_lost_17
    exact (mn_and (mn_imp (hK4 _ _ _)) (mn_imp (mn_and (mn_imp (ih _ _ _ _)) (mn_imp (mn_X0_follow (fun _ _ => (mn_and (mn_imp (ih _ _ _ _)) (mn_imp (ih _ _ _ _)))))))))
theorem mn_X10_lost_4 {post post' : Int → Mem → Prop} (hpost : ∀ (x0 : Int) (x1 : Mem), post x0 x1 → post' x0 x1) : ∀ (n : Nat) (v1 : Int) (v2 : Int) (m : Mem), wp_X10_lost_4 post n v1 v2 m → wp_X10_lost_4 post' n v1 v2 m := by
  intro n
  induction n with
  | zero => intro v1 v2 m; unfold wp_X10_lost_4; exact id
  | succ n ih =>
    intro v1 v2 m
    unfold wp_X10_lost_4
    exact (mn_and (mn_imp (hpost _ _)) (mn_imp (mn_ex (fun _ => (mn_X10_lost_17 (fun _ _ _ => (ih _ _ _)) hpost _ _ _ _ _)))))
theorem mn_X10_lost {m : Mem} {post post' : Int → Mem → Prop} (hpost : ∀ (x0 : Int) (x1 : Mem), post x0 x1 → post' x0 x1) : wp_X10_lost m post → wp_X10_lost m post' := by
  unfold wp_X10_lost
  exact (mn_ex (fun _ => (mn_X10_lost_4 hpost _ _ _ _)))
theorem mn_X10_train_50 {v1 : Int} {v2 : Int} {v3 : Int} {v4 : Int} {v5 : Int} {v6 : Int} {m : Mem} {post post' : Int → Mem → Prop} (hpost : ∀ (x0 : Int) (x1 : Mem), post x0 x1 → post' x0 x1) : wp_X10_train_50 v1 v2 v3 v4 v5 v6 m post → wp_X10_train_50 v1 v2 v3 v4 v5 v6 m post' := by
  unfold wp_X10_train_50
  exact (mn_and (mn_imp (hpost _ _)) (mn_imp (mn_and (mn_imp (hpost _ _)) (mn_imp (mn_and (mn_imp (hpost _ _)) (mn_imp (mn_and (mn_imp (mn_and (mn_imp (hpost _ _)) (mn_imp (mn_and (mn_imp (hpost _ _)) (mn_imp (mn_and (mn_imp (hpost _ _)) (mn_imp (mn_and (mn_imp (mn_and (mn_imp (mn_X8_add (fun _ _ => (mn_X8_serve (fun _ => (hpost _ _)))))) (mn_imp (hpost _ _)))) (mn_imp (hpost _ _)))))))))) (mn_imp (hpost _ _)))))))))
theorem mn_X10_train_30 {v1 : Int} {v2 : Int} {v3 : Int} {v4 : Int} {v5 : Int} {v6 : Int} {m : Mem} {post post' : Int → Mem → Prop} (hpost : ∀ (x0 : Int) (x1 : Mem), post x0 x1 → post' x0 x1) : wp_X10_train_30 v1 v2 v3 v4 v5 v6 m post → wp_X10_train_30 v1 v2 v3 v4 v5 v6 m post' := by
  unfold wp_X10_train_30
  exact (mn_and (mn_imp (mn_X10_train_50 hpost)) (mn_imp (mn_X0_madeAlike (fun _ _ => (mn_and (mn_imp (mn_X10_train_50 hpost)) (mn_imp (hpost _ _)))))))
theorem mn_X10_train {v1 : Int} {v2 : Int} {v3 : Int} {v4 : Int} {v5 : Int} {v6 : Int} {m : Mem} {post post' : Int → Mem → Prop} (hpost : ∀ (x0 : Int) (x1 : Mem), post x0 x1 → post' x0 x1) : wp_X10_train v1 v2 v3 v4 v5 v6 m post → wp_X10_train v1 v2 v3 v4 v5 v6 m post' := by
  unfold wp_X10_train
  exact (mn_X0_has (fun _ _ => (mn_and (mn_imp (hpost _ _)) (mn_imp (mn_and (mn_imp (mn_X10_train_30 hpost)) (mn_imp (mn_X0_has (fun _ _ => (mn_and (mn_imp (mn_X10_train_30 hpost)) (mn_imp (hpost _ _)))))))))))
theorem mn_X10_wagon {v1 : Int} {v2 : Int} {m : Mem} {post post' : Int → Mem → Prop} (hpost : ∀ (x0 : Int) (x1 : Mem), post x0 x1 → post' x0 x1) : wp_X10_wagon v1 v2 m post → wp_X10_wagon v1 v2 m post' := by
  unfold wp_X10_wagon
  exact (mn_X3_hasPair (fun _ _ => (mn_and (mn_imp (mn_and (mn_imp (mn_X9_add (fun _ _ => (hpost _ _)))) (mn_imp (hpost _ _)))) (mn_imp (hpost _ _)))))
theorem mn_X10_sorting {v1 : Int} {m : Mem} {post post' : Int → Mem → Prop} (hpost : ∀ (x0 : Int) (x1 : Mem), post x0 x1 → post' x0 x1) : wp_X10_sorting v1 m post → wp_X10_sorting v1 m post' := by
  unfold wp_X10_sorting
  exact (mn_and (mn_imp (hpost _ _)) (mn_imp (mn_and (mn_imp (mn_all (fun _ => (mn_imp (mn_all (fun _ => (mn_imp (hpost _ _)))))))) (mn_imp (hpost _ _)))))
theorem mn_X10_close_54 {v1 : Int} {v2 : Int} {v3 : Int} {m : Mem} {post post' : Int → Mem → Prop} (hpost : ∀ (x0 : Int) (x1 : Mem), post x0 x1 → post' x0 x1) : wp_X10_close_54 v1 v2 v3 m post → wp_X10_close_54 v1 v2 v3 m post' := by
  unfold wp_X10_close_54
  exact (mn_and id (mn_all (fun _ => (mn_imp (mn_and id (mn_all (fun _ => (mn_imp (hpost _ _)))))))))
theorem mn_X10_close_29 {v1 : Int} {v2 : Int} {v3 : Int} {s0 : Int} {m : Mem} {post post' : Int → Mem → Prop} (hpost : ∀ (x0 : Int) (x1 : Mem), post x0 x1 → post' x0 x1) : wp_X10_close_29 v1 v2 v3 s0 m post → wp_X10_close_29 v1 v2 v3 s0 m post' := by
  unfold wp_X10_close_29
  exact (mn_and (mn_imp (mn_X10_close_54 hpost)) (mn_imp (mn_and (mn_imp (hpost _ _)) (mn_imp (mn_and (mn_imp (hpost _ _)) (mn_imp (mn_and (mn_imp (mn_X10_close_54 hpost)) (mn_imp (hpost _ _)))))))))
theorem mn_X10_close_28 {v1 : Int} {v2 : Int} {v3 : Int} {m : Mem} {post post' : Int → Mem → Prop} (hpost : ∀ (x0 : Int) (x1 : Mem), post x0 x1 → post' x0 x1) : wp_X10_close_28 v1 v2 v3 m post → wp_X10_close_28 v1 v2 v3 m post' := by
  unfold wp_X10_close_28
  exact (mn_X10_close_29 hpost)
theorem mn_X10_close {v1 : Int} {v2 : Int} {v3 : Int} {m : Mem} {post post' : Int → Mem → Prop} (hpost : ∀ (x0 : Int) (x1 : Mem), post x0 x1 → post' x0 x1) : wp_X10_close v1 v2 v3 m post → wp_X10_close v1 v2 v3 m post' := by
  unfold wp_X10_close
  exact (mn_X3_has (fun _ _ => (mn_and (mn_imp (mn_and (mn_imp (mn_X10_close_28 hpost)) (mn_imp (mn_and (mn_imp (mn_X10_close_28 hpost)) (mn_imp (mn_X10_close_29 hpost)))))) (mn_imp (hpost _ _)))))
theorem mn_X10_pass_35 {post post' : Int → Mem → Prop} (hpost : ∀ (x0 : Int) (x1 : Mem), post x0 x1 → post' x0 x1) : ∀ (n : Nat) (v1 : Int) (v2 : Int) (m : Mem), wp_X10_pass_35 post n v1 v2 m → wp_X10_pass_35 post' n v1 v2 m := by
  intro n
  induction n with
  | zero => intro v1 v2 m; unfold wp_X10_pass_35; exact id
  | succ n ih =>
    intro v1 v2 m
    unfold wp_X10_pass_35
    exact (mn_and (mn_imp (hpost _ _)) (mn_imp (mn_X9_passHour (fun _ => (ih _ _ _)))))
theorem mn_X10_pass {v1 : Int} {m : Mem} {post post' : Int → Mem → Prop} (hpost : ∀ (x0 : Int) (x1 : Mem), post x0 x1 → post' x0 x1) : wp_X10_pass v1 m post → wp_X10_pass v1 m post' := by
  unfold wp_X10_pass
  exact (mn_and (mn_imp (hpost _ _)) (mn_imp (mn_and (mn_imp (mn_and (mn_imp (mn_ex (fun _ => (mn_X10_pass_35 hpost _ _ _ _)))) (mn_imp (hpost _ _)))) (mn_imp (hpost _ _)))))
theorem mn_X10_wagonIs {v1 : Int} {v2 : Int} {m : Mem} {post post' : Int → Mem → Prop} (hpost : ∀ (x0 : Int) (x1 : Mem), post x0 x1 → post' x0 x1) : wp_X10_wagonIs v1 v2 m post → wp_X10_wagonIs v1 v2 m post' := by
  unfold wp_X10_wagonIs
  exact (mn_X9_has (fun _ _ => (mn_and (mn_imp (mn_and (mn_imp (hpost _ _)) (mn_imp (mn_and (mn_imp (mn_X9_tell (fun _ _ => (hpost _ _)))) (mn_imp (hpost _ _)))))) (mn_imp (hpost _ _)))))
theorem mn_X10_trainIs {v1 : Int} {v2 : Int} {m : Mem} {post post' : Int → Mem → Prop} (hpost : ∀ (x0 : Int) (x1 : Mem), post x0 x1 → post' x0 x1) : wp_X10_trainIs v1 v2 m post → wp_X10_trainIs v1 v2 m post' := by
  unfold wp_X10_trainIs
  exact (mn_X8_has (fun _ _ => (mn_and (mn_imp (mn_and (mn_imp (hpost _ _)) (mn_imp (mn_and (mn_imp (mn_X8_tell (fun _ _ => (hpost _ _)))) (mn_imp (hpost _ _)))))) (mn_imp (hpost _ _)))))
theorem mn_X10_yard {v1 : Int} {v2 : Int} {m : Mem} {post post' : Int → Mem → Prop} (hpost : ∀ (x0 : Int) (x1 : Mem), post x0 x1 → post' x0 x1) : wp_X10_yard v1 v2 m post → wp_X10_yard v1 v2 m post' := by
  unfold wp_X10_yard
  exact (mn_X3_has (fun _ _ => (mn_and (mn_imp (mn_and (mn_imp (hpost _ _)) (mn_imp (mn_and (mn_imp (mn_and (mn_imp (mn_X9_standingAt (fun _ _ => (hpost _ _)))) (mn_imp (mn_X9_standingAt (fun _ _ => (hpost _ _)))))) (mn_imp (hpost _ _)))))) (mn_imp (hpost _ _)))))
theorem mn_X10_rest {v1 : Int} {m : Mem} {post post' : Int → Mem → Prop} (hpost : ∀ (x0 : Int) (x1 : Mem), post x0 x1 → post' x0 x1) : wp_X10_rest v1 m post → wp_X10_rest v1 m post' := by
  unfold wp_X10_rest
  exact (mn_and (mn_imp (hpost _ _)) (mn_imp (mn_and (mn_imp (mn_all (fun _ => (mn_imp (mn_all (fun _ => (mn_imp (hpost _ _)))))))) (mn_imp (hpost _ _)))))
theorem mn_X10_crews {v1 : Int} {m : Mem} {post post' : Int → Mem → Prop} (hpost : ∀ (x0 : Int) (x1 : Mem), post x0 x1 → post' x0 x1) : wp_X10_crews v1 m post → wp_X10_crews v1 m post' := by
  unfold wp_X10_crews
  exact (mn_and (mn_imp (hpost _ _)) (mn_imp (mn_and (mn_imp (mn_and (mn_imp (mn_and (mn_imp (mn_X8_dutyHours (fun _ _ => (hpost _ _)))) (mn_imp (mn_X8_fewestCrews (fun _ _ => (hpost _ _)))))) (mn_imp (mn_X8_duties (fun _ _ => (hpost _ _)))))) (mn_imp (hpost _ _)))))
theorem mn_X10_drive {m : Mem} {post post' : Int → Mem → Prop} (hpost : ∀ (x0 : Int) (x1 : Mem), post x0 x1 → post' x0 x1) : wp_X10_drive m post → wp_X10_drive m post' := by
  unfold wp_X10_drive
  exact (mn_all (fun _ => (mn_imp (mn_all (fun _ => (mn_imp (hpost _ _)))))))
theorem mn_X10_roll {v1 : Int} {m : Mem} {post post' : Int → Mem → Prop} (hpost : ∀ (x0 : Int) (x1 : Mem), post x0 x1 → post' x0 x1) : wp_X10_roll v1 m post → wp_X10_roll v1 m post' := by
  unfold wp_X10_roll
  exact (mn_and (mn_imp (hpost _ _)) (mn_imp (mn_and (mn_imp (mn_and (mn_imp (mn_X7_add (fun _ => (hpost _ _)))) (mn_imp (hpost _ _)))) (mn_imp (hpost _ _)))))
theorem mn_X10_number {v1 : Int} {m : Mem} {post post' : Int → Mem → Prop} (hpost : ∀ (x0 : Int) (x1 : Mem), post x0 x1 → post' x0 x1) : wp_X10_number v1 m post → wp_X10_number v1 m post' := by
  unfold wp_X10_number
  exact (mn_X7_has (fun _ _ => (mn_and (mn_imp (mn_X7_giveNumbers (fun _ => (mn_and id (hpost _ _))))) (mn_imp (hpost _ _)))))
theorem mn_X10_steps {v1 : Int} {m : Mem} {post post' : Int → Mem → Prop} (hpost : ∀ (x0 : Int) (x1 : Mem), post x0 x1 → post' x0 x1) : wp_X10_steps v1 m post → wp_X10_steps v1 m post' := by
  unfold wp_X10_steps
  exact (mn_and (mn_imp (hpost _ _)) (mn_imp (mn_and (mn_imp (mn_and (mn_imp (mn_X7_giveNumbers (fun _ => (mn_X7_stepsBy (fun _ _ => (hpost _ _)))))) (mn_imp (hpost _ _)))) (mn_imp (hpost _ _)))))
theorem mn_X10_stands {v1 : Int} {v2 : Int} {v3 : Int} {m : Mem} {post post' : Int → Mem → Prop} (hpost : ∀ (x0 : Int) (x1 : Mem), post x0 x1 → post' x0 x1) : wp_X10_stands v1 v2 v3 m post → wp_X10_stands v1 v2 v3 m post' := by
  unfold wp_X10_stands
  exact (mn_X7_has (fun _ _ => (mn_and (mn_imp (mn_and (mn_imp (hpost _ _)) (mn_imp (mn_and (mn_imp (hpost _ _)) (mn_imp (mn_and (mn_imp (mn_X7_giveNumbers (fun _ => (mn_X7_stepsBy (fun _ _ => (mn_and (mn_imp (mn_X7_sortBy (fun _ => (mn_and id (hpost _ _))))) (mn_imp (hpost _ _)))))))) (mn_imp (hpost _ _)))))))) (mn_imp (hpost _ _)))))
theorem mn_X10_load {v1 : Int} {v2 : Int} {v3 : Int} {m : Mem} {post post' : Int → Mem → Prop} (hpost : ∀ (x0 : Int) (x1 : Mem), post x0 x1 → post' x0 x1) : wp_X10_load v1 v2 v3 m post → wp_X10_load v1 v2 v3 m post' := by
  unfold wp_X10_load
  exact (mn_X3_hasPair (fun _ _ => (mn_and (mn_imp (mn_and (mn_imp (hpost _ _)) (mn_imp (mn_and (mn_imp (mn_X5_forget (fun _ => (mn_and id (mn_all (fun _ => (mn_imp (mn_and id (mn_all (fun _ => (mn_imp (hpost _ _)))))))))))) (mn_imp (hpost _ _)))))) (mn_imp (hpost _ _)))))
theorem mn_X10_tracks {v1 : Int} {v2 : Int} {m : Mem} {post post' : Int → Mem → Prop} (hpost : ∀ (x0 : Int) (x1 : Mem), post x0 x1 → post' x0 x1) : wp_X10_tracks v1 v2 m post → wp_X10_tracks v1 v2 m post' := by
  unfold wp_X10_tracks
  exact (mn_X3_has (fun _ _ => (mn_and (mn_imp (mn_and (mn_imp (hpost _ _)) (mn_imp (mn_and (mn_imp (mn_X5_forget (fun _ => (mn_and id (mn_all (fun _ => (mn_imp (mn_and id (mn_all (fun _ => (mn_imp (hpost _ _)))))))))))) (mn_imp (hpost _ _)))))) (mn_imp (hpost _ _)))))
theorem mn_X10_price {v1 : Int} {v2 : Int} {m : Mem} {post post' : Int → Mem → Prop} (hpost : ∀ (x0 : Int) (x1 : Mem), post x0 x1 → post' x0 x1) : wp_X10_price v1 v2 m post → wp_X10_price v1 v2 m post' := by
  unfold wp_X10_price
  exact (mn_and (mn_imp (hpost _ _)) (mn_imp (mn_and (mn_imp (mn_and (mn_imp (hpost _ _)) (mn_imp (mn_and (mn_imp (mn_and (mn_imp (mn_X5_forget (fun _ => (mn_all (fun _ => (mn_imp (mn_all (fun _ => (mn_imp (hpost _ _)))))))))) (mn_imp (mn_all (fun _ => (mn_imp (mn_all (fun _ => (mn_imp (hpost _ _)))))))))) (mn_imp (hpost _ _)))))) (mn_imp (hpost _ _)))))
theorem mn_X10_cost {v1 : Int} {m : Mem} {post post' : Int → Mem → Prop} (hpost : ∀ (x0 : Int) (x1 : Mem), post x0 x1 → post' x0 x1) : wp_X10_cost v1 m post → wp_X10_cost v1 m post' := by
  unfold wp_X10_cost
  exact (mn_X5_allows (fun _ _ => (mn_and (mn_imp (hpost _ _)) (mn_imp (mn_X5_costOf (fun _ _ => (hpost _ _)))))))
theorem mn_X10_net {v1 : Int} {m : Mem} {post post' : Int → Mem → Prop} (hpost : ∀ (x0 : Int) (x1 : Mem), post x0 x1 → post' x0 x1) : wp_X10_net v1 m post → wp_X10_net v1 m post' := by
  unfold wp_X10_net
  exact (mn_and (mn_imp (hpost _ _)) (mn_imp (mn_and (mn_imp (mn_and (mn_imp (mn_and (mn_imp (mn_X5_findBest (fun _ => (mn_and (mn_imp (hpost _ _)) (mn_imp (hpost _ _)))))) (mn_imp (hpost _ _)))) (mn_imp (mn_X5_fullNet (fun _ _ => (mn_X5_costOf (fun _ _ => (hpost _ _)))))))) (mn_imp (hpost _ _)))))
theorem mn_X10_empties {v1 : Int} {v2 : Int} {v3 : Int} {m : Mem} {post post' : Int → Mem → Prop} (hpost : ∀ (x0 : Int) (x1 : Mem), post x0 x1 → post' x0 x1) : wp_X10_empties v1 v2 v3 m post → wp_X10_empties v1 v2 v3 m post' := by
  unfold wp_X10_empties
  exact (mn_X3_has (fun _ _ => (mn_and (mn_imp (hpost _ _)) (mn_imp (mn_and (mn_imp (hpost _ _)) (mn_imp (mn_and (mn_imp (mn_and (mn_imp (hpost _ _)) (mn_imp (mn_and (mn_imp (mn_and id (mn_all (fun _ => (mn_imp (mn_and id (mn_all (fun _ => (mn_imp (hpost _ _)))))))))) (mn_imp (hpost _ _)))))) (mn_imp (hpost _ _)))))))))
theorem mn_X10_least {m : Mem} {post post' : Int → Mem → Prop} (hpost : ∀ (x0 : Int) (x1 : Mem), post x0 x1 → post' x0 x1) : wp_X10_least m post → wp_X10_least m post' := by
  unfold wp_X10_least
  exact (mn_X2_leastPaid (fun _ _ => (hpost _ _)))
theorem mn_X10_leg {v1 : Int} {v2 : Int} {m : Mem} {post post' : Int → Mem → Prop} (hpost : ∀ (x0 : Int) (x1 : Mem), post x0 x1 → post' x0 x1) : wp_X10_leg v1 v2 m post → wp_X10_leg v1 v2 m post' := by
  unfold wp_X10_leg
  exact (mn_and (mn_imp (hpost _ _)) (mn_imp (mn_and (mn_imp (hpost _ _)) (mn_imp (mn_and (mn_imp (hpost _ _)) (mn_imp (mn_and (mn_imp (mn_and (mn_imp (mn_X4_add (fun _ => (hpost _ _)))) (mn_imp (hpost _ _)))) (mn_imp (hpost _ _)))))))))
theorem mn_X10_stay {m : Mem} {post post' : Int → Mem → Prop} (hpost : ∀ (x0 : Int) (x1 : Mem), post x0 x1 → post' x0 x1) : wp_X10_stay m post → wp_X10_stay m post' := by
  unfold wp_X10_stay
  exact (mn_all (fun _ => (mn_imp (mn_all (fun _ => (mn_imp (hpost _ _)))))))
theorem mn_X10_share {v1 : Int} {v2 : Int} {m : Mem} {post post' : Int → Mem → Prop} (hpost : ∀ (x0 : Int) (x1 : Mem), post x0 x1 → post' x0 x1) : wp_X10_share v1 v2 m post → wp_X10_share v1 v2 m post' := by
  unfold wp_X10_share
  exact (mn_and (mn_imp (hpost _ _)) (mn_imp (mn_and (mn_imp (hpost _ _)) (mn_imp (mn_and (mn_imp (hpost _ _)) (mn_imp (mn_and (mn_imp (mn_X4_shareWithin (fun _ => (mn_and (mn_imp (hpost _ _)) (mn_imp (hpost _ _)))))) (mn_imp (hpost _ _)))))))))
theorem mn_X10_promise {v1 : Int} {m : Mem} {post post' : Int → Mem → Prop} (hpost : ∀ (x0 : Int) (x1 : Mem), post x0 x1 → post' x0 x1) : wp_X10_promise v1 m post → wp_X10_promise v1 m post' := by
  unfold wp_X10_promise
  exact (mn_and (mn_imp (hpost _ _)) (mn_imp (mn_and (mn_imp (mn_X4_hoursFor (fun _ _ => (hpost _ _)))) (mn_imp (hpost _ _)))))
theorem mn_X10_change_33 {v1 : Int} {v2 : Int} {m : Mem} {post post' : Int → Mem → Prop} (hpost : ∀ (x0 : Int) (x1 : Mem), post x0 x1 → post' x0 x1) : wp_X10_change_33 v1 v2 m post → wp_X10_change_33 v1 v2 m post' := by
  unfold wp_X10_change_33
  exact (mn_and (mn_imp (hpost _ _)) (mn_imp (mn_X1_gather (fun _ _ => (mn_and (mn_imp (mn_all (fun _ => (mn_imp (mn_X1_seek (fun _ => (mn_and (mn_imp (hpost _ _)) (mn_imp (mn_and (mn_imp (mn_X0_has (fun _ _ => (mn_and (mn_imp (hpost _ _)) (mn_imp (mn_and id (hpost _ _))))))) (mn_imp (hpost _ _))))))))))) (mn_imp (hpost _ _)))))))
theorem mn_X10_change {v1 : Int} {v2 : Int} {m : Mem} {post post' : Int → Mem → Prop} (hpost : ∀ (x0 : Int) (x1 : Mem), post x0 x1 → post' x0 x1) : wp_X10_change v1 v2 m post → wp_X10_change v1 v2 m post' := by
  unfold wp_X10_change
  exact (mn_X3_has (fun _ _ => (mn_and (mn_imp (mn_and (mn_imp (mn_X10_change_33 hpost)) (mn_imp (mn_and (mn_imp (hpost _ _)) (mn_imp (mn_and (mn_imp (mn_X10_change_33 hpost)) (mn_imp (hpost _ _)))))))) (mn_imp (hpost _ _)))))
theorem mn_X10_count {v1 : Int} {m : Mem} {post post' : Int → Mem → Prop} (hpost : ∀ (x0 : Int) (x1 : Mem), post x0 x1 → post' x0 x1) : wp_X10_count v1 m post → wp_X10_count v1 m post' := by
  unfold wp_X10_count
  exact (mn_and (mn_imp (hpost _ _)) (mn_and (mn_imp (hpost _ _)) (mn_and (mn_imp (hpost _ _)) (mn_and (mn_imp (hpost _ _)) (mn_and (mn_imp (hpost _ _)) (mn_and (mn_imp (mn_X9_doneMany (fun _ _ => (hpost _ _)))) (mn_and (mn_imp (mn_X9_runningMany (fun _ _ => (hpost _ _)))) (mn_and (mn_imp (hpost _ _)) (mn_and (mn_imp (hpost _ _)) (mn_and (mn_imp (hpost _ _)) (mn_and (mn_imp (hpost _ _)) (mn_imp (hpost _ _)))))))))))))
theorem mn_X10_digest {m : Mem} {post post' : Int → Mem → Prop} (hpost : ∀ (x0 : Int) (x1 : Mem), post x0 x1 → post' x0 x1) : wp_X10_digest m post → wp_X10_digest m post' := by
  unfold wp_X10_digest
  exact (mn_X3_digestOnto (fun _ _ => (mn_X0_digestOnto (fun _ _ => (mn_X8_digestOnto (fun _ _ => (mn_X9_digestOnto (fun _ _ => (mn_X7_digestOnto (fun _ _ => (mn_X5_digestOnto (fun _ _ => (mn_X2_digestOnto (fun _ _ => (mn_X4_digestOnto (fun _ _ => (mn_X6_digestOnto (fun _ _ => (hpost _ _)))))))))))))))))))
theorem mn_X11_in {v0 : Int} {v1 : Int} {v2 : Int} {m : Mem} {post post' : Int → Mem → Prop} (hpost : ∀ (x0 : Int) (x1 : Mem), post x0 x1 → post' x0 x1) : wp_X11_in v0 v1 v2 m post → wp_X11_in v0 v1 v2 m post' := by
  unfold wp_X11_in
  exact (mn_and (mn_imp (hpost _ _)) (mn_imp (mn_and (mn_imp (hpost _ _)) (mn_imp (hpost _ _)))))
theorem mn_X11_isYard {v1 : Int} {m : Mem} {post post' : Int → Mem → Prop} (hpost : ∀ (x0 : Int) (x1 : Mem), post x0 x1 → post' x0 x1) : wp_X11_isYard v1 m post → wp_X11_isYard v1 m post' := by
  unfold wp_X11_isYard
  exact (mn_X11_in (fun _ _ => (mn_and id (hpost _ _))))
theorem mn_X11_begin_35 {v2 : Int} {s0 : Int} {s1 : Int} {m : Mem} {K7 K7' : Int → Mem → Prop} {post post' : Mem → Prop} (hK7 : ∀ (x0 : Int) (x1 : Mem), K7 x0 x1 → K7' x0 x1) (hpost : ∀ (x0 : Mem), post x0 → post' x0) : wp_X11_begin_35 v2 s0 s1 m K7 post → wp_X11_begin_35 v2 s0 s1 m K7' post' := by
  unfold wp_X11_begin_35
  exact (mn_and id (mn_all (fun _ => (mn_imp (mn_and id (mn_all (fun _ => (mn_imp (hK7 _ _)))))))))
theorem mn_X11_begin_7 {K51 K51' : Int → Mem → Prop} {post post' : Mem → Prop} (hK51 : ∀ (x0 : Int) (x1 : Mem), K51 x0 x1 → K51' x0 x1) (hpost : ∀ (x0 : Mem), post x0 → post' x0) : ∀ (n : Nat) (v2 : Int) (m : Mem), wp_X11_begin_7 K51 post n v2 m → wp_X11_begin_7 K51' post' n v2 m := by
  intro n
  induction n with
  | zero => intro v2 m; unfold wp_X11_begin_7; exact id
  | succ n ih =>
    intro v2 m
    unfold wp_X11_begin_7
    exact (mn_and (mn_imp (hK51 _ _)) (mn_imp (mn_and (mn_imp (mn_X11_begin_35 (fun _ _ => (ih _ _)) hpost)) (mn_imp (mn_X11_begin_35 (fun _ _ => (ih _ _)) hpost)))))
theorem mn_X11_begin_51 {K86 K86' : Int → Mem → Prop} {post post' : Mem → Prop} (hK86 : ∀ (x0 : Int) (x1 : Mem), K86 x0 x1 → K86' x0 x1) (hpost : ∀ (x0 : Mem), post x0 → post' x0) : ∀ (n : Nat) (v2 : Int) (m : Mem), wp_X11_begin_51 K86 post n v2 m → wp_X11_begin_51 K86' post' n v2 m := by
  intro n
  induction n with
  | zero => intro v2 m; unfold wp_X11_begin_51; exact id
  | succ n ih =>
    intro v2 m
    unfold wp_X11_begin_51
    exact (mn_and (mn_imp (hK86 _ _)) (mn_imp (mn_and id (mn_all (fun _ => (mn_imp (mn_and id (mn_all (fun _ => (mn_imp (mn_and id (mn_all (fun _ => (mn_imp (ih _ _)))))))))))))))
theorem mn_X11_begin_86 {K105 K105' : Mem → Prop} {post post' : Mem → Prop} (hK105 : ∀ (x0 : Mem), K105 x0 → K105' x0) (hpost : ∀ (x0 : Mem), post x0 → post' x0) : ∀ (n : Nat) (v2 : Int) (m : Mem), wp_X11_begin_86 K105 post n v2 m → wp_X11_begin_86 K105' post' n v2 m := by
  intro n
  induction n with
  | zero => intro v2 m; unfold wp_X11_begin_86; exact id
  | succ n ih =>
    intro v2 m
    unfold wp_X11_begin_86
    exact (mn_and (mn_imp (hK105 _)) (mn_imp (mn_and id (mn_all (fun _ => (mn_imp (ih _ _)))))))
theorem mn_X11_begin {v1 : Int} {m : Mem} {post post' : Mem → Prop} (hpost : ∀ (x0 : Mem), post x0 → post' x0) : wp_X11_begin v1 m post → wp_X11_begin v1 m post' := by
  unfold wp_X11_begin
  exact (mn_all (fun _ => (mn_imp (mn_ex (fun _ => (mn_X11_begin_7 (fun _ _ => (mn_ex (fun _ => (mn_X11_begin_51 (fun _ _ => (mn_ex (fun _ => (mn_X11_begin_86 (fun _ => (mn_all (fun _ => (mn_imp (mn_all (fun _ => (mn_imp (mn_all (fun _ => (mn_imp (mn_all (fun _ => (mn_imp (mn_all (fun _ => (mn_imp (mn_all (fun _ => (mn_imp (mn_all (fun _ => (mn_imp (mn_all (fun _ => (mn_imp (mn_all (fun _ => (mn_imp (mn_all (fun _ => (mn_imp (mn_all (fun _ => (mn_imp (mn_all (fun _ => (mn_imp (hpost _)))))))))))))))))))))))))))))))))))))) hpost _ _ _)))) hpost _ _ _)))) hpost _ _ _))))))
theorem mn_X11_land {v1 : Int} {m : Mem} {post post' : Int → Mem → Prop} (hpost : ∀ (x0 : Int) (x1 : Mem), post x0 x1 → post' x0 x1) : wp_X11_land v1 m post → wp_X11_land v1 m post' := by
  unfold wp_X11_land
  exact (mn_X11_in (fun _ _ => (mn_and (mn_imp (mn_X11_begin (fun _ => (hpost _ _)))) (mn_imp (hpost _ _)))))
theorem mn_X11_miles {v1 : Int} {v2 : Int} {v3 : Int} {m : Mem} {post post' : Int → Mem → Prop} (hpost : ∀ (x0 : Int) (x1 : Mem), post x0 x1 → post' x0 x1) : wp_X11_miles v1 v2 v3 m post → wp_X11_miles v1 v2 v3 m post' := by
  unfold wp_X11_miles
  exact (mn_X11_isYard (fun _ _ => (mn_and (mn_imp (hpost _ _)) (mn_imp (mn_X11_isYard (fun _ _ => (mn_and (mn_imp (hpost _ _)) (mn_imp (mn_and (mn_imp (mn_X11_in (fun _ _ => (mn_and (mn_imp (mn_and id (mn_all (fun _ => (mn_imp (mn_and id (mn_all (fun _ => (mn_imp (mn_and id (mn_all (fun _ => (mn_imp (hpost _ _)))))))))))))) (mn_imp (hpost _ _)))))) (mn_imp (hpost _ _)))))))))))
theorem mn_X11_spread_3 {K51 K51' : Int → Mem → Prop} {post post' : Mem → Prop} (hK51 : ∀ (x0 : Int) (x1 : Mem), K51 x0 x1 → K51' x0 x1) (hpost : ∀ (x0 : Mem), post x0 → post' x0) : ∀ (n : Nat) (v1 : Int) (v3 : Int) (v4 : Int) (m : Mem), wp_X11_spread_3 K51 post n v1 v3 v4 m → wp_X11_spread_3 K51' post' n v1 v3 v4 m := by
  intro n
  induction n with
  | zero => intro v1 v3 v4 m; unfold wp_X11_spread_3; exact id
  | succ n ih =>
    intro v1 v3 v4 m
    unfold wp_X11_spread_3
    exact (mn_and (mn_imp (hK51 _ _)) (mn_imp (mn_and (mn_imp (mn_and id (mn_all (fun _ => (mn_imp (ih _ _ _ _)))))) (mn_imp (mn_and id (mn_and id (mn_all (fun _ => (mn_imp (ih _ _ _ _))))))))))
theorem mn_X11_spread_51 {K80 K80' : Int → Mem → Prop} {post post' : Mem → Prop} (hK80 : ∀ (x0 : Int) (x1 : Mem), K80 x0 x1 → K80' x0 x1) (hpost : ∀ (x0 : Mem), post x0 → post' x0) : ∀ (n : Nat) (v4 : Int) (m : Mem), wp_X11_spread_51 K80 post n v4 m → wp_X11_spread_51 K80' post' n v4 m := by
  intro n
  induction n with
  | zero => intro v4 m; unfold wp_X11_spread_51; exact id
  | succ n ih =>
    intro v4 m
    unfold wp_X11_spread_51
    exact (mn_and (mn_imp (hK80 _ _)) (mn_imp (mn_and id (mn_all (fun _ => (mn_imp (ih _ _)))))))
theorem mn_X11_spread_104 {K92 K92' : Int → Int → Mem → Prop} {post post' : Mem → Prop} (hK92 : ∀ (x0 : Int) (x1 : Int) (x2 : Mem), K92 x0 x1 x2 → K92' x0 x1 x2) (hpost : ∀ (x0 : Mem), post x0 → post' x0) : ∀ (n : Nat) (v4 : Int) (v5 : Int) (v6 : Int) (m : Mem), wp_X11_spread_104 K92 post n v4 v5 v6 m → wp_X11_spread_104 K92' post' n v4 v5 v6 m := by
  intro n
  induction n with
  | zero => intro v4 v5 v6 m; unfold wp_X11_spread_104; exact id
  | succ n ih =>
    intro v4 v5 v6 m
    unfold wp_X11_spread_104
    exact (mn_and (mn_imp (hK92 _ _ _)) (mn_imp (mn_and id (mn_and id (mn_all (fun _ => (mn_imp (mn_and id (mn_and (mn_imp (mn_and id (mn_and id (mn_all (fun _ => (mn_imp (ih _ _ _ _))))))) (mn_imp (mn_and id (mn_all (fun _ => (mn_imp (ih _ _ _ _)))))))))))))))
theorem mn_X11_spread_92 {K80 K80' : Int → Mem → Prop} {post post' : Mem → Prop} (hK80 : ∀ (x0 : Int) (x1 : Mem), K80 x0 x1 → K80' x0 x1) (hpost : ∀ (x0 : Mem), post x0 → post' x0) : ∀ (n : Nat) (v4 : Int) (v5 : Int) (m : Mem), wp_X11_spread_92 K80 post n v4 v5 m → wp_X11_spread_92 K80' post' n v4 v5 m := by
  intro n
  induction n with
  | zero => intro v4 v5 m; unfold wp_X11_spread_92; exact id
  | succ n ih =>
    intro v4 v5 m
    unfold wp_X11_spread_92
    exact (mn_and (mn_imp (hK80 _ _)) (mn_imp (mn_ex (fun _ => (mn_X11_spread_104 (fun _ _ _ => (ih _ _ _)) hpost _ _ _ _ _)))))
theorem mn_X11_spread_80 {post post' : Mem → Prop} (hpost : ∀ (x0 : Mem), post x0 → post' x0) : ∀ (n : Nat) (v4 : Int) (m : Mem), wp_X11_spread_80 post n v4 m → wp_X11_spread_80 post' n v4 m := by
  intro n
  induction n with
  | zero => intro v4 m; unfold wp_X11_spread_80; exact id
  | succ n ih =>
    intro v4 m
    unfold wp_X11_spread_80
    exact (mn_and (mn_imp (hpost _)) (mn_imp (mn_ex (fun _ => (mn_X11_spread_92 (fun _ _ => (ih _ _)) hpost _ _ _ _)))))
theorem mn_X11_spread {v1 : Int} {v3 : Int} {m : Mem} {post post' : Mem → Prop} (hpost : ∀ (x0 : Mem), post x0 → post' x0) : wp_X11_spread v1 v3 m post → wp_X11_spread v1 v3 m post' := by
  unfold wp_X11_spread
  exact (mn_ex (fun _ => (mn_X11_spread_3 (fun _ _ => (mn_ex (fun _ => (mn_X11_spread_51 (fun _ _ => (mn_ex (fun _ => (mn_X11_spread_80 hpost _ _ _)))) hpost _ _ _)))) hpost _ _ _ _ _)))
theorem mn_X11_allLines_15 {K4 K4' : Int → Int → Mem → Prop} {post post' : Int → Mem → Prop} (hK4 : ∀ (x0 : Int) (x1 : Int) (x2 : Mem), K4 x0 x1 x2 → K4' x0 x1 x2) (hpost : ∀ (x0 : Int) (x1 : Mem), post x0 x1 → post' x0 x1) : ∀ (n : Nat) (v1 : Int) (v3 : Int) (v4 : Int) (m : Mem), wp_X11_allLines_15 K4 post n v1 v3 v4 m → wp_X11_allLines_15 K4' post' n v1 v3 v4 m := by
  intro n
  induction n with
  | zero => intro v1 v3 v4 m; unfold wp_X11_allLines_15; exact id
  | succ n ih =>
    intro v1 v3 v4 m
    unfold wp_X11_allLines_15
    exact (mn_and (mn_imp (hK4 _ _ _)) (mn_imp (mn_and (mn_imp (mn_all (fun _ => (mn_imp (ih _ _ _ _))))) (mn_imp (mn_all (fun _ => (mn_imp (ih _ _ _ _))))))))
theorem mn_X11_allLines_4 {post post' : Int → Mem → Prop} (hpost : ∀ (x0 : Int) (x1 : Mem), post x0 x1 → post' x0 x1) : ∀ (n : Nat) (v1 : Int) (v3 : Int) (m : Mem), wp_X11_allLines_4 post n v1 v3 m → wp_X11_allLines_4 post' n v1 v3 m := by
  intro n
  induction n with
  | zero => intro v1 v3 m; unfold wp_X11_allLines_4; exact id
  | succ n ih =>
    intro v1 v3 m
    unfold wp_X11_allLines_4
    exact (mn_and (mn_imp (hpost _ _)) (mn_imp (mn_ex (fun _ => (mn_X11_allLines_15 (fun _ _ _ => (ih _ _ _)) hpost _ _ _ _ _)))))
theorem mn_X11_allLines {m : Mem} {post post' : Int → Mem → Prop} (hpost : ∀ (x0 : Int) (x1 : Mem), post x0 x1 → post' x0 x1) : wp_X11_allLines m post → wp_X11_allLines m post' := by
  unfold wp_X11_allLines
  exact (mn_ex (fun _ => (mn_X11_allLines_4 hpost _ _ _ _)))
theorem mn_X11_far {v1 : Int} {v2 : Int} {m : Mem} {post post' : Int → Mem → Prop} (hpost : ∀ (x0 : Int) (x1 : Mem), post x0 x1 → post' x0 x1) : wp_X11_far v1 v2 m post → wp_X11_far v1 v2 m post' := by
  unfold wp_X11_far
  exact (mn_X11_isYard (fun _ _ => (mn_and (mn_imp (hpost _ _)) (mn_imp (mn_X11_isYard (fun _ _ => (mn_and (mn_imp (mn_X11_allLines (fun _ _ => (mn_X11_spread (fun _ => (mn_and id (hpost _ _))))))) (mn_imp (hpost _ _)))))))))
theorem mn_X11_letters_64 {v1 : Int} {v3 : Int} {v5 : Int} {v6 : Int} {s0 : Int} {m : Mem} {K8 K8' : Int → Int → Int → Int → Mem → Prop} {post post' : Int → Mem → Prop} (hK8 : ∀ (x0 : Int) (x1 : Int) (x2 : Int) (x3 : Int) (x4 : Mem), K8 x0 x1 x2 x3 x4 → K8' x0 x1 x2 x3 x4) (hpost : ∀ (x0 : Int) (x1 : Mem), post x0 x1 → post' x0 x1) : wp_X11_letters_64 v1 v3 v5 v6 s0 m K8 post → wp_X11_letters_64 v1 v3 v5 v6 s0 m K8' post' := by
  unfold wp_X11_letters_64
  exact (mn_and (mn_imp (mn_all (fun _ => (mn_imp (hK8 _ _ _ _ _))))) (mn_imp (mn_all (fun _ => (mn_imp (hK8 _ _ _ _ _))))))
theorem mn_X11_letters_59 {v1 : Int} {v3 : Int} {v5 : Int} {v6 : Int} {m : Mem} {K8 K8' : Int → Int → Int → Int → Mem → Prop} {post post' : Int → Mem → Prop} (hK8 : ∀ (x0 : Int) (x1 : Int) (x2 : Int) (x3 : Int) (x4 : Mem), K8 x0 x1 x2 x3 x4 → K8' x0 x1 x2 x3 x4) (hpost : ∀ (x0 : Int) (x1 : Mem), post x0 x1 → post' x0 x1) : wp_X11_letters_59 v1 v3 v5 v6 m K8 post → wp_X11_letters_59 v1 v3 v5 v6 m K8' post' := by
  unfold wp_X11_letters_59
  exact (mn_X11_letters_64 (fun _ _ _ _ _ => (hK8 _ _ _ _ _)) hpost)
theorem mn_X11_letters_49 {v1 : Int} {v3 : Int} {v4 : Int} {v5 : Int} {v6 : Int} {m : Mem} {K8 K8' : Int → Int → Int → Int → Mem → Prop} {post post' : Int → Mem → Prop} (hK8 : ∀ (x0 : Int) (x1 : Int) (x2 : Int) (x3 : Int) (x4 : Mem), K8 x0 x1 x2 x3 x4 → K8' x0 x1 x2 x3 x4) (hpost : ∀ (x0 : Int) (x1 : Mem), post x0 x1 → post' x0 x1) : wp_X11_letters_49 v1 v3 v4 v5 v6 m K8 post → wp_X11_letters_49 v1 v3 v4 v5 v6 m K8' post' := by
  unfold wp_X11_letters_49
  exact (mn_and (mn_imp (mn_X11_letters_59 (fun _ _ _ _ _ => (hK8 _ _ _ _ _)) hpost)) (mn_imp (mn_and (mn_imp (mn_X11_letters_64 (fun _ _ _ _ _ => (hK8 _ _ _ _ _)) hpost)) (mn_imp (mn_X11_letters_59 (fun _ _ _ _ _ => (hK8 _ _ _ _ _)) hpost)))))
theorem mn_X11_letters_8 {K85 K85' : Int → Int → Mem → Prop} {post post' : Int → Mem → Prop} (hK85 : ∀ (x0 : Int) (x1 : Int) (x2 : Mem), K85 x0 x1 x2 → K85' x0 x1 x2) (hpost : ∀ (x0 : Int) (x1 : Mem), post x0 x1 → post' x0 x1) : ∀ (n : Nat) (v1 : Int) (v3 : Int) (v4 : Int) (v5 : Int) (m : Mem), wp_X11_letters_8 K85 post n v1 v3 v4 v5 m → wp_X11_letters_8 K85' post' n v1 v3 v4 v5 m := by
  intro n
  induction n with
  | zero => intro v1 v3 v4 v5 m; unfold wp_X11_letters_8; exact id
  | succ n ih =>
    intro v1 v3 v4 v5 m
    unfold wp_X11_letters_8
    exact (mn_and (mn_imp (hK85 _ _ _)) (mn_imp (mn_all (fun _ => (mn_imp (mn_and (mn_imp (hpost _ _)) (mn_imp (mn_and (mn_imp (mn_X11_letters_49 (fun _ _ _ _ _ => (ih _ _ _ _ _)) hpost)) (mn_imp (mn_and (mn_imp (mn_X11_letters_49 (fun _ _ _ _ _ => (ih _ _ _ _ _)) hpost)) (mn_imp (hpost _ _))))))))))))
theorem mn_X11_letters_102 {K135 K135' : Int → Mem → Prop} {post post' : Int → Mem → Prop} (hK135 : ∀ (x0 : Int) (x1 : Mem), K135 x0 x1 → K135' x0 x1) (hpost : ∀ (x0 : Int) (x1 : Mem), post x0 x1 → post' x0 x1) : ∀ (n : Nat) (v1 : Int) (v3 : Int) (v5 : Int) (m : Mem), wp_X11_letters_102 K135 post n v1 v3 v5 m → wp_X11_letters_102 K135' post' n v1 v3 v5 m := by
  intro n
  induction n with
  | zero => intro v1 v3 v5 m; unfold wp_X11_letters_102; exact id
  | succ n ih =>
    intro v1 v3 v5 m
    unfold wp_X11_letters_102
    exact (mn_and (mn_imp (hK135 _ _)) (mn_imp (mn_and id (mn_all (fun _ => (mn_imp (ih _ _ _ _)))))))
theorem mn_X11_letters {v1 : Int} {m : Mem} {post post' : Int → Mem → Prop} (hpost : ∀ (x0 : Int) (x1 : Mem), post x0 x1 → post' x0 x1) : wp_X11_letters v1 m post → wp_X11_letters v1 m post' := by
  unfold wp_X11_letters
  exact (mn_ex (fun _ => (mn_X11_letters_8 (fun _ _ _ => (mn_and (mn_imp (mn_ex (fun _ => (mn_X11_letters_102 (fun _ _ => (mn_all (fun _ => (mn_imp (hpost _ _))))) hpost _ _ _ _ _)))) (mn_imp (hpost _ _)))) hpost _ _ _ _ _ _)))
theorem mn_X11_blank {m : Mem} {post post' : Int → Mem → Prop} (hpost : ∀ (x0 : Int) (x1 : Mem), post x0 x1 → post' x0 x1) : wp_X11_blank m post → wp_X11_blank m post' := by
  unfold wp_X11_blank
  exact (mn_all (fun _ => (mn_imp (mn_all (fun _ => (mn_imp (hpost _ _)))))))
theorem mn_X11_readBlock_258 {v1 : Int} {v2 : Int} {v3 : Int} {m : Mem} {K16 K16' : Int → Int → Int → Mem → Prop} {post post' : Mem → Prop} (hK16 : ∀ (x0 : Int) (x1 : Int) (x2 : Int) (x3 : Mem), K16 x0 x1 x2 x3 → K16' x0 x1 x2 x3) (hpost : ∀ (x0 : Mem), post x0 → post' x0) : wp_X11_readBlock_258 v1 v2 v3 m K16 post → wp_X11_readBlock_258 v1 v2 v3 m K16' post' := by
  unfold wp_X11_readBlock_258
  exact (mn_and (mn_imp (mn_all (fun _ => (mn_imp (hK16 _ _ _ _))))) (mn_imp (mn_all (fun _ => (mn_imp (hK16 _ _ _ _))))))
theorem mn_X11_readBlock_226 {v1 : Int} {v2 : Int} {v3 : Int} {v4 : Int} {m : Mem} {K16 K16' : Int → Int → Int → Mem → Prop} {post post' : Mem → Prop} (hK16 : ∀ (x0 : Int) (x1 : Int) (x2 : Int) (x3 : Mem), K16 x0 x1 x2 x3 → K16' x0 x1 x2 x3) (hpost : ∀ (x0 : Mem), post x0 → post' x0) : wp_X11_readBlock_226 v1 v2 v3 v4 m K16 post → wp_X11_readBlock_226 v1 v2 v3 v4 m K16' post' := by
  unfold wp_X11_readBlock_226
  exact (mn_and (mn_imp (mn_X11_readBlock_258 (fun _ _ _ _ => (hK16 _ _ _ _)) hpost)) (mn_imp (mn_X11_in (fun _ _ => (mn_and (mn_imp (mn_X11_readBlock_258 (fun _ _ _ _ => (hK16 _ _ _ _)) hpost)) (mn_imp (mn_all (fun _ => (mn_imp (mn_X11_readBlock_258 (fun _ _ _ _ => (hK16 _ _ _ _)) hpost))))))))))
theorem mn_X11_readBlock_206 {v1 : Int} {v2 : Int} {v3 : Int} {v4 : Int} {m : Mem} {K16 K16' : Int → Int → Int → Mem → Prop} {post post' : Mem → Prop} (hK16 : ∀ (x0 : Int) (x1 : Int) (x2 : Int) (x3 : Mem), K16 x0 x1 x2 x3 → K16' x0 x1 x2 x3) (hpost : ∀ (x0 : Mem), post x0 → post' x0) : wp_X11_readBlock_206 v1 v2 v3 v4 m K16 post → wp_X11_readBlock_206 v1 v2 v3 v4 m K16' post' := by
  unfold wp_X11_readBlock_206
  exact (mn_and (mn_imp (mn_X11_readBlock_226 (fun _ _ _ _ => (hK16 _ _ _ _)) hpost)) (mn_imp (mn_and (mn_imp (mn_X11_readBlock_226 (fun _ _ _ _ => (hK16 _ _ _ _)) hpost)) (mn_imp (mn_X11_readBlock_258 (fun _ _ _ _ => (hK16 _ _ _ _)) hpost)))))
theorem mn_X11_readBlock_159 {v1 : Int} {v2 : Int} {v3 : Int} {v4 : Int} {v5 : Int} {m : Mem} {K16 K16' : Int → Int → Int → Mem → Prop} {post post' : Mem → Prop} (hK16 : ∀ (x0 : Int) (x1 : Int) (x2 : Int) (x3 : Mem), K16 x0 x1 x2 x3 → K16' x0 x1 x2 x3) (hpost : ∀ (x0 : Mem), post x0 → post' x0) : wp_X11_readBlock_159 v1 v2 v3 v4 v5 m K16 post → wp_X11_readBlock_159 v1 v2 v3 v4 v5 m K16' post' := by
  unfold wp_X11_readBlock_159
  exact (mn_and (mn_imp (mn_X11_readBlock_206 (fun _ _ _ _ => (hK16 _ _ _ _)) hpost)) (mn_imp (mn_and (mn_imp (mn_X11_readBlock_206 (fun _ _ _ _ => (hK16 _ _ _ _)) hpost)) (mn_imp (mn_and (mn_imp (mn_X11_readBlock_206 (fun _ _ _ _ => (hK16 _ _ _ _)) hpost)) (mn_imp (mn_all (fun _ => (mn_imp (mn_X11_readBlock_258 (fun _ _ _ _ => (hK16 _ _ _ _)) hpost))))))))))
theorem mn_X11_readBlock_149 {v1 : Int} {v2 : Int} {v3 : Int} {v4 : Int} {v5 : Int} {m : Mem} {K16 K16' : Int → Int → Int → Mem → Prop} {post post' : Mem → Prop} (hK16 : ∀ (x0 : Int) (x1 : Int) (x2 : Int) (x3 : Mem), K16 x0 x1 x2 x3 → K16' x0 x1 x2 x3) (hpost : ∀ (x0 : Mem), post x0 → post' x0) : wp_X11_readBlock_149 v1 v2 v3 v4 v5 m K16 post → wp_X11_readBlock_149 v1 v2 v3 v4 v5 m K16' post' := by
  unfold wp_X11_readBlock_149
  exact (mn_and (mn_imp (mn_X11_readBlock_159 (fun _ _ _ _ => (hK16 _ _ _ _)) hpost)) (mn_imp (mn_and (mn_imp (mn_X11_readBlock_206 (fun _ _ _ _ => (hK16 _ _ _ _)) hpost)) (mn_imp (mn_X11_readBlock_159 (fun _ _ _ _ => (hK16 _ _ _ _)) hpost)))))
theorem mn_X11_readBlock_116 {v1 : Int} {v2 : Int} {v3 : Int} {v4 : Int} {v5 : Int} {m : Mem} {K16 K16' : Int → Int → Int → Mem → Prop} {post post' : Mem → Prop} (hK16 : ∀ (x0 : Int) (x1 : Int) (x2 : Int) (x3 : Mem), K16 x0 x1 x2 x3 → K16' x0 x1 x2 x3) (hpost : ∀ (x0 : Mem), post x0 → post' x0) : wp_X11_readBlock_116 v1 v2 v3 v4 v5 m K16 post → wp_X11_readBlock_116 v1 v2 v3 v4 v5 m K16' post' := by
  unfold wp_X11_readBlock_116
  exact (mn_and (mn_imp (mn_X11_readBlock_149 (fun _ _ _ _ => (hK16 _ _ _ _)) hpost)) (mn_imp (mn_and (mn_imp (mn_X11_readBlock_149 (fun _ _ _ _ => (hK16 _ _ _ _)) hpost)) (mn_imp (mn_and (mn_imp (mn_X11_readBlock_149 (fun _ _ _ _ => (hK16 _ _ _ _)) hpost)) (mn_imp (mn_all (fun _ => (mn_imp (mn_X11_readBlock_258 (fun _ _ _ _ => (hK16 _ _ _ _)) hpost))))))))))
theorem mn_X11_readBlock_108 {v1 : Int} {v2 : Int} {m : Mem} {K16 K16' : Int → Int → Int → Mem → Prop} {post post' : Mem → Prop} (hK16 : ∀ (x0 : Int) (x1 : Int) (x2 : Int) (x3 : Mem), K16 x0 x1 x2 x3 → K16' x0 x1 x2 x3) (hpost : ∀ (x0 : Mem), post x0 → post' x0) : wp_X11_readBlock_108 v1 v2 m K16 post → wp_X11_readBlock_108 v1 v2 m K16' post' := by
  unfold wp_X11_readBlock_108
  exact (mn_X11_readBlock_258 (fun _ _ _ _ => (hK16 _ _ _ _)) hpost)
theorem mn_X11_readBlock_96 {v1 : Int} {v2 : Int} {v3 : Int} {v4 : Int} {v5 : Int} {m : Mem} {K16 K16' : Int → Int → Int → Mem → Prop} {post post' : Mem → Prop} (hK16 : ∀ (x0 : Int) (x1 : Int) (x2 : Int) (x3 : Mem), K16 x0 x1 x2 x3 → K16' x0 x1 x2 x3) (hpost : ∀ (x0 : Mem), post x0 → post' x0) : wp_X11_readBlock_96 v1 v2 v3 v4 v5 m K16 post → wp_X11_readBlock_96 v1 v2 v3 v4 v5 m K16' post' := by
  unfold wp_X11_readBlock_96
  exact (mn_and (mn_imp (mn_X11_readBlock_116 (fun _ _ _ _ => (hK16 _ _ _ _)) hpost)) (mn_imp (mn_and (mn_imp (mn_X11_readBlock_116 (fun _ _ _ _ => (hK16 _ _ _ _)) hpost)) (mn_imp (mn_X11_readBlock_108 (fun _ _ _ _ => (hK16 _ _ _ _)) hpost)))))
theorem mn_X11_readBlock_84 {v1 : Int} {v2 : Int} {v3 : Int} {v4 : Int} {v5 : Int} {m : Mem} {K16 K16' : Int → Int → Int → Mem → Prop} {post post' : Mem → Prop} (hK16 : ∀ (x0 : Int) (x1 : Int) (x2 : Int) (x3 : Mem), K16 x0 x1 x2 x3 → K16' x0 x1 x2 x3) (hpost : ∀ (x0 : Mem), post x0 → post' x0) : wp_X11_readBlock_84 v1 v2 v3 v4 v5 m K16 post → wp_X11_readBlock_84 v1 v2 v3 v4 v5 m K16' post' := by
  unfold wp_X11_readBlock_84
  exact (mn_and (mn_imp (mn_X11_readBlock_96 (fun _ _ _ _ => (hK16 _ _ _ _)) hpost)) (mn_imp (mn_and (mn_imp (mn_X11_readBlock_108 (fun _ _ _ _ => (hK16 _ _ _ _)) hpost)) (mn_imp (mn_X11_readBlock_96 (fun _ _ _ _ => (hK16 _ _ _ _)) hpost)))))
theorem mn_X11_readBlock_57 {v1 : Int} {v2 : Int} {v4 : Int} {s0 : Int} {m : Mem} {K16 K16' : Int → Int → Int → Mem → Prop} {post post' : Mem → Prop} (hK16 : ∀ (x0 : Int) (x1 : Int) (x2 : Int) (x3 : Mem), K16 x0 x1 x2 x3 → K16' x0 x1 x2 x3) (hpost : ∀ (x0 : Mem), post x0 → post' x0) : wp_X11_readBlock_57 v1 v2 v4 s0 m K16 post → wp_X11_readBlock_57 v1 v2 v4 s0 m K16' post' := by
  unfold wp_X11_readBlock_57
  exact (mn_and (mn_imp (mn_X11_readBlock_84 (fun _ _ _ _ => (hK16 _ _ _ _)) hpost)) (mn_imp (mn_and (mn_imp (mn_X11_readBlock_84 (fun _ _ _ _ => (hK16 _ _ _ _)) hpost)) (mn_imp (mn_all (fun _ => (mn_imp (mn_X11_readBlock_258 (fun _ _ _ _ => (hK16 _ _ _ _)) hpost))))))))
theorem mn_X11_readBlock_16 {K273 K273' : Int → Int → Mem → Prop} {post post' : Mem → Prop} (hK273 : ∀ (x0 : Int) (x1 : Int) (x2 : Mem), K273 x0 x1 x2 → K273' x0 x1 x2) (hpost : ∀ (x0 : Mem), post x0 → post' x0) : ∀ (n : Nat) (v1 : Int) (v2 : Int) (v3 : Int) (m : Mem), wp_X11_readBlock_16 K273 post n v1 v2 v3 m → wp_X11_readBlock_16 K273' post' n v1 v2 v3 m := by
  intro n
  induction n with
  | zero => intro v1 v2 v3 m; unfold wp_X11_readBlock_16; exact id
  | succ n ih =>
    intro v1 v2 v3 m
    unfold wp_X11_readBlock_16
    exact (mn_and (mn_imp (hK273 _ _ _)) (mn_imp (mn_and (mn_imp (hK273 _ _ _)) (mn_imp (mn_and id (mn_all (fun _ => (mn_imp (mn_X11_isYard (fun _ _ => (mn_and (mn_imp (mn_X11_readBlock_57 (fun _ _ _ _ => (ih _ _ _ _)) hpost)) (mn_imp (mn_X11_readBlock_57 (fun _ _ _ _ => (ih _ _ _ _)) hpost)))))))))))))
theorem mn_X11_readBlock_273 {v1 : Int} {v2 : Int} {m : Mem} {post post' : Mem → Prop} (hpost : ∀ (x0 : Mem), post x0 → post' x0) : wp_X11_readBlock_273 v1 v2 m post → wp_X11_readBlock_273 v1 v2 m post' := by
  unfold wp_X11_readBlock_273
  exact (mn_all (fun _ => (mn_imp (mn_and (mn_imp (mn_all (fun _ => (mn_imp (hpost _))))) (mn_imp (mn_and (mn_imp (mn_all (fun _ => (mn_imp (hpost _))))) (mn_imp (mn_and (mn_imp (mn_all (fun _ => (mn_imp (hpost _))))) (mn_imp (mn_all (fun _ => (mn_imp (hpost _)))))))))))))
theorem mn_X11_readBlock {m : Mem} {post post' : Mem → Prop} (hpost : ∀ (x0 : Mem), post x0 → post' x0) : wp_X11_readBlock m post → wp_X11_readBlock m post' := by
  unfold wp_X11_readBlock
  exact (mn_all (fun _ => (mn_imp (mn_all (fun _ => (mn_imp (mn_ex (fun _ => (mn_X11_readBlock_16 (fun _ _ _ => (mn_X11_readBlock_273 hpost)) hpost _ _ _ _ _)))))))))
theorem mn_X11_good {m : Mem} {post post' : Int → Mem → Prop} (hpost : ∀ (x0 : Int) (x1 : Mem), post x0 x1 → post' x0 x1) : wp_X11_good m post → wp_X11_good m post' := by
  unfold wp_X11_good
  exact (mn_X11_readBlock (fun _ => (hpost _ _)))
theorem mn_X11_block {m : Mem} {post post' : Int → Mem → Prop} (hpost : ∀ (x0 : Int) (x1 : Mem), post x0 x1 → post' x0 x1) : wp_X11_block m post → wp_X11_block m post' := by
  unfold wp_X11_block
  exact (mn_X11_readBlock (fun _ => (mn_and (mn_imp (mn_and (mn_imp (mn_and id (mn_all (fun _ => (mn_imp (mn_and id (mn_all (fun _ => (mn_imp (mn_and id (mn_all (fun _ => (mn_imp (mn_and id (mn_all (fun _ => (mn_imp (mn_all (fun _ => (mn_imp (mn_all (fun _ => (mn_imp (hpost _ _)))))))))))))))))))))))) (mn_imp (hpost _ _)))) (mn_imp (hpost _ _)))))
theorem mn_X11_isBlock {v1 : Int} {m : Mem} {post post' : Int → Mem → Prop} (hpost : ∀ (x0 : Int) (x1 : Mem), post x0 x1 → post' x0 x1) : wp_X11_isBlock v1 m post → wp_X11_isBlock v1 m post' := by
  unfold wp_X11_isBlock
  exact (mn_X11_in (fun _ _ => (mn_and id (hpost _ _))))
theorem mn_X11_about {v1 : Int} {v2 : Int} {m : Mem} {post post' : Int → Mem → Prop} (hpost : ∀ (x0 : Int) (x1 : Mem), post x0 x1 → post' x0 x1) : wp_X11_about v1 v2 m post → wp_X11_about v1 v2 m post' := by
  unfold wp_X11_about
  exact (mn_X11_isBlock (fun _ _ => (mn_and (mn_imp (mn_and (mn_imp (mn_and (mn_imp (mn_and (mn_imp (mn_and (mn_imp (hpost _ _)) (mn_imp (mn_and id (hpost _ _))))) (mn_imp (mn_and id (hpost _ _))))) (mn_imp (mn_and id (hpost _ _))))) (mn_imp (mn_and id (hpost _ _))))) (mn_imp (hpost _ _)))))
theorem mn_X11_goesOf_5 {post post' : Int → Mem → Prop} (hpost : ∀ (x0 : Int) (x1 : Mem), post x0 x1 → post' x0 x1) : ∀ (n : Nat) (v1 : Int) (v2 : Int) (v3 : Int) (v4 : Int) (m : Mem), wp_X11_goesOf_5 post n v1 v2 v3 v4 m → wp_X11_goesOf_5 post' n v1 v2 v3 v4 m := by
  intro n
  induction n with
  | zero => intro v1 v2 v3 v4 m; unfold wp_X11_goesOf_5; exact id
  | succ n ih =>
    intro v1 v2 v3 v4 m
    unfold wp_X11_goesOf_5
    exact (mn_and (mn_imp (hpost _ _)) (mn_imp (mn_and id (mn_and (mn_imp (ih _ _ _ _ _)) (mn_imp (mn_and id (mn_and (mn_imp (ih _ _ _ _ _)) (mn_imp (mn_and (mn_imp (ih _ _ _ _ _)) (mn_imp (mn_and id (mn_and id (mn_and (mn_imp (ih _ _ _ _ _)) (mn_imp (ih _ _ _ _ _)))))))))))))))
theorem mn_X11_goesOf {v1 : Int} {v2 : Int} {m : Mem} {post post' : Int → Mem → Prop} (hpost : ∀ (x0 : Int) (x1 : Mem), post x0 x1 → post' x0 x1) : wp_X11_goesOf v1 v2 m post → wp_X11_goesOf v1 v2 m post' := by
  unfold wp_X11_goesOf
  exact (mn_ex (fun _ => (mn_X11_goesOf_5 hpost _ _ _ _ _ _)))
theorem mn_X11_goes {v1 : Int} {v2 : Int} {m : Mem} {post post' : Int → Mem → Prop} (hpost : ∀ (x0 : Int) (x1 : Mem), post x0 x1 → post' x0 x1) : wp_X11_goes v1 v2 m post → wp_X11_goes v1 v2 m post' := by
  unfold wp_X11_goes
  exact (mn_X11_isYard (fun _ _ => (mn_and (mn_imp (hpost _ _)) (mn_imp (mn_X11_isYard (fun _ _ => (mn_and (mn_imp (hpost _ _)) (mn_imp (mn_X11_goesOf (fun _ _ => (hpost _ _)))))))))))
theorem mn_X11_asMade_2 {post post' : Mem → Prop} (hpost : ∀ (x0 : Mem), post x0 → post' x0) : ∀ (n : Nat) (v1 : Int) (m : Mem), wp_X11_asMade_2 post n v1 m → wp_X11_asMade_2 post' n v1 m := by
  intro n
  induction n with
  | zero => intro v1 m; unfold wp_X11_asMade_2; exact id
  | succ n ih =>
    intro v1 m
    unfold wp_X11_asMade_2
    exact (mn_and (mn_imp (hpost _)) (mn_imp (mn_and id (mn_and id (mn_all (fun _ => (mn_imp (ih _ _))))))))
theorem mn_X11_asMade {m : Mem} {post post' : Mem → Prop} (hpost : ∀ (x0 : Mem), post x0 → post' x0) : wp_X11_asMade m post → wp_X11_asMade m post' := by
  unfold wp_X11_asMade
  exact (mn_ex (fun _ => (mn_X11_asMade_2 hpost _ _ _)))
theorem mn_X11_walk_10 {post post' : Int → Mem → Prop} (hpost : ∀ (x0 : Int) (x1 : Mem), post x0 x1 → post' x0 x1) : ∀ (n : Nat) (v2 : Int) (v3 : Int) (v4 : Int) (m : Mem), wp_X11_walk_10 post n v2 v3 v4 m → wp_X11_walk_10 post' n v2 v3 v4 m := by
  intro n
  induction n with
  | zero => intro v2 v3 v4 m; unfold wp_X11_walk_10; exact id
  | succ n ih =>
    intro v2 v3 v4 m
    unfold wp_X11_walk_10
    exact (mn_and (mn_imp (mn_all (fun _ => (mn_imp (mn_and id (mn_all (fun _ => (mn_imp (mn_all (fun _ => (mn_imp (mn_and (mn_imp (mn_X11_goesOf (fun _ _ => (mn_and (mn_imp (mn_and id (mn_all (fun _ => (mn_imp (ih _ _ _ _)))))) (mn_imp (hpost _ _)))))) (mn_imp (hpost _ _)))))))))))))) (mn_imp (hpost _ _)))
theorem mn_X11_walk {v1 : Int} {v2 : Int} {m : Mem} {post post' : Int → Mem → Prop} (hpost : ∀ (x0 : Int) (x1 : Mem), post x0 x1 → post' x0 x1) : wp_X11_walk v1 v2 m post → wp_X11_walk v1 v2 m post' := by
  unfold wp_X11_walk
  exact (mn_all (fun _ => (mn_imp (mn_ex (fun _ => (mn_X11_walk_10 hpost _ _ _ _ _))))))
theorem mn_X11_way_91 {post post' : Int → Mem → Prop} (hpost : ∀ (x0 : Int) (x1 : Mem), post x0 x1 → post' x0 x1) : ∀ (n : Nat) (v4 : Int) (v5 : Int) (m : Mem), wp_X11_way_91 post n v4 v5 m → wp_X11_way_91 post' n v4 v5 m := by
  intro n
  induction n with
  | zero => intro v4 v5 m; unfold wp_X11_way_91; exact id
  | succ n ih =>
    intro v4 v5 m
    unfold wp_X11_way_91
    exact (mn_and (mn_imp (hpost _ _)) (mn_imp (mn_and id (mn_and id (mn_and id (mn_all (fun _ => (mn_imp (ih _ _ _)))))))))
theorem mn_X11_way_42 {v1 : Int} {v2 : Int} {v3 : Int} {m : Mem} {post post' : Int → Mem → Prop} (hpost : ∀ (x0 : Int) (x1 : Mem), post x0 x1 → post' x0 x1) : wp_X11_way_42 v1 v2 v3 m post → wp_X11_way_42 v1 v2 v3 m post' := by
  unfold wp_X11_way_42
  exact (mn_X11_asMade (fun _ => (mn_X11_walk (fun _ _ => (mn_and (mn_imp (mn_and (mn_imp (mn_and (mn_imp (mn_and (mn_imp (hpost _ _)) (mn_imp (mn_and id (hpost _ _))))) (mn_imp (mn_ex (fun _ => (mn_X11_way_91 hpost _ _ _ _)))))) (mn_imp (mn_and (mn_imp (hpost _ _)) (mn_imp (hpost _ _)))))) (mn_imp (hpost _ _)))))))
theorem mn_X11_way {v1 : Int} {v2 : Int} {v3 : Int} {m : Mem} {post post' : Int → Mem → Prop} (hpost : ∀ (x0 : Int) (x1 : Mem), post x0 x1 → post' x0 x1) : wp_X11_way v1 v2 v3 m post → wp_X11_way v1 v2 v3 m post' := by
  unfold wp_X11_way
  exact (mn_X11_isYard (fun _ _ => (mn_and (mn_imp (hpost _ _)) (mn_imp (mn_X11_isYard (fun _ _ => (mn_and (mn_imp (mn_X11_in (fun _ _ => (mn_and (mn_imp (mn_X11_way_42 hpost)) (mn_imp (mn_X11_in (fun _ _ => (mn_and (mn_imp (mn_X11_way_42 hpost)) (mn_imp (hpost _ _)))))))))) (mn_imp (hpost _ _)))))))))
theorem mn_X11_lost_18 {K8 K8' : Int → Int → Mem → Prop} {post post' : Int → Mem → Prop} (hK8 : ∀ (x0 : Int) (x1 : Int) (x2 : Mem), K8 x0 x1 x2 → K8' x0 x1 x2) (hpost : ∀ (x0 : Int) (x1 : Mem), post x0 x1 → post' x0 x1) : ∀ (n : Nat) (v1 : Int) (v2 : Int) (v3 : Int) (m : Mem), wp_X11_lost_18 K8 post n v1 v2 v3 m → wp_X11_lost_18 K8' post' n v1 v2 v3 m := by
  intro n
  induction n with
  | zero => intro v1 v2 v3 m; unfold wp_X11_lost_18; exact id
  | succ n ih =>
    intro v1 v2 v3 m
    unfold wp_X11_lost_18
    exact (mn_and (mn_imp (hK8 _ _ _)) (mn_imp (mn_and (mn_imp (mn_all (fun _ => (mn_imp (ih _ _ _ _))))) (mn_imp (mn_X11_walk (fun _ _ => (mn_and (mn_imp (mn_all (fun _ => (mn_imp (ih _ _ _ _))))) (mn_imp (mn_all (fun _ => (mn_imp (ih _ _ _ _))))))))))))
theorem mn_X11_lost_8 {post post' : Int → Mem → Prop} (hpost : ∀ (x0 : Int) (x1 : Mem), post x0 x1 → post' x0 x1) : ∀ (n : Nat) (v1 : Int) (v2 : Int) (m : Mem), wp_X11_lost_8 post n v1 v2 m → wp_X11_lost_8 post' n v1 v2 m := by
  intro n
  induction n with
  | zero => intro v1 v2 m; unfold wp_X11_lost_8; exact id
  | succ n ih =>
    intro v1 v2 m
    unfold wp_X11_lost_8
    exact (mn_and (mn_imp (hpost _ _)) (mn_imp (mn_ex (fun _ => (mn_X11_lost_18 (fun _ _ _ => (ih _ _ _)) hpost _ _ _ _ _)))))
theorem mn_X11_lost {m : Mem} {post post' : Int → Mem → Prop} (hpost : ∀ (x0 : Int) (x1 : Mem), post x0 x1 → post' x0 x1) : wp_X11_lost m post → wp_X11_lost m post' := by
  unfold wp_X11_lost
  exact (mn_X11_asMade (fun _ => (mn_ex (fun _ => (mn_X11_lost_8 hpost _ _ _ _)))))
theorem mn_X11_train_223 {K253 K253' : Int → Mem → Prop} {post post' : Int → Mem → Prop} (hK253 : ∀ (x0 : Int) (x1 : Mem), K253 x0 x1 → K253' x0 x1) (hpost : ∀ (x0 : Int) (x1 : Mem), post x0 x1 → post' x0 x1) : ∀ (n : Nat) (v8 : Int) (m : Mem), wp_X11_train_223 K253 post n v8 m → wp_X11_train_223 K253' post' n v8 m := by
  intro n
  induction n with
  | zero => intro v8 m; unfold wp_X11_train_223; exact id
  | succ n ih =>
    intro v8 m
    unfold wp_X11_train_223
    exact (mn_and (mn_imp (hK253 _ _)) (mn_imp (mn_and id (mn_all (fun _ => (mn_imp (ih _ _)))))))
theorem mn_X11_train_253 {K280 K280' : Mem → Prop} {post post' : Int → Mem → Prop} (hK280 : ∀ (x0 : Mem), K280 x0 → K280' x0) (hpost : ∀ (x0 : Int) (x1 : Mem), post x0 x1 → post' x0 x1) : ∀ (n : Nat) (v8 : Int) (m : Mem), wp_X11_train_253 K280 post n v8 m → wp_X11_train_253 K280' post' n v8 m := by
  intro n
  induction n with
  | zero => intro v8 m; unfold wp_X11_train_253; exact id
  | succ n ih =>
    intro v8 m
    unfold wp_X11_train_253
    exact (mn_and (mn_imp (hK280 _)) (mn_imp (mn_and id (mn_all (fun _ => (mn_imp (ih _ _)))))))
theorem mn_X11_train_71 {v1 : Int} {v2 : Int} {v3 : Int} {v4 : Int} {v5 : Int} {v6 : Int} {m : Mem} {post post' : Int → Mem → Prop} (hpost : ∀ (x0 : Int) (x1 : Mem), post x0 x1 → post' x0 x1) : wp_X11_train_71 v1 v2 v3 v4 v5 v6 m post → wp_X11_train_71 v1 v2 v3 v4 v5 v6 m post' := by
  unfold wp_X11_train_71
  exact (mn_X11_in (fun _ _ => (mn_and (mn_imp (hpost _ _)) (mn_imp (mn_X11_in (fun _ _ => (mn_and (mn_imp (hpost _ _)) (mn_imp (mn_X11_in (fun _ _ => (mn_and (mn_imp (hpost _ _)) (mn_imp (mn_X11_in (fun _ _ => (mn_and (mn_imp (mn_and (mn_imp (mn_and id (mn_all (fun _ => (mn_imp (mn_and id (mn_all (fun _ => (mn_imp (mn_and id (mn_all (fun _ => (mn_imp (mn_and id (mn_all (fun _ => (mn_imp (mn_and id (mn_all (fun _ => (mn_imp (mn_and id (mn_all (fun _ => (mn_imp (mn_ex (fun _ => (mn_X11_train_223 (fun _ _ => (mn_ex (fun _ => (mn_X11_train_253 (fun _ => (mn_all (fun _ => (mn_imp (hpost _ _))))) hpost _ _ _)))) hpost _ _ _)))))))))))))))))))))))))))) (mn_imp (hpost _ _)))) (mn_imp (hpost _ _)))))))))))))))))
theorem mn_X11_train_26 {v1 : Int} {v2 : Int} {v3 : Int} {v4 : Int} {v5 : Int} {v6 : Int} {s0 : Int} {m : Mem} {post post' : Int → Mem → Prop} (hpost : ∀ (x0 : Int) (x1 : Mem), post x0 x1 → post' x0 x1) : wp_X11_train_26 v1 v2 v3 v4 v5 v6 s0 m post → wp_X11_train_26 v1 v2 v3 v4 v5 v6 s0 m post' := by
  unfold wp_X11_train_26
  exact (mn_and (mn_imp (hpost _ _)) (mn_imp (mn_and (mn_imp (mn_X11_train_71 hpost)) (mn_imp (mn_and id (mn_and id (mn_and (mn_imp (hpost _ _)) (mn_imp (mn_and id (mn_and id (mn_and (mn_imp (mn_X11_train_71 hpost)) (mn_imp (hpost _ _)))))))))))))
theorem mn_X11_train_25 {v1 : Int} {v2 : Int} {v3 : Int} {v4 : Int} {v5 : Int} {v6 : Int} {m : Mem} {post post' : Int → Mem → Prop} (hpost : ∀ (x0 : Int) (x1 : Mem), post x0 x1 → post' x0 x1) : wp_X11_train_25 v1 v2 v3 v4 v5 v6 m post → wp_X11_train_25 v1 v2 v3 v4 v5 v6 m post' := by
  unfold wp_X11_train_25
  exact (mn_X11_train_26 hpost)
theorem mn_X11_train_21 {v1 : Int} {v2 : Int} {v3 : Int} {v4 : Int} {v5 : Int} {v6 : Int} {m : Mem} {post post' : Int → Mem → Prop} (hpost : ∀ (x0 : Int) (x1 : Mem), post x0 x1 → post' x0 x1) : wp_X11_train_21 v1 v2 v3 v4 v5 v6 m post → wp_X11_train_21 v1 v2 v3 v4 v5 v6 m post' := by
  unfold wp_X11_train_21
  exact (mn_X11_train_26 hpost)
theorem mn_X11_train {v1 : Int} {v2 : Int} {v3 : Int} {v4 : Int} {v5 : Int} {v6 : Int} {m : Mem} {post post' : Int → Mem → Prop} (hpost : ∀ (x0 : Int) (x1 : Mem), post x0 x1 → post' x0 x1) : wp_X11_train v1 v2 v3 v4 v5 v6 m post → wp_X11_train v1 v2 v3 v4 v5 v6 m post' := by
  unfold wp_X11_train
  exact (mn_X11_isBlock (fun _ _ => (mn_and (mn_imp (mn_X11_train_25 hpost)) (mn_imp (mn_and (mn_imp (mn_X11_train_21 hpost)) (mn_imp (mn_X11_isBlock (fun _ _ => (mn_and (mn_imp (mn_X11_train_25 hpost)) (mn_imp (mn_X11_train_21 hpost)))))))))))
theorem mn_X11_wagon {v1 : Int} {v2 : Int} {m : Mem} {post post' : Int → Mem → Prop} (hpost : ∀ (x0 : Int) (x1 : Mem), post x0 x1 → post' x0 x1) : wp_X11_wagon v1 v2 m post → wp_X11_wagon v1 v2 m post' := by
  unfold wp_X11_wagon
  exact (mn_X11_isYard (fun _ _ => (mn_and (mn_imp (hpost _ _)) (mn_imp (mn_X11_isYard (fun _ _ => (mn_and (mn_imp (hpost _ _)) (mn_imp (mn_and (mn_imp (mn_and (mn_imp (mn_and id (mn_all (fun _ => (mn_imp (mn_and id (mn_all (fun _ => (mn_imp (mn_and id (mn_all (fun _ => (mn_imp (mn_and id (mn_all (fun _ => (mn_imp (mn_and id (mn_all (fun _ => (mn_imp (mn_and id (mn_all (fun _ => (mn_imp (mn_all (fun _ => (mn_imp (hpost _ _))))))))))))))))))))))))))))) (mn_imp (hpost _ _)))) (mn_imp (hpost _ _)))))))))))
theorem mn_X11_sorting {v1 : Int} {m : Mem} {post post' : Int → Mem → Prop} (hpost : ∀ (x0 : Int) (x1 : Mem), post x0 x1 → post' x0 x1) : wp_X11_sorting v1 m post → wp_X11_sorting v1 m post' := by
  unfold wp_X11_sorting
  exact (mn_X11_in (fun _ _ => (mn_and (mn_imp (mn_all (fun _ => (mn_imp (mn_all (fun _ => (mn_imp (hpost _ _)))))))) (mn_imp (hpost _ _)))))
theorem mn_X11_close_56 {v1 : Int} {v2 : Int} {v3 : Int} {m : Mem} {post post' : Int → Mem → Prop} (hpost : ∀ (x0 : Int) (x1 : Mem), post x0 x1 → post' x0 x1) : wp_X11_close_56 v1 v2 v3 m post → wp_X11_close_56 v1 v2 v3 m post' := by
  unfold wp_X11_close_56
  exact (mn_and id (mn_all (fun _ => (mn_imp (mn_and id (mn_all (fun _ => (mn_imp (hpost _ _)))))))))
theorem mn_X11_close_26 {v1 : Int} {v2 : Int} {v3 : Int} {s0 : Int} {m : Mem} {post post' : Int → Mem → Prop} (hpost : ∀ (x0 : Int) (x1 : Mem), post x0 x1 → post' x0 x1) : wp_X11_close_26 v1 v2 v3 s0 m post → wp_X11_close_26 v1 v2 v3 s0 m post' := by
  unfold wp_X11_close_26
  exact (mn_and (mn_imp (mn_X11_close_56 hpost)) (mn_imp (mn_X11_in (fun _ _ => (mn_and (mn_imp (hpost _ _)) (mn_imp (mn_X11_in (fun _ _ => (mn_and (mn_imp (mn_X11_close_56 hpost)) (mn_imp (hpost _ _)))))))))))
theorem mn_X11_close_25 {v1 : Int} {v2 : Int} {v3 : Int} {m : Mem} {post post' : Int → Mem → Prop} (hpost : ∀ (x0 : Int) (x1 : Mem), post x0 x1 → post' x0 x1) : wp_X11_close_25 v1 v2 v3 m post → wp_X11_close_25 v1 v2 v3 m post' := by
  unfold wp_X11_close_25
  exact (mn_X11_close_26 hpost)
theorem mn_X11_close {v1 : Int} {v2 : Int} {v3 : Int} {m : Mem} {post post' : Int → Mem → Prop} (hpost : ∀ (x0 : Int) (x1 : Mem), post x0 x1 → post' x0 x1) : wp_X11_close v1 v2 v3 m post → wp_X11_close v1 v2 v3 m post' := by
  unfold wp_X11_close
  exact (mn_X11_isYard (fun _ _ => (mn_and (mn_imp (mn_and (mn_imp (mn_X11_close_25 hpost)) (mn_imp (mn_and (mn_imp (mn_X11_close_25 hpost)) (mn_imp (mn_X11_close_26 hpost)))))) (mn_imp (hpost _ _)))))
theorem mn_X11_isClosed {v1 : Int} {m : Mem} {post post' : Int → Mem → Prop} (hpost : ∀ (x0 : Int) (x1 : Mem), post x0 x1 → post' x0 x1) : wp_X11_isClosed v1 m post → wp_X11_isClosed v1 m post' := by
  unfold wp_X11_isClosed
  exact (mn_and id (mn_and (mn_imp (hpost _ _)) (mn_imp (mn_and id (mn_and id (mn_X11_in (fun _ _ => (mn_and (mn_imp (hpost _ _)) (mn_imp (hpost _ _))))))))))
theorem mn_X11_comeIn_142 {v1 : Int} {v2 : Int} {v3 : Int} {v4 : Int} {s0 : Int} {s1 : Int} {m : Mem} {K17 K17' : Int → Int → Int → Mem → Prop} {post post' : Mem → Prop} (hK17 : ∀ (x0 : Int) (x1 : Int) (x2 : Int) (x3 : Mem), K17 x0 x1 x2 x3 → K17' x0 x1 x2 x3) (hpost : ∀ (x0 : Mem), post x0 → post' x0) : wp_X11_comeIn_142 v1 v2 v3 v4 s0 s1 m K17 post → wp_X11_comeIn_142 v1 v2 v3 v4 s0 s1 m K17' post' := by
  unfold wp_X11_comeIn_142
  exact (mn_and id (mn_all (fun _ => (mn_imp (mn_and (mn_imp (mn_and id (mn_all (fun _ => (mn_imp (hK17 _ _ _ _)))))) (mn_imp (mn_and id (mn_all (fun _ => (mn_imp (hK17 _ _ _ _)))))))))))
theorem mn_X11_comeIn_98 {v1 : Int} {v2 : Int} {v3 : Int} {v4 : Int} {s0 : Int} {s1 : Int} {m : Mem} {K17 K17' : Int → Int → Int → Mem → Prop} {post post' : Mem → Prop} (hK17 : ∀ (x0 : Int) (x1 : Int) (x2 : Int) (x3 : Mem), K17 x0 x1 x2 x3 → K17' x0 x1 x2 x3) (hpost : ∀ (x0 : Mem), post x0 → post' x0) : wp_X11_comeIn_98 v1 v2 v3 v4 s0 s1 m K17 post → wp_X11_comeIn_98 v1 v2 v3 v4 s0 s1 m K17' post' := by
  unfold wp_X11_comeIn_98
  exact (mn_and id (mn_all (fun _ => (mn_imp (mn_and id (mn_all (fun _ => (mn_imp (mn_and (mn_imp (mn_X11_comeIn_142 (fun _ _ _ _ => (hK17 _ _ _ _)) hpost)) (mn_imp (mn_X11_comeIn_142 (fun _ _ _ _ => (hK17 _ _ _ _)) hpost)))))))))))
theorem mn_X11_comeIn_78 {v1 : Int} {v2 : Int} {v3 : Int} {s0 : Int} {m : Mem} {K17 K17' : Int → Int → Int → Mem → Prop} {post post' : Mem → Prop} (hK17 : ∀ (x0 : Int) (x1 : Int) (x2 : Int) (x3 : Mem), K17 x0 x1 x2 x3 → K17' x0 x1 x2 x3) (hpost : ∀ (x0 : Mem), post x0 → post' x0) : wp_X11_comeIn_78 v1 v2 v3 s0 m K17 post → wp_X11_comeIn_78 v1 v2 v3 s0 m K17' post' := by
  unfold wp_X11_comeIn_78
  exact (mn_and (mn_imp (mn_X11_comeIn_98 (fun _ _ _ _ => (hK17 _ _ _ _)) hpost)) (mn_imp (mn_X11_comeIn_98 (fun _ _ _ _ => (hK17 _ _ _ _)) hpost)))
theorem mn_X11_comeIn_17 {post post' : Mem → Prop} (hpost : ∀ (x0 : Mem), post x0 → post' x0) : ∀ (n : Nat) (v1 : Int) (v2 : Int) (v3 : Int) (m : Mem), wp_X11_comeIn_17 post n v1 v2 v3 m → wp_X11_comeIn_17 post' n v1 v2 v3 m := by
  intro n
  induction n with
  | zero => intro v1 v2 v3 m; unfold wp_X11_comeIn_17; exact id
  | succ n ih =>
    intro v1 v2 v3 m
    unfold wp_X11_comeIn_17
    exact (mn_and (mn_imp (hpost _)) (mn_imp (mn_and id (mn_and (mn_imp (ih _ _ _ _)) (mn_imp (mn_and id (mn_and (mn_imp (ih _ _ _ _)) (mn_imp (mn_and id (mn_and (mn_imp (mn_X11_comeIn_78 (fun _ _ _ _ => (ih _ _ _ _)) hpost)) (mn_imp (mn_X11_comeIn_78 (fun _ _ _ _ => (ih _ _ _ _)) hpost))))))))))))
theorem mn_X11_comeIn {v1 : Int} {m : Mem} {post post' : Mem → Prop} (hpost : ∀ (x0 : Mem), post x0 → post' x0) : wp_X11_comeIn v1 m post → wp_X11_comeIn v1 m post' := by
  unfold wp_X11_comeIn
  exact (mn_and id (mn_and id (mn_all (fun _ => (mn_imp (mn_ex (fun _ => (mn_X11_comeIn_17 hpost _ _ _ _ _))))))))
theorem mn_X11_longest_78 {v1 : Int} {v2 : Int} {v3 : Int} {s0 : Int} {m : Mem} {K4 K4' : Int → Int → Int → Mem → Prop} {post post' : Int → Mem → Prop} (hK4 : ∀ (x0 : Int) (x1 : Int) (x2 : Int) (x3 : Mem), K4 x0 x1 x2 x3 → K4' x0 x1 x2 x3) (hpost : ∀ (x0 : Int) (x1 : Mem), post x0 x1 → post' x0 x1) : wp_X11_longest_78 v1 v2 v3 s0 m K4 post → wp_X11_longest_78 v1 v2 v3 s0 m K4' post' := by
  unfold wp_X11_longest_78
  exact (mn_and (mn_imp (hK4 _ _ _ _)) (mn_imp (mn_and (mn_imp (hK4 _ _ _ _)) (mn_imp (mn_and id (mn_and id (mn_and (mn_imp (hK4 _ _ _ _)) (mn_imp (hK4 _ _ _ _)))))))))
theorem mn_X11_longest_77 {v1 : Int} {v2 : Int} {v3 : Int} {m : Mem} {K4 K4' : Int → Int → Int → Mem → Prop} {post post' : Int → Mem → Prop} (hK4 : ∀ (x0 : Int) (x1 : Int) (x2 : Int) (x3 : Mem), K4 x0 x1 x2 x3 → K4' x0 x1 x2 x3) (hpost : ∀ (x0 : Int) (x1 : Mem), post x0 x1 → post' x0 x1) : wp_X11_longest_77 v1 v2 v3 m K4 post → wp_X11_longest_77 v1 v2 v3 m K4' post' := by
  unfold wp_X11_longest_77
  exact (mn_X11_longest_78 (fun _ _ _ _ => (hK4 _ _ _ _)) hpost)
theorem mn_X11_longest_4 {post post' : Int → Mem → Prop} (hpost : ∀ (x0 : Int) (x1 : Mem), post x0 x1 → post' x0 x1) : ∀ (n : Nat) (v1 : Int) (v2 : Int) (v3 : Int) (m : Mem), wp_X11_longest_4 post n v1 v2 v3 m → wp_X11_longest_4 post' n v1 v2 v3 m := by
  intro n
  induction n with
  | zero => intro v1 v2 v3 m; unfold wp_X11_longest_4; exact id
  | succ n ih =>
    intro v1 v2 v3 m
    unfold wp_X11_longest_4
    exact (mn_and (mn_imp (hpost _ _)) (mn_imp (mn_and id (mn_and id (mn_and (mn_imp (mn_X11_longest_77 (fun _ _ _ _ => (ih _ _ _ _)) hpost)) (mn_imp (mn_and id (mn_and (mn_imp (mn_X11_longest_77 (fun _ _ _ _ => (ih _ _ _ _)) hpost)) (mn_imp (mn_and id (mn_and id (mn_X11_goesOf (fun _ _ => (mn_and (mn_imp (mn_X11_longest_77 (fun _ _ _ _ => (ih _ _ _ _)) hpost)) (mn_imp (mn_X11_longest_78 (fun _ _ _ _ => (ih _ _ _ _)) hpost))))))))))))))))
theorem mn_X11_longest {v1 : Int} {m : Mem} {post post' : Int → Mem → Prop} (hpost : ∀ (x0 : Int) (x1 : Mem), post x0 x1 → post' x0 x1) : wp_X11_longest v1 m post → wp_X11_longest v1 m post' := by
  unfold wp_X11_longest
  exact (mn_ex (fun _ => (mn_X11_longest_4 hpost _ _ _ _ _)))
theorem mn_X11_leave_50 {K14 K14' : Int → Int → Int → Mem → Prop} {post post' : Mem → Prop} (hK14 : ∀ (x0 : Int) (x1 : Int) (x2 : Int) (x3 : Mem), K14 x0 x1 x2 x3 → K14' x0 x1 x2 x3) (hpost : ∀ (x0 : Mem), post x0 → post' x0) : ∀ (n : Nat) (v1 : Int) (v2 : Int) (v3 : Int) (v4 : Int) (v5 : Int) (m : Mem), wp_X11_leave_50 K14 post n v1 v2 v3 v4 v5 m → wp_X11_leave_50 K14' post' n v1 v2 v3 v4 v5 m := by
  intro n
  induction n with
  | zero => intro v1 v2 v3 v4 v5 m; unfold wp_X11_leave_50; exact id
  | succ n ih =>
    intro v1 v2 v3 v4 v5 m
    unfold wp_X11_leave_50
    exact (mn_and (mn_imp (hK14 _ _ _ _)) (mn_imp (mn_and (mn_imp (hK14 _ _ _ _)) (mn_imp (mn_and id (mn_all (fun _ => (mn_imp (mn_and id (mn_all (fun _ => (mn_imp (mn_and id (mn_and id (mn_all (fun _ => (mn_imp (mn_and id (mn_and id (mn_all (fun _ => (mn_imp (mn_and id (mn_and id (mn_all (fun _ => (mn_imp (mn_X11_longest (fun _ _ => (ih _ _ _ _ _ _))))))))))))))))))))))))))))))
theorem mn_X11_leave_14 {K162 K162' : Int → Mem → Prop} {post post' : Mem → Prop} (hK162 : ∀ (x0 : Int) (x1 : Mem), K162 x0 x1 → K162' x0 x1) (hpost : ∀ (x0 : Mem), post x0 → post' x0) : ∀ (n : Nat) (v1 : Int) (v2 : Int) (v3 : Int) (m : Mem), wp_X11_leave_14 K162 post n v1 v2 v3 m → wp_X11_leave_14 K162' post' n v1 v2 v3 m := by
  intro n
  induction n with
  | zero => intro v1 v2 v3 m; unfold wp_X11_leave_14; exact id
  | succ n ih =>
    intro v1 v2 v3 m
    unfold wp_X11_leave_14
    exact (mn_and (mn_imp (hK162 _ _)) (mn_imp (mn_and id (mn_all (fun _ => (mn_imp (mn_and (mn_imp (mn_X11_longest (fun _ _ => (mn_ex (fun _ => (mn_X11_leave_50 (fun _ _ _ _ => (ih _ _ _ _)) hpost _ _ _ _ _ _ _)))))) (mn_imp (mn_ex (fun _ => (mn_X11_leave_50 (fun _ _ _ _ => (ih _ _ _ _)) hpost _ _ _ _ _ _ _)))))))))))
theorem mn_X11_leave_176 {K196 K196' : Int → Int → Mem → Prop} {post post' : Mem → Prop} (hK196 : ∀ (x0 : Int) (x1 : Int) (x2 : Mem), K196 x0 x1 x2 → K196' x0 x1 x2) (hpost : ∀ (x0 : Mem), post x0 → post' x0) : ∀ (n : Nat) (v1 : Int) (v3 : Int) (m : Mem), wp_X11_leave_176 K196 post n v1 v3 m → wp_X11_leave_176 K196' post' n v1 v3 m := by
  intro n
  induction n with
  | zero => intro v1 v3 m; unfold wp_X11_leave_176; exact id
  | succ n ih =>
    intro v1 v3 m
    unfold wp_X11_leave_176
    exact (mn_and id (mn_and (mn_imp (hK196 _ _ _)) (mn_imp (ih _ _ _))))
theorem mn_X11_leave {v1 : Int} {m : Mem} {post post' : Mem → Prop} (hpost : ∀ (x0 : Mem), post x0 → post' x0) : wp_X11_leave v1 m post → wp_X11_leave v1 m post' := by
  unfold wp_X11_leave
  exact (mn_and id (mn_all (fun _ => (mn_imp (mn_ex (fun _ => (mn_X11_leave_14 (fun _ _ => (mn_and id (mn_and id (mn_all (fun _ => (mn_imp (mn_ex (fun _ => (mn_X11_leave_176 (fun _ _ _ => (mn_and id (mn_and id (mn_all (fun _ => (mn_imp (hpost _))))))) hpost _ _ _ _))))))))) hpost _ _ _ _ _)))))))
theorem mn_X11_anHour_12 {K2 K2' : Int → Mem → Prop} {post post' : Mem → Prop} (hK2 : ∀ (x0 : Int) (x1 : Mem), K2 x0 x1 → K2' x0 x1) (hpost : ∀ (x0 : Mem), post x0 → post' x0) : ∀ (n : Nat) (v1 : Int) (v2 : Int) (m : Mem), wp_X11_anHour_12 K2 post n v1 v2 m → wp_X11_anHour_12 K2' post' n v1 v2 m := by
  intro n
  induction n with
  | zero => intro v1 v2 m; unfold wp_X11_anHour_12; exact id
  | succ n ih =>
    intro v1 v2 m
    unfold wp_X11_anHour_12
    exact (mn_and (mn_imp (hK2 _ _)) (mn_imp (mn_and id (mn_and (mn_imp (ih _ _ _)) (mn_imp (mn_and id (mn_all (fun _ => (mn_imp (mn_X11_comeIn (fun _ => (ih _ _ _))))))))))))
theorem mn_X11_anHour_2 {K62 K62' : Mem → Prop} {post post' : Mem → Prop} (hK62 : ∀ (x0 : Mem), K62 x0 → K62' x0) (hpost : ∀ (x0 : Mem), post x0 → post' x0) : ∀ (n : Nat) (v1 : Int) (m : Mem), wp_X11_anHour_2 K62 post n v1 m → wp_X11_anHour_2 K62' post' n v1 m := by
  intro n
  induction n with
  | zero => intro v1 m; unfold wp_X11_anHour_2; exact id
  | succ n ih =>
    intro v1 m
    unfold wp_X11_anHour_2
    exact (mn_and (mn_imp (hK62 _)) (mn_imp (mn_ex (fun _ => (mn_X11_anHour_12 (fun _ _ => (ih _ _)) hpost _ _ _ _)))))
theorem mn_X11_anHour_172 {v1 : Int} {v2 : Int} {m : Mem} {K75 K75' : Int → Int → Mem → Prop} {post post' : Mem → Prop} (hK75 : ∀ (x0 : Int) (x1 : Int) (x2 : Mem), K75 x0 x1 x2 → K75' x0 x1 x2) (hpost : ∀ (x0 : Mem), post x0 → post' x0) : wp_X11_anHour_172 v1 v2 m K75 post → wp_X11_anHour_172 v1 v2 m K75' post' := by
  unfold wp_X11_anHour_172
  exact (mn_and id (mn_and id (mn_all (fun _ => (mn_imp (hK75 _ _ _))))))
theorem mn_X11_anHour_128 {v1 : Int} {v2 : Int} {s0 : Int} {m : Mem} {K75 K75' : Int → Int → Mem → Prop} {post post' : Mem → Prop} (hK75 : ∀ (x0 : Int) (x1 : Int) (x2 : Mem), K75 x0 x1 x2 → K75' x0 x1 x2) (hpost : ∀ (x0 : Mem), post x0 → post' x0) : wp_X11_anHour_128 v1 v2 s0 m K75 post → wp_X11_anHour_128 v1 v2 s0 m K75' post' := by
  unfold wp_X11_anHour_128
  exact (mn_and (mn_imp (hK75 _ _ _)) (mn_imp (mn_and id (mn_all (fun _ => (mn_imp (mn_and id (mn_X11_isClosed (fun _ _ => (mn_and (mn_imp (mn_X11_anHour_172 (fun _ _ _ => (hK75 _ _ _)) hpost)) (mn_imp (mn_and id (mn_X11_isClosed (fun _ _ => (mn_and (mn_imp (mn_X11_leave (fun _ => (hK75 _ _ _)))) (mn_imp (mn_X11_anHour_172 (fun _ _ _ => (hK75 _ _ _)) hpost)))))))))))))))))
theorem mn_X11_anHour_127 {v1 : Int} {v2 : Int} {m : Mem} {K75 K75' : Int → Int → Mem → Prop} {post post' : Mem → Prop} (hK75 : ∀ (x0 : Int) (x1 : Int) (x2 : Mem), K75 x0 x1 x2 → K75' x0 x1 x2) (hpost : ∀ (x0 : Mem), post x0 → post' x0) : wp_X11_anHour_127 v1 v2 m K75 post → wp_X11_anHour_127 v1 v2 m K75' post' := by
  unfold wp_X11_anHour_127
  exact (mn_X11_anHour_128 (fun _ _ _ => (hK75 _ _ _)) hpost)
theorem mn_X11_anHour_75 {post post' : Mem → Prop} (hpost : ∀ (x0 : Mem), post x0 → post' x0) : ∀ (n : Nat) (v1 : Int) (v2 : Int) (m : Mem), wp_X11_anHour_75 post n v1 v2 m → wp_X11_anHour_75 post' n v1 v2 m := by
  intro n
  induction n with
  | zero => intro v1 v2 m; unfold wp_X11_anHour_75; exact id
  | succ n ih =>
    intro v1 v2 m
    unfold wp_X11_anHour_75
    exact (mn_and (mn_imp (mn_all (fun _ => (mn_imp (hpost _))))) (mn_imp (mn_and id (mn_and (mn_imp (mn_X11_anHour_127 (fun _ _ _ => (ih _ _ _)) hpost)) (mn_imp (mn_and id (mn_and (mn_imp (mn_X11_anHour_127 (fun _ _ _ => (ih _ _ _)) hpost)) (mn_imp (mn_X11_anHour_128 (fun _ _ _ => (ih _ _ _)) hpost)))))))))
theorem mn_X11_anHour {m : Mem} {post post' : Mem → Prop} (hpost : ∀ (x0 : Mem), post x0 → post' x0) : wp_X11_anHour m post → wp_X11_anHour m post' := by
  unfold wp_X11_anHour
  exact (mn_ex (fun _ => (mn_X11_anHour_2 (fun _ => (mn_all (fun _ => (mn_imp (mn_ex (fun _ => (mn_X11_anHour_75 hpost _ _ _ _))))))) hpost _ _ _)))
theorem mn_X11_pass_31 {post post' : Int → Mem → Prop} (hpost : ∀ (x0 : Int) (x1 : Mem), post x0 x1 → post' x0 x1) : ∀ (n : Nat) (v1 : Int) (v2 : Int) (m : Mem), wp_X11_pass_31 post n v1 v2 m → wp_X11_pass_31 post' n v1 v2 m := by
  intro n
  induction n with
  | zero => intro v1 v2 m; unfold wp_X11_pass_31; exact id
  | succ n ih =>
    intro v1 v2 m
    unfold wp_X11_pass_31
    exact (mn_and (mn_imp (hpost _ _)) (mn_imp (mn_X11_anHour (fun _ => (ih _ _ _)))))
theorem mn_X11_pass {v1 : Int} {m : Mem} {post post' : Int → Mem → Prop} (hpost : ∀ (x0 : Int) (x1 : Mem), post x0 x1 → post' x0 x1) : wp_X11_pass v1 m post → wp_X11_pass v1 m post' := by
  unfold wp_X11_pass
  exact (mn_X11_in (fun _ _ => (mn_and (mn_imp (mn_and (mn_imp (mn_ex (fun _ => (mn_X11_pass_31 hpost _ _ _ _)))) (mn_imp (hpost _ _)))) (mn_imp (hpost _ _)))))
theorem mn_X11_wagonIs {v1 : Int} {v2 : Int} {m : Mem} {post post' : Int → Mem → Prop} (hpost : ∀ (x0 : Int) (x1 : Mem), post x0 x1 → post' x0 x1) : wp_X11_wagonIs v1 v2 m post → wp_X11_wagonIs v1 v2 m post' := by
  unfold wp_X11_wagonIs
  exact (mn_X11_in (fun _ _ => (mn_and (mn_imp (mn_X11_in (fun _ _ => (mn_and (mn_imp (hpost _ _)) (mn_imp (mn_and id (hpost _ _))))))) (mn_imp (hpost _ _)))))
theorem mn_X11_onTheWay_4 {post post' : Int → Mem → Prop} (hpost : ∀ (x0 : Int) (x1 : Mem), post x0 x1 → post' x0 x1) : ∀ (n : Nat) (v1 : Int) (v2 : Int) (v3 : Int) (m : Mem), wp_X11_onTheWay_4 post n v1 v2 v3 m → wp_X11_onTheWay_4 post' n v1 v2 v3 m := by
  intro n
  induction n with
  | zero => intro v1 v2 v3 m; unfold wp_X11_onTheWay_4; exact id
  | succ n ih =>
    intro v1 v2 v3 m
    unfold wp_X11_onTheWay_4
    exact (mn_and (mn_imp (hpost _ _)) (mn_imp (mn_and id (mn_and (mn_imp (mn_all (fun _ => (mn_imp (ih _ _ _ _))))) (mn_imp (mn_all (fun _ => (mn_imp (ih _ _ _ _)))))))))
theorem mn_X11_onTheWay {v1 : Int} {m : Mem} {post post' : Int → Mem → Prop} (hpost : ∀ (x0 : Int) (x1 : Mem), post x0 x1 → post' x0 x1) : wp_X11_onTheWay v1 m post → wp_X11_onTheWay v1 m post' := by
  unfold wp_X11_onTheWay
  exact (mn_ex (fun _ => (mn_X11_onTheWay_4 hpost _ _ _ _ _)))
theorem mn_X11_trainIs {v1 : Int} {v2 : Int} {m : Mem} {post post' : Int → Mem → Prop} (hpost : ∀ (x0 : Int) (x1 : Mem), post x0 x1 → post' x0 x1) : wp_X11_trainIs v1 v2 m post → wp_X11_trainIs v1 v2 m post' := by
  unfold wp_X11_trainIs
  exact (mn_X11_in (fun _ _ => (mn_and (mn_imp (mn_X11_in (fun _ _ => (mn_and (mn_imp (mn_and (mn_imp (hpost _ _)) (mn_imp (mn_X11_onTheWay (fun _ _ => (hpost _ _)))))) (mn_imp (mn_and id (hpost _ _))))))) (mn_imp (hpost _ _)))))
theorem mn_X11_yard_28 {post post' : Int → Mem → Prop} (hpost : ∀ (x0 : Int) (x1 : Mem), post x0 x1 → post' x0 x1) : ∀ (n : Nat) (v1 : Int) (v2 : Int) (v3 : Int) (v4 : Int) (m : Mem), wp_X11_yard_28 post n v1 v2 v3 v4 m → wp_X11_yard_28 post' n v1 v2 v3 v4 m := by
  intro n
  induction n with
  | zero => intro v1 v2 v3 v4 m; unfold wp_X11_yard_28; exact id
  | succ n ih =>
    intro v1 v2 v3 v4 m
    unfold wp_X11_yard_28
    exact (mn_and (mn_imp (hpost _ _)) (mn_imp (mn_and id (mn_and (mn_imp (mn_all (fun _ => (mn_imp (ih _ _ _ _ _))))) (mn_imp (mn_and (mn_imp (mn_all (fun _ => (mn_imp (ih _ _ _ _ _))))) (mn_imp (mn_and id (mn_and (mn_imp (mn_all (fun _ => (mn_imp (ih _ _ _ _ _))))) (mn_imp (mn_all (fun _ => (mn_imp (ih _ _ _ _ _))))))))))))))
theorem mn_X11_yard {v1 : Int} {v2 : Int} {m : Mem} {post post' : Int → Mem → Prop} (hpost : ∀ (x0 : Int) (x1 : Mem), post x0 x1 → post' x0 x1) : wp_X11_yard v1 v2 m post → wp_X11_yard v1 v2 m post' := by
  unfold wp_X11_yard
  exact (mn_X11_isYard (fun _ _ => (mn_and (mn_imp (mn_X11_in (fun _ _ => (mn_and (mn_imp (mn_ex (fun _ => (mn_X11_yard_28 hpost _ _ _ _ _ _)))) (mn_imp (hpost _ _)))))) (mn_imp (hpost _ _)))))
theorem mn_X11_rest {v1 : Int} {m : Mem} {post post' : Int → Mem → Prop} (hpost : ∀ (x0 : Int) (x1 : Mem), post x0 x1 → post' x0 x1) : wp_X11_rest v1 m post → wp_X11_rest v1 m post' := by
  unfold wp_X11_rest
  exact (mn_X11_in (fun _ _ => (mn_and (mn_imp (mn_all (fun _ => (mn_imp (mn_all (fun _ => (mn_imp (hpost _ _)))))))) (mn_imp (hpost _ _)))))
theorem mn_X11_gatherDuties_19 {K9 K9' : Int → Int → Mem → Prop} {post post' : Int → Mem → Prop} (hK9 : ∀ (x0 : Int) (x1 : Int) (x2 : Mem), K9 x0 x1 x2 → K9' x0 x1 x2) (hpost : ∀ (x0 : Int) (x1 : Mem), post x0 x1 → post' x0 x1) : ∀ (n : Nat) (v1 : Int) (v2 : Int) (v3 : Int) (m : Mem), wp_X11_gatherDuties_19 K9 post n v1 v2 v3 m → wp_X11_gatherDuties_19 K9' post' n v1 v2 v3 m := by
  intro n
  induction n with
  | zero => intro v1 v2 v3 m; unfold wp_X11_gatherDuties_19; exact id
  | succ n ih =>
    intro v1 v2 v3 m
    unfold wp_X11_gatherDuties_19
    exact (mn_and (mn_imp (hK9 _ _ _)) (mn_imp (mn_and id (mn_and (mn_imp (ih _ _ _ _)) (mn_imp (mn_and id (mn_all (fun _ => (mn_imp (mn_and id (mn_and id (mn_all (fun _ => (mn_imp (mn_and id (mn_all (fun _ => (mn_imp (mn_all (fun _ => (mn_imp (ih _ _ _ _))))))))))))))))))))))
theorem mn_X11_gatherDuties_9 {post post' : Int → Mem → Prop} (hpost : ∀ (x0 : Int) (x1 : Mem), post x0 x1 → post' x0 x1) : ∀ (n : Nat) (v1 : Int) (v2 : Int) (m : Mem), wp_X11_gatherDuties_9 post n v1 v2 m → wp_X11_gatherDuties_9 post' n v1 v2 m := by
  intro n
  induction n with
  | zero => intro v1 v2 m; unfold wp_X11_gatherDuties_9; exact id
  | succ n ih =>
    intro v1 v2 m
    unfold wp_X11_gatherDuties_9
    exact (mn_and (mn_imp (hpost _ _)) (mn_imp (mn_ex (fun _ => (mn_X11_gatherDuties_19 (fun _ _ _ => (ih _ _ _)) hpost _ _ _ _ _)))))
theorem mn_X11_gatherDuties {m : Mem} {post post' : Int → Mem → Prop} (hpost : ∀ (x0 : Int) (x1 : Mem), post x0 x1 → post' x0 x1) : wp_X11_gatherDuties m post → wp_X11_gatherDuties m post' := by
  unfold wp_X11_gatherDuties
  exact (mn_all (fun _ => (mn_imp (mn_ex (fun _ => (mn_X11_gatherDuties_9 hpost _ _ _ _))))))
theorem mn_X11_mayFollow_48 {v1 : Int} {v2 : Int} {v3 : Int} {s0 : Int} {m : Mem} {post post' : Int → Mem → Prop} (hpost : ∀ (x0 : Int) (x1 : Mem), post x0 x1 → post' x0 x1) : wp_X11_mayFollow_48 v1 v2 v3 s0 m post → wp_X11_mayFollow_48 v1 v2 v3 s0 m post' := by
  unfold wp_X11_mayFollow_48
  exact (mn_and (mn_imp (hpost _ _)) (mn_imp (mn_and id (mn_and id (mn_and id (mn_and (mn_imp (hpost _ _)) (mn_imp (hpost _ _))))))))
theorem mn_X11_mayFollow {v1 : Int} {v2 : Int} {m : Mem} {post post' : Int → Mem → Prop} (hpost : ∀ (x0 : Int) (x1 : Mem), post x0 x1 → post' x0 x1) : wp_X11_mayFollow v1 v2 m post → wp_X11_mayFollow v1 v2 m post' := by
  unfold wp_X11_mayFollow
  exact (mn_and id (mn_all (fun _ => (mn_imp (mn_and id (mn_and id (mn_and id (mn_and id (mn_and id (mn_and (mn_imp (mn_X11_mayFollow_48 hpost)) (mn_imp (mn_X11_mayFollow_48 hpost))))))))))))
theorem mn_X11_turnBack_2 {post post' : Mem → Prop} (hpost : ∀ (x0 : Mem), post x0 → post' x0) : ∀ (n : Nat) (v2 : Int) (m : Mem), wp_X11_turnBack_2 post n v2 m → wp_X11_turnBack_2 post' n v2 m := by
  intro n
  induction n with
  | zero => intro v2 m; unfold wp_X11_turnBack_2; exact id
  | succ n ih =>
    intro v2 m
    unfold wp_X11_turnBack_2
    exact (mn_and (mn_imp (hpost _)) (mn_imp (mn_and id (mn_all (fun _ => (mn_imp (mn_and id (mn_all (fun _ => (mn_imp (mn_and id (mn_all (fun _ => (mn_imp (mn_and id (mn_all (fun _ => (mn_imp (ih _ _)))))))))))))))))))
theorem mn_X11_turnBack {v1 : Int} {m : Mem} {post post' : Mem → Prop} (hpost : ∀ (x0 : Mem), post x0 → post' x0) : wp_X11_turnBack v1 m post → wp_X11_turnBack v1 m post' := by
  unfold wp_X11_turnBack
  exact (mn_ex (fun _ => (mn_X11_turnBack_2 hpost _ _ _)))
theorem mn_X11_join_2 {K23 K23' : Int → Mem → Prop} {post post' : Int → Mem → Prop} (hK23 : ∀ (x0 : Int) (x1 : Mem), K23 x0 x1 → K23' x0 x1) (hpost : ∀ (x0 : Int) (x1 : Mem), post x0 x1 → post' x0 x1) : ∀ (n : Nat) (v1 : Int) (v2 : Int) (m : Mem), wp_X11_join_2 K23 post n v1 v2 m → wp_X11_join_2 K23' post' n v1 v2 m := by
  intro n
  induction n with
  | zero => intro v1 v2 m; unfold wp_X11_join_2; exact id
  | succ n ih =>
    intro v1 v2 m
    unfold wp_X11_join_2
    exact (mn_and (mn_imp (hK23 _ _)) (mn_imp (mn_and id (mn_all (fun _ => (mn_imp (ih _ _ _)))))))
theorem mn_X11_join_42 {K34 K34' : Int → Int → Mem → Prop} {post post' : Int → Mem → Prop} (hK34 : ∀ (x0 : Int) (x1 : Int) (x2 : Mem), K34 x0 x1 x2 → K34' x0 x1 x2) (hpost : ∀ (x0 : Int) (x1 : Mem), post x0 x1 → post' x0 x1) : ∀ (n : Nat) (v2 : Int) (v3 : Int) (v4 : Int) (m : Mem), wp_X11_join_42 K34 post n v2 v3 v4 m → wp_X11_join_42 K34' post' n v2 v3 v4 m := by
  intro n
  induction n with
  | zero => intro v2 v3 v4 m; unfold wp_X11_join_42; exact id
  | succ n ih =>
    intro v2 v3 v4 m
    unfold wp_X11_join_42
    exact (mn_and (mn_imp (hK34 _ _ _)) (mn_imp (mn_and id (mn_and (mn_imp (ih _ _ _ _)) (mn_imp (mn_and id (mn_X11_mayFollow (fun _ _ => (mn_and (mn_imp (ih _ _ _ _)) (mn_imp (mn_and id (mn_and id (mn_all (fun _ => (mn_imp (mn_and id (mn_and (mn_imp (mn_and id (mn_and id (mn_all (fun _ => (mn_imp (ih _ _ _ _))))))) (mn_imp (mn_X11_turnBack (fun _ => (hpost _ _)))))))))))))))))))))
theorem mn_X11_join_34 {post post' : Int → Mem → Prop} (hpost : ∀ (x0 : Int) (x1 : Mem), post x0 x1 → post' x0 x1) : ∀ (n : Nat) (v2 : Int) (v3 : Int) (m : Mem), wp_X11_join_34 post n v2 v3 m → wp_X11_join_34 post' n v2 v3 m := by
  intro n
  induction n with
  | zero => intro v2 v3 m; unfold wp_X11_join_34; exact id
  | succ n ih =>
    intro v2 v3 m
    unfold wp_X11_join_34
    exact (mn_and (mn_imp (hpost _ _)) (mn_imp (mn_ex (fun _ => (mn_X11_join_42 (fun _ _ _ => (ih _ _ _)) hpost _ _ _ _ _)))))
theorem mn_X11_join {v1 : Int} {m : Mem} {post post' : Int → Mem → Prop} (hpost : ∀ (x0 : Int) (x1 : Mem), post x0 x1 → post' x0 x1) : wp_X11_join v1 m post → wp_X11_join v1 m post' := by
  unfold wp_X11_join
  exact (mn_ex (fun _ => (mn_X11_join_2 (fun _ _ => (mn_all (fun _ => (mn_imp (mn_ex (fun _ => (mn_X11_join_34 hpost _ _ _ _))))))) hpost _ _ _ _)))
theorem mn_X11_crews_19 {K55 K55' : Int → Int → Int → Int → Mem → Prop} {post post' : Int → Mem → Prop} (hK55 : ∀ (x0 : Int) (x1 : Int) (x2 : Int) (x3 : Int) (x4 : Mem), K55 x0 x1 x2 x3 x4 → K55' x0 x1 x2 x3 x4) (hpost : ∀ (x0 : Int) (x1 : Mem), post x0 x1 → post' x0 x1) : ∀ (n : Nat) (v1 : Int) (v2 : Int) (v3 : Int) (m : Mem), wp_X11_crews_19 K55 post n v1 v2 v3 m → wp_X11_crews_19 K55' post' n v1 v2 v3 m := by
  intro n
  induction n with
  | zero => intro v1 v2 v3 m; unfold wp_X11_crews_19; exact id
  | succ n ih =>
    intro v1 v2 v3 m
    unfold wp_X11_crews_19
    exact (mn_and (mn_imp (mn_all (fun _ => (mn_imp (hK55 _ _ _ _ _))))) (mn_imp (mn_and id (mn_all (fun _ => (mn_imp (mn_and id (mn_all (fun _ => (mn_imp (ih _ _ _ _)))))))))))
theorem mn_X11_crews_55 {K92 K92' : Int → Int → Int → Mem → Prop} {post post' : Int → Mem → Prop} (hK92 : ∀ (x0 : Int) (x1 : Int) (x2 : Int) (x3 : Mem), K92 x0 x1 x2 x3 → K92' x0 x1 x2 x3) (hpost : ∀ (x0 : Int) (x1 : Mem), post x0 x1 → post' x0 x1) : ∀ (n : Nat) (v1 : Int) (v2 : Int) (v3 : Int) (v4 : Int) (m : Mem), wp_X11_crews_55 K92 post n v1 v2 v3 v4 m → wp_X11_crews_55 K92' post' n v1 v2 v3 v4 m := by
  intro n
  induction n with
  | zero => intro v1 v2 v3 v4 m; unfold wp_X11_crews_55; exact id
  | succ n ih =>
    intro v1 v2 v3 v4 m
    unfold wp_X11_crews_55
    exact (mn_and (mn_imp (hK92 _ _ _ _)) (mn_imp (mn_and (mn_imp (hK92 _ _ _ _)) (mn_imp (mn_X11_join (fun _ _ => (mn_and (mn_imp (mn_all (fun _ => (mn_imp (ih _ _ _ _ _))))) (mn_imp (mn_all (fun _ => (mn_imp (ih _ _ _ _ _))))))))))))
theorem mn_X11_crews_92 {v1 : Int} {v2 : Int} {v3 : Int} {m : Mem} {post post' : Int → Mem → Prop} (hpost : ∀ (x0 : Int) (x1 : Mem), post x0 x1 → post' x0 x1) : wp_X11_crews_92 v1 v2 v3 m post → wp_X11_crews_92 v1 v2 v3 m post' := by
  unfold wp_X11_crews_92
  exact (mn_and (mn_imp (mn_and (mn_imp (hpost _ _)) (mn_imp (hpost _ _)))) (mn_imp (hpost _ _)))
theorem mn_X11_crews {v1 : Int} {m : Mem} {post post' : Int → Mem → Prop} (hpost : ∀ (x0 : Int) (x1 : Mem), post x0 x1 → post' x0 x1) : wp_X11_crews v1 m post → wp_X11_crews v1 m post' := by
  unfold wp_X11_crews
  exact (mn_X11_in (fun _ _ => (mn_and (mn_imp (mn_X11_gatherDuties (fun _ _ => (mn_ex (fun _ => (mn_X11_crews_19 (fun _ _ _ _ _ => (mn_ex (fun _ => (mn_X11_crews_55 (fun _ _ _ _ => (mn_X11_crews_92 hpost)) hpost _ _ _ _ _ _)))) hpost _ _ _ _ _)))))) (mn_imp (hpost _ _)))))
theorem mn_X11_drive {m : Mem} {post post' : Int → Mem → Prop} (hpost : ∀ (x0 : Int) (x1 : Mem), post x0 x1 → post' x0 x1) : wp_X11_drive m post → wp_X11_drive m post' := by
  unfold wp_X11_drive
  exact (mn_all (fun _ => (mn_imp (mn_all (fun _ => (mn_imp (hpost _ _)))))))
theorem mn_X11_roll {v1 : Int} {m : Mem} {post post' : Int → Mem → Prop} (hpost : ∀ (x0 : Int) (x1 : Mem), post x0 x1 → post' x0 x1) : wp_X11_roll v1 m post → wp_X11_roll v1 m post' := by
  unfold wp_X11_roll
  exact (mn_X11_in (fun _ _ => (mn_and (mn_imp (mn_and (mn_imp (mn_and id (mn_all (fun _ => (mn_imp (mn_all (fun _ => (mn_imp (hpost _ _))))))))) (mn_imp (hpost _ _)))) (mn_imp (hpost _ _)))))
theorem mn_X11_numberAll_47 {v3 : Int} {v4 : Int} {s0 : Int} {s1 : Int} {m : Mem} {K15 K15' : Int → Int → Int → Int → Mem → Prop} {post post' : Int → Mem → Prop} (hK15 : ∀ (x0 : Int) (x1 : Int) (x2 : Int) (x3 : Int) (x4 : Mem), K15 x0 x1 x2 x3 x4 → K15' x0 x1 x2 x3 x4) (hpost : ∀ (x0 : Int) (x1 : Mem), post x0 x1 → post' x0 x1) : wp_X11_numberAll_47 v3 v4 s0 s1 m K15 post → wp_X11_numberAll_47 v3 v4 s0 s1 m K15' post' := by
  unfold wp_X11_numberAll_47
  exact (mn_all (fun _ => (mn_imp (mn_and id (mn_all (fun _ => (mn_imp (hK15 _ _ _ _ _))))))))
theorem mn_X11_numberAll_15 {K6 K6' : Int → Int → Int → Mem → Prop} {post post' : Int → Mem → Prop} (hK6 : ∀ (x0 : Int) (x1 : Int) (x2 : Int) (x3 : Mem), K6 x0 x1 x2 x3 → K6' x0 x1 x2 x3) (hpost : ∀ (x0 : Int) (x1 : Mem), post x0 x1 → post' x0 x1) : ∀ (n : Nat) (v1 : Int) (v2 : Int) (v3 : Int) (v4 : Int) (m : Mem), wp_X11_numberAll_15 K6 post n v1 v2 v3 v4 m → wp_X11_numberAll_15 K6' post' n v1 v2 v3 v4 m := by
  intro n
  induction n with
  | zero => intro v1 v2 v3 v4 m; unfold wp_X11_numberAll_15; exact id
  | succ n ih =>
    intro v1 v2 v3 v4 m
    unfold wp_X11_numberAll_15
    exact (mn_and (mn_imp (hK6 _ _ _ _)) (mn_imp (mn_and id (mn_and (mn_imp (ih _ _ _ _ _)) (mn_imp (mn_and (mn_imp (mn_X11_numberAll_47 (fun _ _ _ _ _ => (ih _ _ _ _ _)) hpost)) (mn_imp (mn_X11_numberAll_47 (fun _ _ _ _ _ => (ih _ _ _ _ _)) hpost))))))))
theorem mn_X11_numberAll_6 {post post' : Int → Mem → Prop} (hpost : ∀ (x0 : Int) (x1 : Mem), post x0 x1 → post' x0 x1) : ∀ (n : Nat) (v1 : Int) (v2 : Int) (v3 : Int) (m : Mem), wp_X11_numberAll_6 post n v1 v2 v3 m → wp_X11_numberAll_6 post' n v1 v2 v3 m := by
  intro n
  induction n with
  | zero => intro v1 v2 v3 m; unfold wp_X11_numberAll_6; exact id
  | succ n ih =>
    intro v1 v2 v3 m
    unfold wp_X11_numberAll_6
    exact (mn_and (mn_imp (hpost _ _)) (mn_imp (mn_ex (fun _ => (mn_X11_numberAll_15 (fun _ _ _ _ => (ih _ _ _ _)) hpost _ _ _ _ _ _)))))
theorem mn_X11_numberAll {m : Mem} {post post' : Int → Mem → Prop} (hpost : ∀ (x0 : Int) (x1 : Mem), post x0 x1 → post' x0 x1) : wp_X11_numberAll m post → wp_X11_numberAll m post' := by
  unfold wp_X11_numberAll
  exact (mn_ex (fun _ => (mn_X11_numberAll_6 hpost _ _ _ _ _)))
theorem mn_X11_number {v1 : Int} {m : Mem} {post post' : Int → Mem → Prop} (hpost : ∀ (x0 : Int) (x1 : Mem), post x0 x1 → post' x0 x1) : wp_X11_number v1 m post → wp_X11_number v1 m post' := by
  unfold wp_X11_number
  exact (mn_X11_in (fun _ _ => (mn_and (mn_imp (mn_X11_numberAll (fun _ _ => (mn_and id (hpost _ _))))) (mn_imp (hpost _ _)))))
theorem mn_X11_stepsBy_10 {post post' : Int → Mem → Prop} (hpost : ∀ (x0 : Int) (x1 : Mem), post x0 x1 → post' x0 x1) : ∀ (n : Nat) (v1 : Int) (v2 : Int) (v3 : Int) (v4 : Int) (m : Mem), wp_X11_stepsBy_10 post n v1 v2 v3 v4 m → wp_X11_stepsBy_10 post' n v1 v2 v3 v4 m := by
  intro n
  induction n with
  | zero => intro v1 v2 v3 v4 m; unfold wp_X11_stepsBy_10; exact id
  | succ n ih =>
    intro v1 v2 v3 v4 m
    unfold wp_X11_stepsBy_10
    exact (mn_and (mn_imp (hpost _ _)) (mn_imp (mn_all (fun _ => (mn_imp (ih _ _ _ _ _))))))
theorem mn_X11_stepsBy {v1 : Int} {m : Mem} {post post' : Int → Mem → Prop} (hpost : ∀ (x0 : Int) (x1 : Mem), post x0 x1 → post' x0 x1) : wp_X11_stepsBy v1 m post → wp_X11_stepsBy v1 m post' := by
  unfold wp_X11_stepsBy
  exact (mn_X11_numberAll (fun _ _ => (mn_ex (fun _ => (mn_X11_stepsBy_10 hpost _ _ _ _ _ _)))))
theorem mn_X11_steps {v1 : Int} {m : Mem} {post post' : Int → Mem → Prop} (hpost : ∀ (x0 : Int) (x1 : Mem), post x0 x1 → post' x0 x1) : wp_X11_steps v1 m post → wp_X11_steps v1 m post' := by
  unfold wp_X11_steps
  exact (mn_X11_in (fun _ _ => (mn_and (mn_imp (mn_and (mn_imp (mn_X11_stepsBy (fun _ _ => (hpost _ _)))) (mn_imp (hpost _ _)))) (mn_imp (hpost _ _)))))
theorem mn_X11_stands_46 {K76 K76' : Int → Int → Int → Int → Int → Mem → Prop} {post post' : Int → Mem → Prop} (hK76 : ∀ (x0 : Int) (x1 : Int) (x2 : Int) (x3 : Int) (x4 : Int) (x5 : Mem), K76 x0 x1 x2 x3 x4 x5 → K76' x0 x1 x2 x3 x4 x5) (hpost : ∀ (x0 : Int) (x1 : Mem), post x0 x1 → post' x0 x1) : ∀ (n : Nat) (v1 : Int) (v2 : Int) (v3 : Int) (v4 : Int) (m : Mem), wp_X11_stands_46 K76 post n v1 v2 v3 v4 m → wp_X11_stands_46 K76' post' n v1 v2 v3 v4 m := by
  intro n
  induction n with
  | zero => intro v1 v2 v3 v4 m; unfold wp_X11_stands_46; exact id
  | succ n ih =>
    intro v1 v2 v3 v4 m
    unfold wp_X11_stands_46
    exact (mn_and (mn_imp (hK76 _ _ _ _ _ _)) (mn_imp (mn_and id (mn_all (fun _ => (mn_imp (ih _ _ _ _ _)))))))
theorem mn_X11_stands_97 {K88 K88' : Int → Int → Int → Int → Int → Int → Int → Mem → Prop} {post post' : Int → Mem → Prop} (hK88 : ∀ (x0 : Int) (x1 : Int) (x2 : Int) (x3 : Int) (x4 : Int) (x5 : Int) (x6 : Int) (x7 : Mem), K88 x0 x1 x2 x3 x4 x5 x6 x7 → K88' x0 x1 x2 x3 x4 x5 x6 x7) (hpost : ∀ (x0 : Int) (x1 : Mem), post x0 x1 → post' x0 x1) : ∀ (n : Nat) (v1 : Int) (v2 : Int) (v3 : Int) (v4 : Int) (v5 : Int) (v6 : Int) (v7 : Int) (v8 : Int) (m : Mem), wp_X11_stands_97 K88 post n v1 v2 v3 v4 v5 v6 v7 v8 m → wp_X11_stands_97 K88' post' n v1 v2 v3 v4 v5 v6 v7 v8 m := by
  intro n
  induction n with
  | zero => intro v1 v2 v3 v4 v5 v6 v7 v8 m; unfold wp_X11_stands_97; exact id
  | succ n ih =>
    intro v1 v2 v3 v4 v5 v6 v7 v8 m
    unfold wp_X11_stands_97
    exact (mn_and (mn_imp (hK88 _ _ _ _ _ _ _ _)) (mn_imp (mn_and id (mn_and id (mn_and id (mn_and id (mn_and (mn_imp (ih _ _ _ _ _ _ _ _ _)) (mn_imp (mn_and id (mn_and id (mn_all (fun _ => (mn_imp (ih _ _ _ _ _ _ _ _ _))))))))))))))
theorem mn_X11_stands_88 {K160 K160' : Int → Int → Int → Int → Int → Int → Mem → Prop} {post post' : Int → Mem → Prop} (hK160 : ∀ (x0 : Int) (x1 : Int) (x2 : Int) (x3 : Int) (x4 : Int) (x5 : Int) (x6 : Mem), K160 x0 x1 x2 x3 x4 x5 x6 → K160' x0 x1 x2 x3 x4 x5 x6) (hpost : ∀ (x0 : Int) (x1 : Mem), post x0 x1 → post' x0 x1) : ∀ (n : Nat) (v1 : Int) (v2 : Int) (v3 : Int) (v4 : Int) (v5 : Int) (v6 : Int) (v7 : Int) (m : Mem), wp_X11_stands_88 K160 post n v1 v2 v3 v4 v5 v6 v7 m → wp_X11_stands_88 K160' post' n v1 v2 v3 v4 v5 v6 v7 m := by
  intro n
  induction n with
  | zero => intro v1 v2 v3 v4 v5 v6 v7 m; unfold wp_X11_stands_88; exact id
  | succ n ih =>
    intro v1 v2 v3 v4 v5 v6 v7 m
    unfold wp_X11_stands_88
    exact (mn_and (mn_imp (hK160 _ _ _ _ _ _ _)) (mn_imp (mn_ex (fun _ => (mn_X11_stands_97 (fun _ _ _ _ _ _ _ _ => (ih _ _ _ _ _ _ _ _)) hpost _ _ _ _ _ _ _ _ _ _)))))
theorem mn_X11_stands_160 {K76 K76' : Int → Int → Int → Int → Int → Mem → Prop} {post post' : Int → Mem → Prop} (hK76 : ∀ (x0 : Int) (x1 : Int) (x2 : Int) (x3 : Int) (x4 : Int) (x5 : Mem), K76 x0 x1 x2 x3 x4 x5 → K76' x0 x1 x2 x3 x4 x5) (hpost : ∀ (x0 : Int) (x1 : Mem), post x0 x1 → post' x0 x1) : ∀ (n : Nat) (v1 : Int) (v2 : Int) (v3 : Int) (v4 : Int) (v5 : Int) (v7 : Int) (m : Mem), wp_X11_stands_160 K76 post n v1 v2 v3 v4 v5 v7 m → wp_X11_stands_160 K76' post' n v1 v2 v3 v4 v5 v7 m := by
  intro n
  induction n with
  | zero => intro v1 v2 v3 v4 v5 v7 m; unfold wp_X11_stands_160; exact id
  | succ n ih =>
    intro v1 v2 v3 v4 v5 v7 m
    unfold wp_X11_stands_160
    exact (mn_and (mn_imp (mn_all (fun _ => (mn_imp (hK76 _ _ _ _ _ _))))) (mn_imp (mn_and id (mn_and id (mn_all (fun _ => (mn_imp (ih _ _ _ _ _ _ _))))))))
theorem mn_X11_stands_76 {post post' : Int → Mem → Prop} (hpost : ∀ (x0 : Int) (x1 : Mem), post x0 x1 → post' x0 x1) : ∀ (n : Nat) (v1 : Int) (v2 : Int) (v3 : Int) (v4 : Int) (v5 : Int) (m : Mem), wp_X11_stands_76 post n v1 v2 v3 v4 v5 m → wp_X11_stands_76 post' n v1 v2 v3 v4 v5 m := by
  intro n
  induction n with
  | zero => intro v1 v2 v3 v4 v5 m; unfold wp_X11_stands_76; exact id
  | succ n ih =>
    intro v1 v2 v3 v4 v5 m
    unfold wp_X11_stands_76
    exact (mn_and (mn_imp (mn_and id (hpost _ _))) (mn_imp (mn_ex (fun _ => (mn_X11_stands_88 (fun _ _ _ _ _ _ _ => (mn_ex (fun _ => (mn_X11_stands_160 (fun _ _ _ _ _ _ => (ih _ _ _ _ _ _)) hpost _ _ _ _ _ _ _ _)))) hpost _ _ _ _ _ _ _ _ _)))))
theorem mn_X11_stands {v1 : Int} {v2 : Int} {v3 : Int} {m : Mem} {post post' : Int → Mem → Prop} (hpost : ∀ (x0 : Int) (x1 : Mem), post x0 x1 → post' x0 x1) : wp_X11_stands v1 v2 v3 m post → wp_X11_stands v1 v2 v3 m post' := by
  unfold wp_X11_stands
  exact (mn_X11_in (fun _ _ => (mn_and (mn_imp (mn_X11_in (fun _ _ => (mn_and (mn_imp (hpost _ _)) (mn_imp (mn_X11_stepsBy (fun _ _ => (mn_X11_in (fun _ _ => (mn_and (mn_imp (mn_ex (fun _ => (mn_X11_stands_46 (fun _ _ _ _ _ _ => (mn_ex (fun _ => (mn_X11_stands_76 hpost _ _ _ _ _ _ _)))) hpost _ _ _ _ _ _)))) (mn_imp (hpost _ _)))))))))))) (mn_imp (hpost _ _)))))
theorem mn_X11_load {v1 : Int} {v2 : Int} {v3 : Int} {m : Mem} {post post' : Int → Mem → Prop} (hpost : ∀ (x0 : Int) (x1 : Mem), post x0 x1 → post' x0 x1) : wp_X11_load v1 v2 v3 m post → wp_X11_load v1 v2 v3 m post' := by
  unfold wp_X11_load
  exact (mn_X11_isYard (fun _ _ => (mn_and (mn_imp (hpost _ _)) (mn_imp (mn_X11_isYard (fun _ _ => (mn_and (mn_imp (hpost _ _)) (mn_imp (mn_and (mn_imp (mn_X11_in (fun _ _ => (mn_and (mn_imp (mn_and id (mn_all (fun _ => (mn_imp (mn_and id (mn_all (fun _ => (mn_imp (hpost _ _)))))))))) (mn_imp (hpost _ _)))))) (mn_imp (hpost _ _)))))))))))
theorem mn_X11_tracks {v1 : Int} {v2 : Int} {m : Mem} {post post' : Int → Mem → Prop} (hpost : ∀ (x0 : Int) (x1 : Mem), post x0 x1 → post' x0 x1) : wp_X11_tracks v1 v2 m post → wp_X11_tracks v1 v2 m post' := by
  unfold wp_X11_tracks
  exact (mn_X11_isYard (fun _ _ => (mn_and (mn_imp (mn_X11_in (fun _ _ => (mn_and (mn_imp (mn_and id (mn_all (fun _ => (mn_imp (mn_and id (mn_all (fun _ => (mn_imp (hpost _ _)))))))))) (mn_imp (hpost _ _)))))) (mn_imp (hpost _ _)))))
theorem mn_X11_price_54 {v1 : Int} {v2 : Int} {v3 : Int} {s0 : Int} {m : Mem} {post post' : Int → Mem → Prop} (hpost : ∀ (x0 : Int) (x1 : Mem), post x0 x1 → post' x0 x1) : wp_X11_price_54 v1 v2 v3 s0 m post → wp_X11_price_54 v1 v2 v3 s0 m post' := by
  unfold wp_X11_price_54
  exact (mn_all (fun _ => (mn_imp (mn_and (mn_imp (mn_all (fun _ => (mn_imp (hpost _ _))))) (mn_imp (mn_all (fun _ => (mn_imp (hpost _ _)))))))))
theorem mn_X11_price_40 {v1 : Int} {v2 : Int} {s0 : Int} {m : Mem} {post post' : Int → Mem → Prop} (hpost : ∀ (x0 : Int) (x1 : Mem), post x0 x1 → post' x0 x1) : wp_X11_price_40 v1 v2 s0 m post → wp_X11_price_40 v1 v2 s0 m post' := by
  unfold wp_X11_price_40
  exact (mn_and (mn_imp (mn_X11_price_54 hpost)) (mn_imp (mn_X11_price_54 hpost)))
theorem mn_X11_price {v1 : Int} {v2 : Int} {m : Mem} {post post' : Int → Mem → Prop} (hpost : ∀ (x0 : Int) (x1 : Mem), post x0 x1 → post' x0 x1) : wp_X11_price v1 v2 m post → wp_X11_price v1 v2 m post' := by
  unfold wp_X11_price
  exact (mn_X11_in (fun _ _ => (mn_and (mn_imp (mn_X11_in (fun _ _ => (mn_and (mn_imp (mn_and (mn_imp (mn_X11_price_40 hpost)) (mn_imp (mn_X11_price_40 hpost)))) (mn_imp (hpost _ _)))))) (mn_imp (hpost _ _)))))
theorem mn_X11_costOf_26 {K14 K14' : Int → Int → Mem → Prop} {post post' : Int → Mem → Prop} (hK14 : ∀ (x0 : Int) (x1 : Int) (x2 : Mem), K14 x0 x1 x2 → K14' x0 x1 x2) (hpost : ∀ (x0 : Int) (x1 : Mem), post x0 x1 → post' x0 x1) : ∀ (n : Nat) (v3 : Int) (v4 : Int) (v5 : Int) (m : Mem), wp_X11_costOf_26 K14 post n v3 v4 v5 m → wp_X11_costOf_26 K14' post' n v3 v4 v5 m := by
  intro n
  induction n with
  | zero => intro v3 v4 v5 m; unfold wp_X11_costOf_26; exact id
  | succ n ih =>
    intro v3 v4 v5 m
    unfold wp_X11_costOf_26
    exact (mn_and (mn_imp (hK14 _ _ _)) (mn_imp (mn_and id (mn_and (mn_imp (ih _ _ _ _)) (mn_imp (mn_and id (mn_and (mn_imp (mn_and id (mn_and id (mn_all (fun _ => (mn_imp (ih _ _ _ _))))))) (mn_imp (hpost _ _)))))))))
theorem mn_X11_costOf_14 {post post' : Int → Mem → Prop} (hpost : ∀ (x0 : Int) (x1 : Mem), post x0 x1 → post' x0 x1) : ∀ (n : Nat) (v3 : Int) (v4 : Int) (m : Mem), wp_X11_costOf_14 post n v3 v4 m → wp_X11_costOf_14 post' n v3 v4 m := by
  intro n
  induction n with
  | zero => intro v3 v4 m; unfold wp_X11_costOf_14; exact id
  | succ n ih =>
    intro v3 v4 m
    unfold wp_X11_costOf_14
    exact (mn_and (mn_imp (hpost _ _)) (mn_imp (mn_ex (fun _ => (mn_X11_costOf_26 (fun _ _ _ => (ih _ _ _)) hpost _ _ _ _ _)))))
theorem mn_X11_costOf {v1 : Int} {m : Mem} {post post' : Int → Mem → Prop} (hpost : ∀ (x0 : Int) (x1 : Mem), post x0 x1 → post' x0 x1) : wp_X11_costOf v1 m post → wp_X11_costOf v1 m post' := by
  unfold wp_X11_costOf
  exact (mn_X11_spread (fun _ => (mn_ex (fun _ => (mn_X11_costOf_14 hpost _ _ _ _)))))
theorem mn_X11_ones_4 {post post' : Int → Mem → Prop} (hpost : ∀ (x0 : Int) (x1 : Mem), post x0 x1 → post' x0 x1) : ∀ (n : Nat) (v2 : Int) (v3 : Int) (m : Mem), wp_X11_ones_4 post n v2 v3 m → wp_X11_ones_4 post' n v2 v3 m := by
  intro n
  induction n with
  | zero => intro v2 v3 m; unfold wp_X11_ones_4; exact id
  | succ n ih =>
    intro v2 v3 m
    unfold wp_X11_ones_4
    exact (mn_and (mn_imp (hpost _ _)) (mn_imp (mn_all (fun _ => (mn_imp (ih _ _ _))))))
theorem mn_X11_ones {v0 : Int} {m : Mem} {post post' : Int → Mem → Prop} (hpost : ∀ (x0 : Int) (x1 : Mem), post x0 x1 → post' x0 x1) : wp_X11_ones v0 m post → wp_X11_ones v0 m post' := by
  unfold wp_X11_ones
  exact (mn_ex (fun _ => (mn_X11_ones_4 hpost _ _ _ _)))
theorem mn_X11_isNet_24 {post post' : Int → Mem → Prop} (hpost : ∀ (x0 : Int) (x1 : Mem), post x0 x1 → post' x0 x1) : ∀ (n : Nat) (v1 : Int) (v3 : Int) (v4 : Int) (m : Mem), wp_X11_isNet_24 post n v1 v3 v4 m → wp_X11_isNet_24 post' n v1 v3 v4 m := by
  intro n
  induction n with
  | zero => intro v1 v3 v4 m; unfold wp_X11_isNet_24; exact id
  | succ n ih =>
    intro v1 v3 v4 m
    unfold wp_X11_isNet_24
    exact (mn_and (mn_imp (mn_and id (hpost _ _))) (mn_imp (mn_and (mn_imp (ih _ _ _ _)) (mn_imp (mn_X11_ones (fun _ _ => (mn_and id (mn_and (mn_imp (ih _ _ _ _)) (mn_imp (ih _ _ _ _))))))))))
theorem mn_X11_isNet {v1 : Int} {m : Mem} {post post' : Int → Mem → Prop} (hpost : ∀ (x0 : Int) (x1 : Mem), post x0 x1 → post' x0 x1) : wp_X11_isNet v1 m post → wp_X11_isNet v1 m post' := by
  unfold wp_X11_isNet
  exact (mn_X11_allLines (fun _ _ => (mn_and (mn_imp (mn_ex (fun _ => (mn_X11_isNet_24 hpost _ _ _ _ _)))) (mn_imp (mn_ex (fun _ => (mn_X11_isNet_24 hpost _ _ _ _ _)))))))
theorem mn_X11_cost {v1 : Int} {m : Mem} {post post' : Int → Mem → Prop} (hpost : ∀ (x0 : Int) (x1 : Mem), post x0 x1 → post' x0 x1) : wp_X11_cost v1 m post → wp_X11_cost v1 m post' := by
  unfold wp_X11_cost
  exact (mn_X11_isNet (fun _ _ => (mn_and (mn_imp (hpost _ _)) (mn_imp (mn_X11_costOf (fun _ _ => (hpost _ _)))))))
theorem mn_X11_seekNet_33 {K67 K67' : Int → Int → Int → Mem → Prop} {post post' : Mem → Prop} (hK67 : ∀ (x0 : Int) (x1 : Int) (x2 : Int) (x3 : Mem), K67 x0 x1 x2 x3 → K67' x0 x1 x2 x3) (hpost : ∀ (x0 : Mem), post x0 → post' x0) : ∀ (n : Nat) (v1 : Int) (v2 : Int) (v3 : Int) (v5 : Int) (m : Mem), wp_X11_seekNet_33 K67 post n v1 v2 v3 v5 m → wp_X11_seekNet_33 K67' post' n v1 v2 v3 v5 m := by
  intro n
  induction n with
  | zero => intro v1 v2 v3 v5 m; unfold wp_X11_seekNet_33; exact id
  | succ n ih =>
    intro v1 v2 v3 v5 m
    unfold wp_X11_seekNet_33
    exact (mn_and (mn_imp (hK67 _ _ _ _)) (mn_imp (mn_all (fun _ => (mn_imp (ih _ _ _ _ _))))))
theorem mn_X11_seekNet_156 {v1 : Int} {v2 : Int} {v3 : Int} {v5 : Int} {s0 : Int} {m : Mem} {K23 K23' : Int → Int → Mem → Prop} {post post' : Mem → Prop} (hK23 : ∀ (x0 : Int) (x1 : Int) (x2 : Mem), K23 x0 x1 x2 → K23' x0 x1 x2) (hpost : ∀ (x0 : Mem), post x0 → post' x0) : wp_X11_seekNet_156 v1 v2 v3 v5 s0 m K23 post → wp_X11_seekNet_156 v1 v2 v3 v5 s0 m K23' post' := by
  unfold wp_X11_seekNet_156
  exact (mn_and (mn_imp (hK23 _ _ _)) (mn_imp (mn_all (fun _ => (mn_imp (mn_all (fun _ => (mn_imp (hK23 _ _ _)))))))))
theorem mn_X11_seekNet_155 {v1 : Int} {v2 : Int} {v3 : Int} {v5 : Int} {m : Mem} {K23 K23' : Int → Int → Mem → Prop} {post post' : Mem → Prop} (hK23 : ∀ (x0 : Int) (x1 : Int) (x2 : Mem), K23 x0 x1 x2 → K23' x0 x1 x2) (hpost : ∀ (x0 : Mem), post x0 → post' x0) : wp_X11_seekNet_155 v1 v2 v3 v5 m K23 post → wp_X11_seekNet_155 v1 v2 v3 v5 m K23' post' := by
  unfold wp_X11_seekNet_155
  exact (mn_X11_seekNet_156 (fun _ _ _ => (hK23 _ _ _)) hpost)
theorem mn_X11_seekNet_151 {v1 : Int} {v2 : Int} {v3 : Int} {v5 : Int} {m : Mem} {K23 K23' : Int → Int → Mem → Prop} {post post' : Mem → Prop} (hK23 : ∀ (x0 : Int) (x1 : Int) (x2 : Mem), K23 x0 x1 x2 → K23' x0 x1 x2) (hpost : ∀ (x0 : Mem), post x0 → post' x0) : wp_X11_seekNet_151 v1 v2 v3 v5 m K23 post → wp_X11_seekNet_151 v1 v2 v3 v5 m K23' post' := by
  unfold wp_X11_seekNet_151
  exact (mn_X11_seekNet_156 (fun _ _ _ => (hK23 _ _ _)) hpost)
theorem mn_X11_seekNet_23 {post post' : Mem → Prop} (hpost : ∀ (x0 : Mem), post x0 → post' x0) : ∀ (n : Nat) (v1 : Int) (v2 : Int) (m : Mem), wp_X11_seekNet_23 post n v1 v2 m → wp_X11_seekNet_23 post' n v1 v2 m := by
  intro n
  induction n with
  | zero => intro v1 v2 m; unfold wp_X11_seekNet_23; exact id
  | succ n ih =>
    intro v1 v2 m
    unfold wp_X11_seekNet_23
    exact (mn_and (mn_imp (hpost _)) (mn_imp (mn_ex (fun _ => (mn_X11_seekNet_33 (fun _ _ _ _ => (mn_X11_isNet (fun _ _ => (mn_and (mn_imp (ih _ _ _)) (mn_imp (mn_X11_costOf (fun _ _ => (mn_and (mn_imp (mn_X11_seekNet_155 (fun _ _ _ => (ih _ _ _)) hpost)) (mn_imp (mn_and (mn_imp (mn_X11_seekNet_151 (fun _ _ _ => (ih _ _ _)) hpost)) (mn_imp (mn_and (mn_imp (mn_X11_seekNet_151 (fun _ _ _ => (ih _ _ _)) hpost)) (mn_imp (mn_and (mn_imp (mn_X11_seekNet_155 (fun _ _ _ => (ih _ _ _)) hpost)) (mn_imp (mn_X11_ones (fun _ _ => (mn_X11_ones (fun _ _ => (mn_and (mn_imp (mn_X11_seekNet_151 (fun _ _ _ => (ih _ _ _)) hpost)) (mn_imp (mn_X11_ones (fun _ _ => (mn_X11_ones (fun _ _ => (mn_and (mn_imp (mn_X11_seekNet_155 (fun _ _ _ => (ih _ _ _)) hpost)) (mn_imp (mn_and (mn_imp (mn_X11_seekNet_155 (fun _ _ _ => (ih _ _ _)) hpost)) (mn_imp (mn_X11_seekNet_151 (fun _ _ _ => (ih _ _ _)) hpost)))))))))))))))))))))))))))))) hpost _ _ _ _ _ _)))))
theorem mn_X11_seekNet {m : Mem} {post post' : Mem → Prop} (hpost : ∀ (x0 : Mem), post x0 → post' x0) : wp_X11_seekNet m post → wp_X11_seekNet m post' := by
  unfold wp_X11_seekNet
  exact (mn_all (fun _ => (mn_imp (mn_all (fun _ => (mn_imp (mn_all (fun _ => (mn_imp (mn_ex (fun _ => (mn_X11_seekNet_23 hpost _ _ _ _))))))))))))
theorem mn_X11_net {v1 : Int} {m : Mem} {post post' : Int → Mem → Prop} (hpost : ∀ (x0 : Int) (x1 : Mem), post x0 x1 → post' x0 x1) : wp_X11_net v1 m post → wp_X11_net v1 m post' := by
  unfold wp_X11_net
  exact (mn_X11_in (fun _ _ => (mn_and (mn_imp (mn_and (mn_imp (mn_and (mn_imp (mn_X11_seekNet (fun _ => (mn_and (mn_imp (hpost _ _)) (mn_imp (hpost _ _)))))) (mn_imp (hpost _ _)))) (mn_imp (mn_X11_allLines (fun _ _ => (mn_X11_costOf (fun _ _ => (hpost _ _)))))))) (mn_imp (hpost _ _)))))
theorem mn_X11_empties {v1 : Int} {v2 : Int} {v3 : Int} {m : Mem} {post post' : Int → Mem → Prop} (hpost : ∀ (x0 : Int) (x1 : Mem), post x0 x1 → post' x0 x1) : wp_X11_empties v1 v2 v3 m post → wp_X11_empties v1 v2 v3 m post' := by
  unfold wp_X11_empties
  exact (mn_X11_isYard (fun _ _ => (mn_and (mn_imp (hpost _ _)) (mn_imp (mn_X11_in (fun _ _ => (mn_and (mn_imp (mn_X11_in (fun _ _ => (mn_and (mn_imp (mn_and id (mn_all (fun _ => (mn_imp (mn_and id (mn_all (fun _ => (mn_imp (hpost _ _)))))))))) (mn_imp (hpost _ _)))))) (mn_imp (hpost _ _)))))))))
theorem mn_X11_priceOf {v1 : Int} {v2 : Int} {m : Mem} {post post' : Int → Mem → Prop} (hpost : ∀ (x0 : Int) (x1 : Mem), post x0 x1 → post' x0 x1) : wp_X11_priceOf v1 v2 m post → wp_X11_priceOf v1 v2 m post' := by
  unfold wp_X11_priceOf
  exact (mn_all (fun _ => (mn_imp (mn_and (mn_imp (mn_and id (hpost _ _))) (mn_imp (hpost _ _))))))
theorem mn_X11_relax {v1 : Int} {v2 : Int} {v3 : Int} {m : Mem} {post post' : Int → Mem → Prop} (hpost : ∀ (x0 : Int) (x1 : Mem), post x0 x1 → post' x0 x1) : wp_X11_relax v1 v2 v3 m post → wp_X11_relax v1 v2 v3 m post' := by
  unfold wp_X11_relax
  exact (mn_and id (mn_and (mn_imp (hpost _ _)) (mn_imp (mn_and (mn_imp (hpost _ _)) (mn_imp (mn_and id (mn_and id (mn_and (mn_imp (mn_and id (mn_and id (mn_all (fun _ => (mn_imp (mn_and id (mn_all (fun _ => (mn_imp (hpost _ _))))))))))) (mn_imp (hpost _ _))))))))))
theorem mn_X11_label_41 {v1 : Int} {s0 : Int} {s1 : Int} {m : Mem} {K2 K2' : Int → Mem → Prop} {post post' : Mem → Prop} (hK2 : ∀ (x0 : Int) (x1 : Mem), K2 x0 x1 → K2' x0 x1) (hpost : ∀ (x0 : Mem), post x0 → post' x0) : wp_X11_label_41 v1 s0 s1 m K2 post → wp_X11_label_41 v1 s0 s1 m K2' post' := by
  unfold wp_X11_label_41
  exact (mn_and id (mn_all (fun _ => (mn_imp (mn_and id (mn_all (fun _ => (mn_imp (hK2 _ _)))))))))
theorem mn_X11_label_39 {v1 : Int} {s0 : Int} {m : Mem} {K2 K2' : Int → Mem → Prop} {post post' : Mem → Prop} (hK2 : ∀ (x0 : Int) (x1 : Mem), K2 x0 x1 → K2' x0 x1) (hpost : ∀ (x0 : Mem), post x0 → post' x0) : wp_X11_label_39 v1 s0 m K2 post → wp_X11_label_39 v1 s0 m K2' post' := by
  unfold wp_X11_label_39
  exact (mn_X11_label_41 (fun _ _ => (hK2 _ _)) hpost)
theorem mn_X11_label_2 {K57 K57' : Int → Mem → Prop} {post post' : Mem → Prop} (hK57 : ∀ (x0 : Int) (x1 : Mem), K57 x0 x1 → K57' x0 x1) (hpost : ∀ (x0 : Mem), post x0 → post' x0) : ∀ (n : Nat) (v1 : Int) (m : Mem), wp_X11_label_2 K57 post n v1 m → wp_X11_label_2 K57' post' n v1 m := by
  intro n
  induction n with
  | zero => intro v1 m; unfold wp_X11_label_2; exact id
  | succ n ih =>
    intro v1 m
    unfold wp_X11_label_2
    exact (mn_and (mn_imp (hK57 _ _)) (mn_imp (mn_and id (mn_and (mn_imp (mn_X11_label_39 (fun _ _ => (ih _ _)) hpost)) (mn_imp (mn_and id (mn_and (mn_imp (mn_X11_label_39 (fun _ _ => (ih _ _)) hpost)) (mn_imp (mn_X11_label_41 (fun _ _ => (ih _ _)) hpost)))))))))
theorem mn_X11_label_160 {v1 : Int} {v2 : Int} {v3 : Int} {m : Mem} {K77 K77' : Int → Int → Int → Mem → Prop} {post post' : Mem → Prop} (hK77 : ∀ (x0 : Int) (x1 : Int) (x2 : Int) (x3 : Mem), K77 x0 x1 x2 x3 → K77' x0 x1 x2 x3) (hpost : ∀ (x0 : Mem), post x0 → post' x0) : wp_X11_label_160 v1 v2 v3 m K77 post → wp_X11_label_160 v1 v2 v3 m K77' post' := by
  unfold wp_X11_label_160
  exact (mn_and (mn_imp (hK77 _ _ _ _)) (mn_imp (hK77 _ _ _ _)))
theorem mn_X11_label_129 {v2 : Int} {v3 : Int} {s0 : Int} {m : Mem} {K77 K77' : Int → Int → Int → Mem → Prop} {post post' : Mem → Prop} (hK77 : ∀ (x0 : Int) (x1 : Int) (x2 : Int) (x3 : Mem), K77 x0 x1 x2 x3 → K77' x0 x1 x2 x3) (hpost : ∀ (x0 : Mem), post x0 → post' x0) : wp_X11_label_129 v2 v3 s0 m K77 post → wp_X11_label_129 v2 v3 s0 m K77' post' := by
  unfold wp_X11_label_129
  exact (mn_and id (mn_and (mn_imp (mn_X11_label_160 (fun _ _ _ _ => (hK77 _ _ _ _)) hpost)) (mn_imp (mn_X11_priceOf (fun _ _ => (mn_X11_relax (fun _ _ => (mn_and (mn_imp (hK77 _ _ _ _)) (mn_imp (mn_X11_label_160 (fun _ _ _ _ => (hK77 _ _ _ _)) hpost))))))))))
theorem mn_X11_label_124 {v2 : Int} {v3 : Int} {m : Mem} {K77 K77' : Int → Int → Int → Mem → Prop} {post post' : Mem → Prop} (hK77 : ∀ (x0 : Int) (x1 : Int) (x2 : Int) (x3 : Mem), K77 x0 x1 x2 x3 → K77' x0 x1 x2 x3) (hpost : ∀ (x0 : Mem), post x0 → post' x0) : wp_X11_label_124 v2 v3 m K77 post → wp_X11_label_124 v2 v3 m K77' post' := by
  unfold wp_X11_label_124
  exact (mn_X11_label_129 (fun _ _ _ _ => (hK77 _ _ _ _)) hpost)
theorem mn_X11_label_77 {K65 K65' : Int → Int → Mem → Prop} {post post' : Mem → Prop} (hK65 : ∀ (x0 : Int) (x1 : Int) (x2 : Mem), K65 x0 x1 x2 → K65' x0 x1 x2) (hpost : ∀ (x0 : Mem), post x0 → post' x0) : ∀ (n : Nat) (v1 : Int) (v2 : Int) (v3 : Int) (m : Mem), wp_X11_label_77 K65 post n v1 v2 v3 m → wp_X11_label_77 K65' post' n v1 v2 v3 m := by
  intro n
  induction n with
  | zero => intro v1 v2 v3 m; unfold wp_X11_label_77; exact id
  | succ n ih =>
    intro v1 v2 v3 m
    unfold wp_X11_label_77
    exact (mn_and (mn_imp (hK65 _ _ _)) (mn_imp (mn_and id (mn_and (mn_imp (ih _ _ _ _)) (mn_imp (mn_and id (mn_and (mn_imp (ih _ _ _ _)) (mn_imp (mn_X11_priceOf (fun _ _ => (mn_X11_relax (fun _ _ => (mn_and (mn_imp (mn_X11_label_124 (fun _ _ _ _ => (ih _ _ _ _)) hpost)) (mn_imp (mn_and (mn_imp (mn_X11_label_129 (fun _ _ _ _ => (ih _ _ _ _)) hpost)) (mn_imp (mn_X11_label_124 (fun _ _ _ _ => (ih _ _ _ _)) hpost)))))))))))))))))
theorem mn_X11_label_65 {K57 K57' : Int → Mem → Prop} {post post' : Mem → Prop} (hK57 : ∀ (x0 : Int) (x1 : Mem), K57 x0 x1 → K57' x0 x1) (hpost : ∀ (x0 : Mem), post x0 → post' x0) : ∀ (n : Nat) (v1 : Int) (v2 : Int) (m : Mem), wp_X11_label_65 K57 post n v1 v2 m → wp_X11_label_65 K57' post' n v1 v2 m := by
  intro n
  induction n with
  | zero => intro v1 v2 m; unfold wp_X11_label_65; exact id
  | succ n ih =>
    intro v1 v2 m
    unfold wp_X11_label_65
    exact (mn_and (mn_imp (hK57 _ _)) (mn_imp (mn_ex (fun _ => (mn_X11_label_77 (fun _ _ _ => (ih _ _ _)) hpost _ _ _ _ _)))))
theorem mn_X11_label_57 {post post' : Mem → Prop} (hpost : ∀ (x0 : Mem), post x0 → post' x0) : ∀ (n : Nat) (v1 : Int) (m : Mem), wp_X11_label_57 post n v1 m → wp_X11_label_57 post' n v1 m := by
  intro n
  induction n with
  | zero => intro v1 m; unfold wp_X11_label_57; exact id
  | succ n ih =>
    intro v1 m
    unfold wp_X11_label_57
    exact (mn_and (mn_imp (hpost _)) (mn_imp (mn_ex (fun _ => (mn_X11_label_65 (fun _ _ => (ih _ _)) hpost _ _ _ _)))))
theorem mn_X11_label {m : Mem} {post post' : Mem → Prop} (hpost : ∀ (x0 : Mem), post x0 → post' x0) : wp_X11_label m post → wp_X11_label m post' := by
  unfold wp_X11_label
  exact (mn_ex (fun _ => (mn_X11_label_2 (fun _ _ => (mn_ex (fun _ => (mn_X11_label_57 hpost _ _ _)))) hpost _ _ _)))
theorem mn_X11_send_9 {K76 K76' : Int → Int → Int → Mem → Prop} {post post' : Int → Mem → Prop} (hK76 : ∀ (x0 : Int) (x1 : Int) (x2 : Int) (x3 : Mem), K76 x0 x1 x2 x3 → K76' x0 x1 x2 x3) (hpost : ∀ (x0 : Int) (x1 : Mem), post x0 x1 → post' x0 x1) : ∀ (n : Nat) (v1 : Int) (v2 : Int) (v3 : Int) (m : Mem), wp_X11_send_9 K76 post n v1 v2 v3 m → wp_X11_send_9 K76' post' n v1 v2 v3 m := by
  intro n
  induction n with
  | zero => intro v1 v2 v3 m; unfold wp_X11_send_9; exact id
  | succ n ih =>
    intro v1 v2 v3 m
    unfold wp_X11_send_9
    exact (mn_and id (mn_and (mn_imp (hK76 _ _ _ _)) (mn_imp (mn_and id (mn_all (fun _ => (mn_imp (mn_and id (mn_and (mn_imp (ih _ _ _ _)) (mn_imp (mn_and id (mn_and (mn_imp (ih _ _ _ _)) (mn_imp (mn_and id (mn_all (fun _ => (mn_imp (ih _ _ _ _))))))))))))))))))
theorem mn_X11_send_119 {post post' : Int → Mem → Prop} (hpost : ∀ (x0 : Int) (x1 : Mem), post x0 x1 → post' x0 x1) : ∀ (n : Nat) (v1 : Int) (v2 : Int) (v3 : Int) (m : Mem), wp_X11_send_119 post n v1 v2 v3 m → wp_X11_send_119 post' n v1 v2 v3 m := by
  intro n
  induction n with
  | zero => intro v1 v2 v3 m; unfold wp_X11_send_119; exact id
  | succ n ih =>
    intro v1 v2 v3 m
    unfold wp_X11_send_119
    exact (mn_and id (mn_and (mn_imp (mn_and id (hpost _ _))) (mn_imp (mn_and id (mn_all (fun _ => (mn_imp (mn_and id (mn_and (mn_imp (mn_and id (mn_and id (mn_all (fun _ => (mn_imp (ih _ _ _ _))))))) (mn_imp (mn_and id (mn_and id (mn_all (fun _ => (mn_imp (ih _ _ _ _))))))))))))))))
theorem mn_X11_send_96 {v1 : Int} {v3 : Int} {s0 : Int} {m : Mem} {post post' : Int → Mem → Prop} (hpost : ∀ (x0 : Int) (x1 : Mem), post x0 x1 → post' x0 x1) : wp_X11_send_96 v1 v3 s0 m post → wp_X11_send_96 v1 v3 s0 m post' := by
  unfold wp_X11_send_96
  exact (mn_and id (mn_and id (mn_all (fun _ => (mn_imp (mn_and id (mn_and id (mn_all (fun _ => (mn_imp (mn_ex (fun _ => (mn_X11_send_119 hpost _ _ _ _ _)))))))))))))
theorem mn_X11_send {v1 : Int} {m : Mem} {post post' : Int → Mem → Prop} (hpost : ∀ (x0 : Int) (x1 : Mem), post x0 x1 → post' x0 x1) : wp_X11_send v1 m post → wp_X11_send v1 m post' := by
  unfold wp_X11_send
  exact (mn_and id (mn_all (fun _ => (mn_imp (mn_ex (fun _ => (mn_X11_send_9 (fun _ _ _ _ => (mn_and id (mn_and (mn_imp (mn_X11_send_96 hpost)) (mn_imp (mn_and id (mn_X11_send_96 hpost)))))) hpost _ _ _ _ _)))))))
theorem mn_X11_least_11 {K33 K33' : Int → Mem → Prop} {post post' : Int → Mem → Prop} (hK33 : ∀ (x0 : Int) (x1 : Mem), K33 x0 x1 → K33' x0 x1) (hpost : ∀ (x0 : Int) (x1 : Mem), post x0 x1 → post' x0 x1) : ∀ (n : Nat) (v1 : Int) (m : Mem), wp_X11_least_11 K33 post n v1 m → wp_X11_least_11 K33' post' n v1 m := by
  intro n
  induction n with
  | zero => intro v1 m; unfold wp_X11_least_11; exact id
  | succ n ih =>
    intro v1 m
    unfold wp_X11_least_11
    exact (mn_and (mn_imp (hK33 _ _)) (mn_imp (mn_and id (mn_all (fun _ => (mn_imp (ih _ _)))))))
theorem mn_X11_least_33 {K82 K82' : Int → Mem → Prop} {post post' : Int → Mem → Prop} (hK82 : ∀ (x0 : Int) (x1 : Mem), K82 x0 x1 → K82' x0 x1) (hpost : ∀ (x0 : Int) (x1 : Mem), post x0 x1 → post' x0 x1) : ∀ (n : Nat) (v1 : Int) (m : Mem), wp_X11_least_33 K82 post n v1 m → wp_X11_least_33 K82' post' n v1 m := by
  intro n
  induction n with
  | zero => intro v1 m; unfold wp_X11_least_33; exact id
  | succ n ih =>
    intro v1 m
    unfold wp_X11_least_33
    exact (mn_and (mn_imp (hK82 _ _)) (mn_imp (mn_and id (mn_and (mn_imp (mn_and id (mn_and id (mn_all (fun _ => (mn_imp (ih _ _))))))) (mn_imp (mn_and id (mn_and id (mn_all (fun _ => (mn_imp (ih _ _)))))))))))
theorem mn_X11_least_93 {K172 K172' : Int → Int → Int → Mem → Prop} {post post' : Int → Mem → Prop} (hK172 : ∀ (x0 : Int) (x1 : Int) (x2 : Int) (x3 : Mem), K172 x0 x1 x2 x3 → K172' x0 x1 x2 x3) (hpost : ∀ (x0 : Int) (x1 : Mem), post x0 x1 → post' x0 x1) : ∀ (n : Nat) (v1 : Int) (v2 : Int) (v3 : Int) (v4 : Int) (m : Mem), wp_X11_least_93 K172 post n v1 v2 v3 v4 m → wp_X11_least_93 K172' post' n v1 v2 v3 v4 m := by
  intro n
  induction n with
  | zero => intro v1 v2 v3 v4 m; unfold wp_X11_least_93; exact id
  | succ n ih =>
    intro v1 v2 v3 v4 m
    unfold wp_X11_least_93
    exact (mn_and (mn_imp (hK172 _ _ _ _)) (mn_imp (mn_and id (mn_and (mn_imp (ih _ _ _ _ _)) (mn_imp (mn_and id (mn_and (mn_imp (ih _ _ _ _ _)) (mn_imp (mn_and id (mn_and (mn_imp (ih _ _ _ _ _)) (mn_imp (mn_and (mn_imp (ih _ _ _ _ _)) (mn_imp (mn_and id (mn_and id (mn_and (mn_imp (ih _ _ _ _ _)) (mn_imp (ih _ _ _ _ _))))))))))))))))))
theorem mn_X11_least_82 {K177 K177' : Int → Int → Mem → Prop} {post post' : Int → Mem → Prop} (hK177 : ∀ (x0 : Int) (x1 : Int) (x2 : Mem), K177 x0 x1 x2 → K177' x0 x1 x2) (hpost : ∀ (x0 : Int) (x1 : Mem), post x0 x1 → post' x0 x1) : ∀ (n : Nat) (v1 : Int) (m : Mem), wp_X11_least_82 K177 post n v1 m → wp_X11_least_82 K177' post' n v1 m := by
  intro n
  induction n with
  | zero => intro v1 m; unfold wp_X11_least_82; exact id
  | succ n ih =>
    intro v1 m
    unfold wp_X11_least_82
    exact (mn_X11_label (fun _ => (mn_ex (fun _ => (mn_X11_least_93 (fun _ _ _ _ => (mn_and (mn_imp (mn_X11_send (fun _ _ => (mn_all (fun _ => (mn_imp (ih _ _))))))) (mn_imp (hK177 _ _ _)))) hpost _ _ _ _ _ _)))))
theorem mn_X11_least {m : Mem} {post post' : Int → Mem → Prop} (hpost : ∀ (x0 : Int) (x1 : Mem), post x0 x1 → post' x0 x1) : wp_X11_least m post → wp_X11_least m post' := by
  unfold wp_X11_least
  exact (mn_X11_allLines (fun _ _ => (mn_X11_spread (fun _ => (mn_ex (fun _ => (mn_X11_least_11 (fun _ _ => (mn_ex (fun _ => (mn_X11_least_33 (fun _ _ => (mn_ex (fun _ => (mn_X11_least_82 (fun _ _ _ => (mn_and (mn_imp (hpost _ _)) (mn_imp (hpost _ _)))) hpost _ _ _)))) hpost _ _ _)))) hpost _ _ _)))))))
theorem mn_X11_leg {v1 : Int} {v2 : Int} {m : Mem} {post post' : Int → Mem → Prop} (hpost : ∀ (x0 : Int) (x1 : Mem), post x0 x1 → post' x0 x1) : wp_X11_leg v1 v2 m post → wp_X11_leg v1 v2 m post' := by
  unfold wp_X11_leg
  exact (mn_X11_in (fun _ _ => (mn_and (mn_imp (hpost _ _)) (mn_imp (mn_X11_in (fun _ _ => (mn_and (mn_imp (mn_and (mn_imp (mn_and id (mn_all (fun _ => (mn_imp (mn_and id (mn_all (fun _ => (mn_imp (mn_all (fun _ => (mn_imp (hpost _ _))))))))))))) (mn_imp (hpost _ _)))) (mn_imp (hpost _ _)))))))))
theorem mn_X11_stay {m : Mem} {post post' : Int → Mem → Prop} (hpost : ∀ (x0 : Int) (x1 : Mem), post x0 x1 → post' x0 x1) : wp_X11_stay m post → wp_X11_stay m post' := by
  unfold wp_X11_stay
  exact (mn_all (fun _ => (mn_imp (mn_all (fun _ => (mn_imp (hpost _ _)))))))
theorem mn_X11_legsTogether_4 {post post' : Int → Mem → Prop} (hpost : ∀ (x0 : Int) (x1 : Mem), post x0 x1 → post' x0 x1) : ∀ (n : Nat) (v1 : Int) (v2 : Int) (m : Mem), wp_X11_legsTogether_4 post n v1 v2 m → wp_X11_legsTogether_4 post' n v1 v2 m := by
  intro n
  induction n with
  | zero => intro v1 v2 m; unfold wp_X11_legsTogether_4; exact id
  | succ n ih =>
    intro v1 v2 m
    unfold wp_X11_legsTogether_4
    exact (mn_and (mn_imp (hpost _ _)) (mn_imp (mn_and id (mn_all (fun _ => (mn_imp (ih _ _ _)))))))
theorem mn_X11_legsTogether {m : Mem} {post post' : Int → Mem → Prop} (hpost : ∀ (x0 : Int) (x1 : Mem), post x0 x1 → post' x0 x1) : wp_X11_legsTogether m post → wp_X11_legsTogether m post' := by
  unfold wp_X11_legsTogether
  exact (mn_ex (fun _ => (mn_X11_legsTogether_4 hpost _ _ _ _)))
theorem mn_X11_shareBy_2 {K39 K39' : Int → Int → Int → Mem → Prop} {post post' : Mem → Prop} (hK39 : ∀ (x0 : Int) (x1 : Int) (x2 : Int) (x3 : Mem), K39 x0 x1 x2 x3 → K39' x0 x1 x2 x3) (hpost : ∀ (x0 : Mem), post x0 → post' x0) : ∀ (n : Nat) (v1 : Int) (v2 : Int) (m : Mem), wp_X11_shareBy_2 K39 post n v1 v2 m → wp_X11_shareBy_2 K39' post' n v1 v2 m := by
  intro n
  induction n with
  | zero => intro v1 v2 m; unfold wp_X11_shareBy_2; exact id
  | succ n ih =>
    intro v1 v2 m
    unfold wp_X11_shareBy_2
    exact (mn_and (mn_imp (mn_all (fun _ => (mn_imp (hK39 _ _ _ _))))) (mn_imp (mn_and (mn_imp (mn_and id (mn_all (fun _ => (mn_imp (ih _ _ _)))))) (mn_imp (mn_and id (mn_all (fun _ => (mn_imp (ih _ _ _)))))))))
theorem mn_X11_shareBy_51 {K92 K92' : Int → Int → Int → Mem → Prop} {post post' : Mem → Prop} (hK92 : ∀ (x0 : Int) (x1 : Int) (x2 : Int) (x3 : Mem), K92 x0 x1 x2 x3 → K92' x0 x1 x2 x3) (hpost : ∀ (x0 : Mem), post x0 → post' x0) : ∀ (n : Nat) (v1 : Int) (v2 : Int) (v4 : Int) (v5 : Int) (m : Mem), wp_X11_shareBy_51 K92 post n v1 v2 v4 v5 m → wp_X11_shareBy_51 K92' post' n v1 v2 v4 v5 m := by
  intro n
  induction n with
  | zero => intro v1 v2 v4 v5 m; unfold wp_X11_shareBy_51; exact id
  | succ n ih =>
    intro v1 v2 v4 v5 m
    unfold wp_X11_shareBy_51
    exact (mn_and (mn_imp (hK92 _ _ _ _)) (mn_imp (mn_and id (mn_and id (mn_and id (mn_and id (mn_all (fun _ => (mn_imp (ih _ _ _ _ _))))))))))
theorem mn_X11_shareBy_39 {K130 K130' : Int → Int → Int → Int → Mem → Prop} {post post' : Mem → Prop} (hK130 : ∀ (x0 : Int) (x1 : Int) (x2 : Int) (x3 : Int) (x4 : Mem), K130 x0 x1 x2 x3 x4 → K130' x0 x1 x2 x3 x4) (hpost : ∀ (x0 : Mem), post x0 → post' x0) : ∀ (n : Nat) (v1 : Int) (v2 : Int) (v4 : Int) (m : Mem), wp_X11_shareBy_39 K130 post n v1 v2 v4 m → wp_X11_shareBy_39 K130' post' n v1 v2 v4 m := by
  intro n
  induction n with
  | zero => intro v1 v2 v4 m; unfold wp_X11_shareBy_39; exact id
  | succ n ih =>
    intro v1 v2 v4 m
    unfold wp_X11_shareBy_39
    exact (mn_and (mn_imp (hK130 _ _ _ _ _)) (mn_imp (mn_ex (fun _ => (mn_X11_shareBy_51 (fun _ _ _ _ => (mn_and id (mn_all (fun _ => (mn_imp (mn_all (fun _ => (mn_imp (ih _ _ _ _))))))))) hpost _ _ _ _ _ _)))))
theorem mn_X11_shareBy_130 {post post' : Mem → Prop} (hpost : ∀ (x0 : Mem), post x0 → post' x0) : ∀ (n : Nat) (v1 : Int) (v2 : Int) (v4 : Int) (v6 : Int) (m : Mem), wp_X11_shareBy_130 post n v1 v2 v4 v6 m → wp_X11_shareBy_130 post' n v1 v2 v4 v6 m := by
  intro n
  induction n with
  | zero => intro v1 v2 v4 v6 m; unfold wp_X11_shareBy_130; exact id
  | succ n ih =>
    intro v1 v2 v4 v6 m
    unfold wp_X11_shareBy_130
    exact (mn_and (mn_imp (mn_all (fun _ => (mn_imp (hpost _))))) (mn_imp (mn_and id (mn_all (fun _ => (mn_imp (mn_and (mn_imp (mn_all (fun _ => (mn_imp (ih _ _ _ _ _))))) (mn_imp (mn_all (fun _ => (mn_imp (ih _ _ _ _ _))))))))))))
theorem mn_X11_shareBy {v1 : Int} {m : Mem} {post post' : Mem → Prop} (hpost : ∀ (x0 : Mem), post x0 → post' x0) : wp_X11_shareBy v1 m post → wp_X11_shareBy v1 m post' := by
  unfold wp_X11_shareBy
  exact (mn_ex (fun _ => (mn_X11_shareBy_2 (fun _ _ _ _ => (mn_ex (fun _ => (mn_X11_shareBy_39 (fun _ _ _ _ _ => (mn_ex (fun _ => (mn_X11_shareBy_130 hpost _ _ _ _ _ _)))) hpost _ _ _ _ _)))) hpost _ _ _ _)))
theorem mn_X11_share_70 {K95 K95' : Int → Int → Mem → Prop} {post post' : Int → Mem → Prop} (hK95 : ∀ (x0 : Int) (x1 : Int) (x2 : Mem), K95 x0 x1 x2 → K95' x0 x1 x2) (hpost : ∀ (x0 : Int) (x1 : Mem), post x0 x1 → post' x0 x1) : ∀ (n : Nat) (v2 : Int) (v4 : Int) (v6 : Int) (m : Mem), wp_X11_share_70 K95 post n v2 v4 v6 m → wp_X11_share_70 K95' post' n v2 v4 v6 m := by
  intro n
  induction n with
  | zero => intro v2 v4 v6 m; unfold wp_X11_share_70; exact id
  | succ n ih =>
    intro v2 v4 v6 m
    unfold wp_X11_share_70
    exact (mn_and (mn_imp (hK95 _ _ _)) (mn_imp (mn_and id (mn_all (fun _ => (mn_imp (ih _ _ _ _)))))))
theorem mn_X11_share {v1 : Int} {v2 : Int} {m : Mem} {post post' : Int → Mem → Prop} (hpost : ∀ (x0 : Int) (x1 : Mem), post x0 x1 → post' x0 x1) : wp_X11_share v1 v2 m post → wp_X11_share v1 v2 m post' := by
  unfold wp_X11_share
  exact (mn_X11_in (fun _ _ => (mn_and (mn_imp (hpost _ _)) (mn_imp (mn_X11_in (fun _ _ => (mn_and (mn_imp (mn_X11_legsTogether (fun _ _ => (mn_all (fun _ => (mn_imp (mn_and (mn_imp (mn_and (mn_imp (mn_X11_shareBy (fun _ => (mn_all (fun _ => (mn_imp (mn_all (fun _ => (mn_imp (mn_ex (fun _ => (mn_X11_share_70 (fun _ _ _ => (mn_and (mn_imp (mn_and id (hpost _ _))) (mn_imp (mn_and id (hpost _ _))))) hpost _ _ _ _ _)))))))))))) (mn_imp (mn_X11_shareBy (fun _ => (mn_all (fun _ => (mn_imp (mn_all (fun _ => (mn_imp (mn_ex (fun _ => (mn_X11_share_70 (fun _ _ _ => (mn_and (mn_imp (mn_and id (hpost _ _))) (mn_imp (mn_and id (hpost _ _))))) hpost _ _ _ _ _)))))))))))))) (mn_imp (hpost _ _))))))))) (mn_imp (hpost _ _)))))))))
theorem mn_X11_promise_16 {post post' : Int → Mem → Prop} (hpost : ∀ (x0 : Int) (x1 : Mem), post x0 x1 → post' x0 x1) : ∀ (n : Nat) (v1 : Int) (v2 : Int) (m : Mem), wp_X11_promise_16 post n v1 v2 m → wp_X11_promise_16 post' n v1 v2 m := by
  intro n
  induction n with
  | zero => intro v1 v2 m; unfold wp_X11_promise_16; exact id
  | succ n ih =>
    intro v1 v2 m
    unfold wp_X11_promise_16
    exact (mn_and (mn_imp (hpost _ _)) (mn_imp (mn_X11_shareBy (fun _ => (mn_and (mn_imp (ih _ _ _)) (mn_imp (mn_X11_legsTogether (fun _ _ => (hpost _ _)))))))))
theorem mn_X11_promise {v1 : Int} {m : Mem} {post post' : Int → Mem → Prop} (hpost : ∀ (x0 : Int) (x1 : Mem), post x0 x1 → post' x0 x1) : wp_X11_promise v1 m post → wp_X11_promise v1 m post' := by
  unfold wp_X11_promise
  exact (mn_X11_in (fun _ _ => (mn_and (mn_imp (mn_ex (fun _ => (mn_X11_promise_16 hpost _ _ _ _)))) (mn_imp (hpost _ _)))))
theorem mn_X11_comes_6 {K69 K69' : Int → Int → Mem → Prop} {post post' : Int → Mem → Prop} (hK69 : ∀ (x0 : Int) (x1 : Int) (x2 : Mem), K69 x0 x1 x2 → K69' x0 x1 x2) (hpost : ∀ (x0 : Int) (x1 : Mem), post x0 x1 → post' x0 x1) : ∀ (n : Nat) (v2 : Int) (v3 : Int) (v4 : Int) (v5 : Int) (m : Mem), wp_X11_comes_6 K69 post n v2 v3 v4 v5 m → wp_X11_comes_6 K69' post' n v2 v3 v4 v5 m := by
  intro n
  induction n with
  | zero => intro v2 v3 v4 v5 m; unfold wp_X11_comes_6; exact id
  | succ n ih =>
    intro v2 v3 v4 v5 m
    unfold wp_X11_comes_6
    exact (mn_and (mn_imp (hK69 _ _ _)) (mn_imp (mn_and (mn_imp (hK69 _ _ _)) (mn_imp (mn_and id (mn_all (fun _ => (mn_imp (mn_and (mn_imp (hpost _ _)) (mn_imp (mn_and id (mn_and (mn_imp (mn_and id (mn_all (fun _ => (mn_imp (ih _ _ _ _ _)))))) (mn_imp (hpost _ _))))))))))))))
theorem mn_X11_comes_69 {v2 : Int} {v4 : Int} {m : Mem} {post post' : Int → Mem → Prop} (hpost : ∀ (x0 : Int) (x1 : Mem), post x0 x1 → post' x0 x1) : wp_X11_comes_69 v2 v4 m post → wp_X11_comes_69 v2 v4 m post' := by
  unfold wp_X11_comes_69
  exact (mn_and (mn_imp (hpost _ _)) (mn_imp (hpost _ _)))
theorem mn_X11_comes {v1 : Int} {v2 : Int} {v3 : Int} {m : Mem} {post post' : Int → Mem → Prop} (hpost : ∀ (x0 : Int) (x1 : Mem), post x0 x1 → post' x0 x1) : wp_X11_comes v1 v2 v3 m post → wp_X11_comes v1 v2 v3 m post' := by
  unfold wp_X11_comes
  exact (mn_ex (fun _ => (mn_X11_comes_6 (fun _ _ _ => (mn_X11_comes_69 hpost)) hpost _ _ _ _ _ _)))
theorem mn_X11_allCome_12 {K2 K2' : Int → Int → Mem → Prop} {post post' : Int → Mem → Prop} (hK2 : ∀ (x0 : Int) (x1 : Int) (x2 : Mem), K2 x0 x1 x2 → K2' x0 x1 x2) (hpost : ∀ (x0 : Int) (x1 : Mem), post x0 x1 → post' x0 x1) : ∀ (n : Nat) (v1 : Int) (v2 : Int) (v3 : Int) (m : Mem), wp_X11_allCome_12 K2 post n v1 v2 v3 m → wp_X11_allCome_12 K2' post' n v1 v2 v3 m := by
  intro n
  induction n with
  | zero => intro v1 v2 v3 m; unfold wp_X11_allCome_12; exact id
  | succ n ih =>
    intro v1 v2 v3 m
    unfold wp_X11_allCome_12
    exact (mn_and (mn_imp (hK2 _ _ _)) (mn_imp (mn_and (mn_imp (ih _ _ _ _)) (mn_imp (mn_and (mn_imp (ih _ _ _ _)) (mn_imp (mn_and id (mn_and (mn_imp (ih _ _ _ _)) (mn_imp (mn_X11_comes (fun _ _ => (mn_and (mn_imp (ih _ _ _ _)) (mn_imp (hpost _ _))))))))))))))
theorem mn_X11_allCome_2 {post post' : Int → Mem → Prop} (hpost : ∀ (x0 : Int) (x1 : Mem), post x0 x1 → post' x0 x1) : ∀ (n : Nat) (v1 : Int) (v2 : Int) (m : Mem), wp_X11_allCome_2 post n v1 v2 m → wp_X11_allCome_2 post' n v1 v2 m := by
  intro n
  induction n with
  | zero => intro v1 v2 m; unfold wp_X11_allCome_2; exact id
  | succ n ih =>
    intro v1 v2 m
    unfold wp_X11_allCome_2
    exact (mn_and (mn_imp (hpost _ _)) (mn_imp (mn_ex (fun _ => (mn_X11_allCome_12 (fun _ _ _ => (ih _ _ _)) hpost _ _ _ _ _)))))
theorem mn_X11_allCome {v1 : Int} {m : Mem} {post post' : Int → Mem → Prop} (hpost : ∀ (x0 : Int) (x1 : Mem), post x0 x1 → post' x0 x1) : wp_X11_allCome v1 m post → wp_X11_allCome v1 m post' := by
  unfold wp_X11_allCome
  exact (mn_ex (fun _ => (mn_X11_allCome_2 hpost _ _ _ _)))
theorem mn_X11_choiceOf_12 {post post' : Int → Mem → Prop} (hpost : ∀ (x0 : Int) (x1 : Mem), post x0 x1 → post' x0 x1) : ∀ (n : Nat) (v1 : Int) (v2 : Int) (v4 : Int) (v5 : Int) (m : Mem), wp_X11_choiceOf_12 post n v1 v2 v4 v5 m → wp_X11_choiceOf_12 post' n v1 v2 v4 v5 m := by
  intro n
  induction n with
  | zero => intro v1 v2 v4 v5 m; unfold wp_X11_choiceOf_12; exact id
  | succ n ih =>
    intro v1 v2 v4 v5 m
    unfold wp_X11_choiceOf_12
    exact (mn_and (mn_imp (hpost _ _)) (mn_imp (mn_and (mn_imp (ih _ _ _ _ _)) (mn_imp (mn_and id (mn_and (mn_imp (ih _ _ _ _ _)) (mn_imp (mn_and (mn_imp (ih _ _ _ _ _)) (mn_imp (hpost _ _))))))))))
theorem mn_X11_choiceOf {v1 : Int} {v2 : Int} {v3 : Int} {m : Mem} {post post' : Int → Mem → Prop} (hpost : ∀ (x0 : Int) (x1 : Mem), post x0 x1 → post' x0 x1) : wp_X11_choiceOf v1 v2 v3 m post → wp_X11_choiceOf v1 v2 v3 m post' := by
  unfold wp_X11_choiceOf
  exact (mn_and (mn_imp (mn_ex (fun _ => (mn_X11_choiceOf_12 hpost _ _ _ _ _ _)))) (mn_imp (hpost _ _)))
theorem mn_X11_seekChange_12 {K2 K2' : Int → Int → Mem → Prop} {post post' : Int → Mem → Prop} (hK2 : ∀ (x0 : Int) (x1 : Int) (x2 : Mem), K2 x0 x1 x2 → K2' x0 x1 x2) (hpost : ∀ (x0 : Int) (x1 : Mem), post x0 x1 → post' x0 x1) : ∀ (n : Nat) (v1 : Int) (v2 : Int) (v3 : Int) (m : Mem), wp_X11_seekChange_12 K2 post n v1 v2 v3 m → wp_X11_seekChange_12 K2' post' n v1 v2 v3 m := by
  intro n
  induction n with
  | zero => intro v1 v2 v3 m; unfold wp_X11_seekChange_12; exact id
  | succ n ih =>
    intro v1 v2 v3 m
    unfold wp_X11_seekChange_12
    exact (mn_and (mn_imp (hK2 _ _ _)) (mn_imp (mn_X11_goesOf (fun _ _ => (mn_and id (mn_all (fun _ => (mn_imp (ih _ _ _ _)))))))))
theorem mn_X11_seekChange_2 {K57 K57' : Int → Int → Int → Mem → Prop} {post post' : Int → Mem → Prop} (hK57 : ∀ (x0 : Int) (x1 : Int) (x2 : Int) (x3 : Mem), K57 x0 x1 x2 x3 → K57' x0 x1 x2 x3) (hpost : ∀ (x0 : Int) (x1 : Mem), post x0 x1 → post' x0 x1) : ∀ (n : Nat) (v1 : Int) (v2 : Int) (m : Mem), wp_X11_seekChange_2 K57 post n v1 v2 m → wp_X11_seekChange_2 K57' post' n v1 v2 m := by
  intro n
  induction n with
  | zero => intro v1 v2 m; unfold wp_X11_seekChange_2; exact id
  | succ n ih =>
    intro v1 v2 m
    unfold wp_X11_seekChange_2
    exact (mn_and (mn_imp (mn_X11_asMade (fun _ => (hK57 _ _ _ _)))) (mn_imp (mn_ex (fun _ => (mn_X11_seekChange_12 (fun _ _ _ => (ih _ _ _)) hpost _ _ _ _ _)))))
theorem mn_X11_seekChange_57 {K85 K85' : Int → Int → Int → Int → Mem → Prop} {post post' : Int → Mem → Prop} (hK85 : ∀ (x0 : Int) (x1 : Int) (x2 : Int) (x3 : Int) (x4 : Mem), K85 x0 x1 x2 x3 x4 → K85' x0 x1 x2 x3 x4) (hpost : ∀ (x0 : Int) (x1 : Mem), post x0 x1 → post' x0 x1) : ∀ (n : Nat) (v1 : Int) (v2 : Int) (v3 : Int) (m : Mem), wp_X11_seekChange_57 K85 post n v1 v2 v3 m → wp_X11_seekChange_57 K85' post' n v1 v2 v3 m := by
  intro n
  induction n with
  | zero => intro v1 v2 v3 m; unfold wp_X11_seekChange_57; exact id
  | succ n ih =>
    intro v1 v2 v3 m
    unfold wp_X11_seekChange_57
    exact (mn_and (mn_imp (hK85 _ _ _ _ _)) (mn_imp (mn_all (fun _ => (mn_imp (ih _ _ _ _))))))
theorem mn_X11_seekChange_100 {K181 K181' : Int → Int → Int → Int → Int → Mem → Prop} {post post' : Int → Mem → Prop} (hK181 : ∀ (x0 : Int) (x1 : Int) (x2 : Int) (x3 : Int) (x4 : Int) (x5 : Mem), K181 x0 x1 x2 x3 x4 x5 → K181' x0 x1 x2 x3 x4 x5) (hpost : ∀ (x0 : Int) (x1 : Mem), post x0 x1 → post' x0 x1) : ∀ (n : Nat) (v1 : Int) (v2 : Int) (v3 : Int) (v4 : Int) (v5 : Int) (v6 : Int) (v7 : Int) (m : Mem), wp_X11_seekChange_100 K181 post n v1 v2 v3 v4 v5 v6 v7 m → wp_X11_seekChange_100 K181' post' n v1 v2 v3 v4 v5 v6 v7 m := by
  intro n
  induction n with
  | zero => intro v1 v2 v3 v4 v5 v6 v7 m; unfold wp_X11_seekChange_100; exact id
  | succ n ih =>
    intro v1 v2 v3 v4 v5 v6 v7 m
    unfold wp_X11_seekChange_100
    exact (mn_and (mn_imp (hK181 _ _ _ _ _ _)) (mn_imp (mn_and id (mn_all (fun _ => (mn_imp (mn_and id (mn_and id (mn_all (fun _ => (mn_imp (mn_and id (mn_and id (mn_X11_choiceOf (fun _ _ => (mn_and id (mn_all (fun _ => (mn_imp (mn_and (mn_imp (mn_all (fun _ => (mn_imp (ih _ _ _ _ _ _ _ _))))) (mn_imp (mn_all (fun _ => (mn_imp (ih _ _ _ _ _ _ _ _)))))))))))))))))))))))))
theorem mn_X11_seekChange_206 {K85 K85' : Int → Int → Int → Int → Mem → Prop} {post post' : Int → Mem → Prop} (hK85 : ∀ (x0 : Int) (x1 : Int) (x2 : Int) (x3 : Int) (x4 : Mem), K85 x0 x1 x2 x3 x4 → K85' x0 x1 x2 x3 x4) (hpost : ∀ (x0 : Int) (x1 : Mem), post x0 x1 → post' x0 x1) : ∀ (n : Nat) (v1 : Int) (v2 : Int) (v3 : Int) (v4 : Int) (v7 : Int) (m : Mem), wp_X11_seekChange_206 K85 post n v1 v2 v3 v4 v7 m → wp_X11_seekChange_206 K85' post' n v1 v2 v3 v4 v7 m := by
  intro n
  induction n with
  | zero => intro v1 v2 v3 v4 v7 m; unfold wp_X11_seekChange_206; exact id
  | succ n ih =>
    intro v1 v2 v3 v4 v7 m
    unfold wp_X11_seekChange_206
    exact (mn_and (mn_imp (hK85 _ _ _ _ _)) (mn_imp (mn_and id (mn_and id (mn_all (fun _ => (mn_imp (ih _ _ _ _ _ _))))))))
theorem mn_X11_seekChange_192 {v1 : Int} {v2 : Int} {v3 : Int} {v4 : Int} {v5 : Int} {m : Mem} {K85 K85' : Int → Int → Int → Int → Mem → Prop} {post post' : Int → Mem → Prop} (hK85 : ∀ (x0 : Int) (x1 : Int) (x2 : Int) (x3 : Int) (x4 : Mem), K85 x0 x1 x2 x3 x4 → K85' x0 x1 x2 x3 x4) (hpost : ∀ (x0 : Int) (x1 : Mem), post x0 x1 → post' x0 x1) : wp_X11_seekChange_192 v1 v2 v3 v4 v5 m K85 post → wp_X11_seekChange_192 v1 v2 v3 v4 v5 m K85' post' := by
  unfold wp_X11_seekChange_192
  exact (mn_X11_allCome (fun _ _ => (mn_and (mn_imp (hK85 _ _ _ _ _)) (mn_imp (mn_ex (fun _ => (mn_X11_seekChange_206 (fun _ _ _ _ _ => (hK85 _ _ _ _ _)) hpost _ _ _ _ _ _ _)))))))
theorem mn_X11_seekChange_85 {post post' : Int → Mem → Prop} (hpost : ∀ (x0 : Int) (x1 : Mem), post x0 x1 → post' x0 x1) : ∀ (n : Nat) (v1 : Int) (v2 : Int) (v3 : Int) (v4 : Int) (m : Mem), wp_X11_seekChange_85 post n v1 v2 v3 v4 m → wp_X11_seekChange_85 post' n v1 v2 v3 v4 m := by
  intro n
  induction n with
  | zero => intro v1 v2 v3 v4 m; unfold wp_X11_seekChange_85; exact id
  | succ n ih =>
    intro v1 v2 v3 v4 m
    unfold wp_X11_seekChange_85
    exact (mn_and (mn_imp (hpost _ _)) (mn_imp (mn_ex (fun _ => (mn_X11_seekChange_100 (fun _ _ _ _ _ _ => (mn_and (mn_imp (mn_X11_seekChange_192 (fun _ _ _ _ _ => (ih _ _ _ _ _)) hpost)) (mn_imp (mn_and (mn_imp (ih _ _ _ _ _)) (mn_imp (mn_X11_seekChange_192 (fun _ _ _ _ _ => (ih _ _ _ _ _)) hpost)))))) hpost _ _ _ _ _ _ _ _ _)))))
theorem mn_X11_seekChange {v1 : Int} {m : Mem} {post post' : Int → Mem → Prop} (hpost : ∀ (x0 : Int) (x1 : Mem), post x0 x1 → post' x0 x1) : wp_X11_seekChange v1 m post → wp_X11_seekChange v1 m post' := by
  unfold wp_X11_seekChange
  exact (mn_ex (fun _ => (mn_X11_seekChange_2 (fun _ _ _ _ => (mn_ex (fun _ => (mn_X11_seekChange_57 (fun _ _ _ _ _ => (mn_ex (fun _ => (mn_X11_seekChange_85 hpost _ _ _ _ _ _)))) hpost _ _ _ _ _)))) hpost _ _ _ _)))
theorem mn_X11_change_76 {v1 : Int} {v2 : Int} {v4 : Int} {s0 : Int} {m : Mem} {K39 K39' : Int → Int → Int → Int → Mem → Prop} {post post' : Int → Mem → Prop} (hK39 : ∀ (x0 : Int) (x1 : Int) (x2 : Int) (x3 : Int) (x4 : Mem), K39 x0 x1 x2 x3 x4 → K39' x0 x1 x2 x3 x4) (hpost : ∀ (x0 : Int) (x1 : Mem), post x0 x1 → post' x0 x1) : wp_X11_change_76 v1 v2 v4 s0 m K39 post → wp_X11_change_76 v1 v2 v4 s0 m K39' post' := by
  unfold wp_X11_change_76
  exact (mn_and (mn_imp (hK39 _ _ _ _ _)) (mn_imp (mn_and id (mn_all (fun _ => (mn_imp (mn_all (fun _ => (mn_imp (hK39 _ _ _ _ _))))))))))
theorem mn_X11_change_71 {v1 : Int} {v2 : Int} {v4 : Int} {m : Mem} {K39 K39' : Int → Int → Int → Int → Mem → Prop} {post post' : Int → Mem → Prop} (hK39 : ∀ (x0 : Int) (x1 : Int) (x2 : Int) (x3 : Int) (x4 : Mem), K39 x0 x1 x2 x3 x4 → K39' x0 x1 x2 x3 x4) (hpost : ∀ (x0 : Int) (x1 : Mem), post x0 x1 → post' x0 x1) : wp_X11_change_71 v1 v2 v4 m K39 post → wp_X11_change_71 v1 v2 v4 m K39' post' := by
  unfold wp_X11_change_71
  exact (mn_X11_change_76 (fun _ _ _ _ _ => (hK39 _ _ _ _ _)) hpost)
theorem mn_X11_change_39 {K108 K108' : Int → Int → Int → Mem → Prop} {post post' : Int → Mem → Prop} (hK108 : ∀ (x0 : Int) (x1 : Int) (x2 : Int) (x3 : Mem), K108 x0 x1 x2 x3 → K108' x0 x1 x2 x3) (hpost : ∀ (x0 : Int) (x1 : Mem), post x0 x1 → post' x0 x1) : ∀ (n : Nat) (v1 : Int) (v2 : Int) (v3 : Int) (v4 : Int) (m : Mem), wp_X11_change_39 K108 post n v1 v2 v3 v4 m → wp_X11_change_39 K108' post' n v1 v2 v3 v4 m := by
  intro n
  induction n with
  | zero => intro v1 v2 v3 v4 m; unfold wp_X11_change_39; exact id
  | succ n ih =>
    intro v1 v2 v3 v4 m
    unfold wp_X11_change_39
    exact (mn_and (mn_imp (hK108 _ _ _ _)) (mn_imp (mn_and id (mn_and (mn_imp (ih _ _ _ _ _)) (mn_imp (mn_and (mn_imp (mn_X11_change_71 (fun _ _ _ _ _ => (ih _ _ _ _ _)) hpost)) (mn_imp (mn_and (mn_imp (mn_X11_change_76 (fun _ _ _ _ _ => (ih _ _ _ _ _)) hpost)) (mn_imp (mn_X11_change_71 (fun _ _ _ _ _ => (ih _ _ _ _ _)) hpost))))))))))
theorem mn_X11_change {v1 : Int} {v2 : Int} {m : Mem} {post post' : Int → Mem → Prop} (hpost : ∀ (x0 : Int) (x1 : Mem), post x0 x1 → post' x0 x1) : wp_X11_change v1 v2 m post → wp_X11_change v1 v2 m post' := by
  unfold wp_X11_change
  exact (mn_X11_isYard (fun _ _ => (mn_and (mn_imp (mn_and (mn_imp (mn_all (fun _ => (mn_imp (mn_ex (fun _ => (mn_X11_change_39 (fun _ _ _ _ => (mn_and (mn_imp (hpost _ _)) (mn_imp (mn_and (mn_imp (mn_all (fun _ => (mn_imp (mn_X11_seekChange (fun _ _ => (mn_and (mn_imp (hpost _ _)) (mn_imp (mn_and (mn_imp (mn_and (mn_imp (hpost _ _)) (mn_imp (mn_and id (hpost _ _))))) (mn_imp (hpost _ _))))))))))) (mn_imp (hpost _ _)))))) hpost _ _ _ _ _ _))))))) (mn_imp (mn_X11_in (fun _ _ => (mn_and (mn_imp (mn_all (fun _ => (mn_imp (mn_ex (fun _ => (mn_X11_change_39 (fun _ _ _ _ => (mn_and (mn_imp (hpost _ _)) (mn_imp (mn_and (mn_imp (mn_all (fun _ => (mn_imp (mn_X11_seekChange (fun _ _ => (mn_and (mn_imp (hpost _ _)) (mn_imp (mn_and (mn_imp (mn_and (mn_imp (hpost _ _)) (mn_imp (mn_and id (hpost _ _))))) (mn_imp (hpost _ _))))))))))) (mn_imp (hpost _ _)))))) hpost _ _ _ _ _ _))))))) (mn_imp (hpost _ _)))))))) (mn_imp (hpost _ _)))))
theorem mn_X11_done_4 {post post' : Int → Mem → Prop} (hpost : ∀ (x0 : Int) (x1 : Mem), post x0 x1 → post' x0 x1) : ∀ (n : Nat) (v1 : Int) (v2 : Int) (m : Mem), wp_X11_done_4 post n v1 v2 m → wp_X11_done_4 post' n v1 v2 m := by
  intro n
  induction n with
  | zero => intro v1 v2 m; unfold wp_X11_done_4; exact id
  | succ n ih =>
    intro v1 v2 m
    unfold wp_X11_done_4
    exact (mn_and (mn_imp (hpost _ _)) (mn_imp (mn_and id (mn_all (fun _ => (mn_imp (ih _ _ _)))))))
theorem mn_X11_done {m : Mem} {post post' : Int → Mem → Prop} (hpost : ∀ (x0 : Int) (x1 : Mem), post x0 x1 → post' x0 x1) : wp_X11_done m post → wp_X11_done m post' := by
  unfold wp_X11_done
  exact (mn_ex (fun _ => (mn_X11_done_4 hpost _ _ _ _)))
theorem mn_X11_running_4 {post post' : Int → Mem → Prop} (hpost : ∀ (x0 : Int) (x1 : Mem), post x0 x1 → post' x0 x1) : ∀ (n : Nat) (v1 : Int) (v2 : Int) (m : Mem), wp_X11_running_4 post n v1 v2 m → wp_X11_running_4 post' n v1 v2 m := by
  intro n
  induction n with
  | zero => intro v1 v2 m; unfold wp_X11_running_4; exact id
  | succ n ih =>
    intro v1 v2 m
    unfold wp_X11_running_4
    exact (mn_and (mn_imp (hpost _ _)) (mn_imp (mn_and id (mn_and (mn_imp (mn_all (fun _ => (mn_imp (ih _ _ _))))) (mn_imp (mn_all (fun _ => (mn_imp (ih _ _ _)))))))))
theorem mn_X11_running {m : Mem} {post post' : Int → Mem → Prop} (hpost : ∀ (x0 : Int) (x1 : Mem), post x0 x1 → post' x0 x1) : wp_X11_running m post → wp_X11_running m post' := by
  unfold wp_X11_running
  exact (mn_ex (fun _ => (mn_X11_running_4 hpost _ _ _ _)))
theorem mn_X11_count {v1 : Int} {m : Mem} {post post' : Int → Mem → Prop} (hpost : ∀ (x0 : Int) (x1 : Mem), post x0 x1 → post' x0 x1) : wp_X11_count v1 m post → wp_X11_count v1 m post' := by
  unfold wp_X11_count
  exact (mn_and (mn_imp (hpost _ _)) (mn_and (mn_imp (hpost _ _)) (mn_and (mn_imp (hpost _ _)) (mn_and (mn_imp (hpost _ _)) (mn_and (mn_imp (hpost _ _)) (mn_and (mn_imp (mn_X11_done (fun _ _ => (hpost _ _)))) (mn_and (mn_imp (mn_X11_running (fun _ _ => (hpost _ _)))) (mn_and (mn_imp (hpost _ _)) (mn_and (mn_imp (hpost _ _)) (mn_and (mn_imp (hpost _ _)) (mn_and (mn_imp (hpost _ _)) (mn_imp (hpost _ _)))))))))))))
theorem mn_X11_mix {v1 : Int} {m : Mem} {post post' : Mem → Prop} (hpost : ∀ (x0 : Mem), post x0 → post' x0) : wp_X11_mix v1 m post → wp_X11_mix v1 m post' := by
  unfold wp_X11_mix
  exact (mn_all (fun _ => (mn_imp (hpost _))))
theorem mn_X11_mixTrains_2 {K62 K62' : Int → Mem → Prop} {post post' : Mem → Prop} (hK62 : ∀ (x0 : Int) (x1 : Mem), K62 x0 x1 → K62' x0 x1) (hpost : ∀ (x0 : Mem), post x0 → post' x0) : ∀ (n : Nat) (v1 : Int) (m : Mem), wp_X11_mixTrains_2 K62 post n v1 m → wp_X11_mixTrains_2 K62' post' n v1 m := by
  intro n
  induction n with
  | zero => intro v1 m; unfold wp_X11_mixTrains_2; exact id
  | succ n ih =>
    intro v1 m
    unfold wp_X11_mixTrains_2
    exact (mn_and (mn_imp (hK62 _ _)) (mn_imp (mn_and id (mn_X11_mix (fun _ => (mn_and id (mn_X11_mix (fun _ => (mn_and id (mn_X11_mix (fun _ => (mn_and id (mn_X11_mix (fun _ => (ih _ _)))))))))))))))
theorem mn_X11_mixTrains_62 {K131 K131' : Int → Mem → Prop} {post post' : Mem → Prop} (hK131 : ∀ (x0 : Int) (x1 : Mem), K131 x0 x1 → K131' x0 x1) (hpost : ∀ (x0 : Mem), post x0 → post' x0) : ∀ (n : Nat) (v1 : Int) (m : Mem), wp_X11_mixTrains_62 K131 post n v1 m → wp_X11_mixTrains_62 K131' post' n v1 m := by
  intro n
  induction n with
  | zero => intro v1 m; unfold wp_X11_mixTrains_62; exact id
  | succ n ih =>
    intro v1 m
    unfold wp_X11_mixTrains_62
    exact (mn_and (mn_imp (hK131 _ _)) (mn_imp (mn_and id (mn_X11_mix (fun _ => (mn_and id (mn_X11_mix (fun _ => (mn_and id (mn_X11_mix (fun _ => (mn_X11_onTheWay (fun _ _ => (mn_X11_mix (fun _ => (ih _ _))))))))))))))))
theorem mn_X11_mixTrains_131 {post post' : Mem → Prop} (hpost : ∀ (x0 : Mem), post x0 → post' x0) : ∀ (n : Nat) (v1 : Int) (m : Mem), wp_X11_mixTrains_131 post n v1 m → wp_X11_mixTrains_131 post' n v1 m := by
  intro n
  induction n with
  | zero => intro v1 m; unfold wp_X11_mixTrains_131; exact id
  | succ n ih =>
    intro v1 m
    unfold wp_X11_mixTrains_131
    exact (mn_and (mn_imp (hpost _)) (mn_imp (mn_and id (mn_X11_mix (fun _ => (ih _ _))))))
theorem mn_X11_mixTrains {m : Mem} {post post' : Mem → Prop} (hpost : ∀ (x0 : Mem), post x0 → post' x0) : wp_X11_mixTrains m post → wp_X11_mixTrains m post' := by
  unfold wp_X11_mixTrains
  exact (mn_ex (fun _ => (mn_X11_mixTrains_2 (fun _ _ => (mn_ex (fun _ => (mn_X11_mixTrains_62 (fun _ _ => (mn_ex (fun _ => (mn_X11_mixTrains_131 hpost _ _ _)))) hpost _ _ _)))) hpost _ _ _)))
theorem mn_X11_digest_30 {K18 K18' : Int → Mem → Prop} {post post' : Int → Mem → Prop} (hK18 : ∀ (x0 : Int) (x1 : Mem), K18 x0 x1 → K18' x0 x1) (hpost : ∀ (x0 : Int) (x1 : Mem), post x0 x1 → post' x0 x1) : ∀ (n : Nat) (v1 : Int) (v2 : Int) (m : Mem), wp_X11_digest_30 K18 post n v1 v2 m → wp_X11_digest_30 K18' post' n v1 v2 m := by
  intro n
  induction n with
  | zero => intro v1 v2 m; unfold wp_X11_digest_30; exact id
  | succ n ih =>
    intro v1 v2 m
    unfold wp_X11_digest_30
    exact (mn_and (mn_imp (hK18 _ _)) (mn_imp (mn_and id (mn_X11_mix (fun _ => (ih _ _ _))))))
theorem mn_X11_digest_18 {K66 K66' : Mem → Prop} {post post' : Int → Mem → Prop} (hK66 : ∀ (x0 : Mem), K66 x0 → K66' x0) (hpost : ∀ (x0 : Int) (x1 : Mem), post x0 x1 → post' x0 x1) : ∀ (n : Nat) (v1 : Int) (m : Mem), wp_X11_digest_18 K66 post n v1 m → wp_X11_digest_18 K66' post' n v1 m := by
  intro n
  induction n with
  | zero => intro v1 m; unfold wp_X11_digest_18; exact id
  | succ n ih =>
    intro v1 m
    unfold wp_X11_digest_18
    exact (mn_and (mn_imp (hK66 _)) (mn_imp (mn_all (fun _ => (mn_imp (mn_ex (fun _ => (mn_X11_digest_30 (fun _ _ => (ih _ _)) hpost _ _ _ _))))))))
theorem mn_X11_digest_81 {K108 K108' : Int → Mem → Prop} {post post' : Int → Mem → Prop} (hK108 : ∀ (x0 : Int) (x1 : Mem), K108 x0 x1 → K108' x0 x1) (hpost : ∀ (x0 : Int) (x1 : Mem), post x0 x1 → post' x0 x1) : ∀ (n : Nat) (v1 : Int) (m : Mem), wp_X11_digest_81 K108 post n v1 m → wp_X11_digest_81 K108' post' n v1 m := by
  intro n
  induction n with
  | zero => intro v1 m; unfold wp_X11_digest_81; exact id
  | succ n ih =>
    intro v1 m
    unfold wp_X11_digest_81
    exact (mn_and (mn_imp (hK108 _ _)) (mn_imp (mn_and id (mn_X11_mix (fun _ => (ih _ _))))))
theorem mn_X11_digest_118 {K108 K108' : Int → Mem → Prop} {post post' : Int → Mem → Prop} (hK108 : ∀ (x0 : Int) (x1 : Mem), K108 x0 x1 → K108' x0 x1) (hpost : ∀ (x0 : Int) (x1 : Mem), post x0 x1 → post' x0 x1) : ∀ (n : Nat) (v1 : Int) (v2 : Int) (m : Mem), wp_X11_digest_118 K108 post n v1 v2 m → wp_X11_digest_118 K108' post' n v1 v2 m := by
  intro n
  induction n with
  | zero => intro v1 v2 m; unfold wp_X11_digest_118; exact id
  | succ n ih =>
    intro v1 v2 m
    unfold wp_X11_digest_118
    exact (mn_and (mn_imp (hK108 _ _)) (mn_imp (mn_and id (mn_X11_mix (fun _ => (ih _ _ _))))))
theorem mn_X11_digest_108 {K156 K156' : Int → Mem → Prop} {post post' : Int → Mem → Prop} (hK156 : ∀ (x0 : Int) (x1 : Mem), K156 x0 x1 → K156' x0 x1) (hpost : ∀ (x0 : Int) (x1 : Mem), post x0 x1 → post' x0 x1) : ∀ (n : Nat) (v1 : Int) (m : Mem), wp_X11_digest_108 K156 post n v1 m → wp_X11_digest_108 K156' post' n v1 m := by
  intro n
  induction n with
  | zero => intro v1 m; unfold wp_X11_digest_108; exact id
  | succ n ih =>
    intro v1 m
    unfold wp_X11_digest_108
    exact (mn_and (mn_imp (hK156 _ _)) (mn_imp (mn_ex (fun _ => (mn_X11_digest_118 (fun _ _ => (ih _ _)) hpost _ _ _ _)))))
theorem mn_X11_digest_156 {K183 K183' : Int → Mem → Prop} {post post' : Int → Mem → Prop} (hK183 : ∀ (x0 : Int) (x1 : Mem), K183 x0 x1 → K183' x0 x1) (hpost : ∀ (x0 : Int) (x1 : Mem), post x0 x1 → post' x0 x1) : ∀ (n : Nat) (v1 : Int) (m : Mem), wp_X11_digest_156 K183 post n v1 m → wp_X11_digest_156 K183' post' n v1 m := by
  intro n
  induction n with
  | zero => intro v1 m; unfold wp_X11_digest_156; exact id
  | succ n ih =>
    intro v1 m
    unfold wp_X11_digest_156
    exact (mn_and (mn_imp (hK183 _ _)) (mn_imp (mn_and id (mn_X11_mix (fun _ => (ih _ _))))))
theorem mn_X11_digest_183 {K212 K212' : Int → Mem → Prop} {post post' : Int → Mem → Prop} (hK212 : ∀ (x0 : Int) (x1 : Mem), K212 x0 x1 → K212' x0 x1) (hpost : ∀ (x0 : Int) (x1 : Mem), post x0 x1 → post' x0 x1) : ∀ (n : Nat) (v1 : Int) (m : Mem), wp_X11_digest_183 K212 post n v1 m → wp_X11_digest_183 K212' post' n v1 m := by
  intro n
  induction n with
  | zero => intro v1 m; unfold wp_X11_digest_183; exact id
  | succ n ih =>
    intro v1 m
    unfold wp_X11_digest_183
    exact (mn_and (mn_imp (hK212 _ _)) (mn_imp (mn_and id (mn_X11_mix (fun _ => (ih _ _))))))
theorem mn_X11_digest_212 {K250 K250' : Int → Mem → Prop} {post post' : Int → Mem → Prop} (hK250 : ∀ (x0 : Int) (x1 : Mem), K250 x0 x1 → K250' x0 x1) (hpost : ∀ (x0 : Int) (x1 : Mem), post x0 x1 → post' x0 x1) : ∀ (n : Nat) (v1 : Int) (m : Mem), wp_X11_digest_212 K250 post n v1 m → wp_X11_digest_212 K250' post' n v1 m := by
  intro n
  induction n with
  | zero => intro v1 m; unfold wp_X11_digest_212; exact id
  | succ n ih =>
    intro v1 m
    unfold wp_X11_digest_212
    exact (mn_and (mn_imp (hK250 _ _)) (mn_imp (mn_and id (mn_X11_mix (fun _ => (mn_and id (mn_X11_mix (fun _ => (ih _ _)))))))))
theorem mn_X11_digest_250 {K275 K275' : Mem → Prop} {post post' : Int → Mem → Prop} (hK275 : ∀ (x0 : Mem), K275 x0 → K275' x0) (hpost : ∀ (x0 : Int) (x1 : Mem), post x0 x1 → post' x0 x1) : ∀ (n : Nat) (v1 : Int) (m : Mem), wp_X11_digest_250 K275 post n v1 m → wp_X11_digest_250 K275' post' n v1 m := by
  intro n
  induction n with
  | zero => intro v1 m; unfold wp_X11_digest_250; exact id
  | succ n ih =>
    intro v1 m
    unfold wp_X11_digest_250
    exact (mn_and (mn_imp (hK275 _)) (mn_imp (mn_and id (mn_X11_mix (fun _ => (ih _ _))))))
theorem mn_X11_digest {m : Mem} {post post' : Int → Mem → Prop} (hpost : ∀ (x0 : Int) (x1 : Mem), post x0 x1 → post' x0 x1) : wp_X11_digest m post → wp_X11_digest m post' := by
  unfold wp_X11_digest
  exact (mn_all (fun _ => (mn_imp (mn_X11_mix (fun _ => (mn_ex (fun _ => (mn_X11_digest_18 (fun _ => (mn_X11_mixTrains (fun _ => (mn_X11_mix (fun _ => (mn_ex (fun _ => (mn_X11_digest_81 (fun _ _ => (mn_ex (fun _ => (mn_X11_digest_108 (fun _ _ => (mn_ex (fun _ => (mn_X11_digest_156 (fun _ _ => (mn_ex (fun _ => (mn_X11_digest_183 (fun _ _ => (mn_ex (fun _ => (mn_X11_digest_212 (fun _ _ => (mn_ex (fun _ => (mn_X11_digest_250 (fun _ => (mn_X11_mix (fun _ => (hpost _ _)))) hpost _ _ _)))) hpost _ _ _)))) hpost _ _ _)))) hpost _ _ _)))) hpost _ _ _)))) hpost _ _ _)))))))) hpost _ _ _))))))))
