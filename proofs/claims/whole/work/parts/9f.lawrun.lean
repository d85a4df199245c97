/-! the law's loop -/
theorem or64_r (a b : Int) : r64 (or64 a b) := by
  unfold r64 or64
  have h1 := Int64.le_toInt (Int64.ofInt a ||| Int64.ofInt b)
  have h2 := Int64.toInt_lt (Int64.ofInt a ||| Int64.ofInt b)
  omega
theorem lcmp_z (a b : Int) : lcmp a b = 0 ↔ a = b := by
  unfold lcmp
  split
  · omega
  · split <;> omega
def CrewsOk : Prop := ∀ m : Mem, Rel m → ∀ w : Int, wp_X10_crews w m (fun r m1 => wp_X11_crews w m1 (fun r2 m2 => r = r2 ∧ Rel m2))
def LeastOk : Prop := ∀ m : Mem, Rel m → wp_X10_least m (fun r m1 => wp_X11_least m1 (fun r2 m2 => r = r2 ∧ Rel m2))
theorem law_run (hcr : CrewsOk) (hle : LeastOk) {L : Nat} (hL : L ≤ 3584) (sc : Int → Int) : ∀ (k v : Nat) (m : Mem), Rel m → L ≤ v + 7 * k + 6 → v ≤ 4000 → wp_L_law_18 (L : Int) sc (fun r _ => r = 1) (k + 1) v m := by
  have eL : w32 ((L : Int) - 7) = (L : Int) - 7 := w32_i (by omega)
  intro k
  induction k with
  | zero =>
    intro v m hR h1 h2
    unfold wp_L_law_18
    rw [eL]
    exact ⟨fun _ => rfl, fun q => absurd (by omega) q⟩
  | succ k ih =>
    intro v m hR h1 h2
    unfold wp_L_law_18
    rw [eL]
    refine ⟨fun _ => rfl, fun q => ?_⟩
    have hb : 0 ≤ (v : Int) ∧ (v : Int) < L := by omega
    have b1 : 0 ≤ w32 ((v : Int) + 1) ∧ w32 ((v : Int) + 1) < L := by rw [w32_i (by omega)]; omega
    have b2 : 0 ≤ w32 ((v : Int) + 2) ∧ w32 ((v : Int) + 2) < L := by rw [w32_i (by omega)]; omega
    have b3 : 0 ≤ w32 ((v : Int) + 3) ∧ w32 ((v : Int) + 3) < L := by rw [w32_i (by omega)]; omega
    have b4 : 0 ≤ w32 ((v : Int) + 4) ∧ w32 ((v : Int) + 4) < L := by rw [w32_i (by omega)]; omega
    have b5 : 0 ≤ w32 ((v : Int) + 5) ∧ w32 ((v : Int) + 5) < L := by rw [w32_i (by omega)]; omega
    have b6 : 0 ≤ w32 ((v : Int) + 6) ∧ w32 ((v : Int) + 6) < L := by rw [w32_i (by omega)]; omega
    have nx : ∀ m2 : Mem, Rel m2 → wp_L_law_18 (L : Int) sc (fun r _ => r = 1) (k + 1) (w32 ((v : Int) + 7)) m2 := fun m2 h => by
      rw [show w32 ((v : Int) + 7) = ((v + 7 : Nat) : Int) by unfold w32; omega]
      exact ih (v + 7) m2 h (by omega) (by omega)
    exact ⟨hb, fun _ => ⟨b1, mn_X10_land (fun r m1 h => ⟨b1, mn_X11_land (fun r2 m2 h2 => ⟨fun _ => nx m2 h2.2, fun z => absurd h2.1 z⟩) h⟩) (op_land hR _)⟩,
      fun _ => ⟨b1, b2, b3, mn_X10_miles (fun r m1 h => ⟨b1, b2, b3, mn_X11_miles (fun r2 m2 h2 => ⟨fun _ => nx m2 h2.2, fun z => absurd h2.1 z⟩) h⟩) (op_miles hR _ _ _)⟩,
      fun _ => ⟨b1, b2, mn_X10_far (fun r m1 h => ⟨b1, b2, mn_X11_far (fun r2 m2 h2 => ⟨fun _ => nx m2 h2.2, fun z => absurd h2.1 z⟩) h⟩) (op_far hR _ _)⟩,
      fun _ => ⟨b1, b2, mn_X10_letters (fun r m1 h => ⟨b1, b2, mn_X11_letters (fun r2 m2 h2 => ⟨fun _ => nx m2 h2.2, fun z => absurd h2.1 z⟩) h⟩) (op_letters hR (or64_r _ _))⟩,
      fun _ => mn_X10_blank (fun r m1 h => mn_X11_blank (fun r2 m2 h2 => ⟨fun _ => nx m2 h2.2, fun z => absurd h2.1 z⟩) h) (op_blank hR),
      fun _ => mn_X10_good (fun r m1 h => mn_X11_good (fun r2 m2 h2 => ⟨fun _ => nx m2 h2.2, fun z => absurd h2.1 z⟩) h) (op_good hR),
      fun _ => mn_X10_block (fun r m1 h => mn_X11_block (fun r2 m2 h2 => ⟨fun _ => nx m2 h2.2, fun z => absurd h2.1 z⟩) h) (op_block hR),
      fun _ => ⟨b1, b2, mn_X10_about (fun r m1 h => ⟨b1, b2, mn_X11_about (fun r2 m2 h2 => ⟨fun _ => nx m2 h2.2, fun z => absurd h2.1 z⟩) h⟩) (op_about hR _ _)⟩,
      fun _ => ⟨b1, b2, mn_X10_goes (fun r m1 h => ⟨b1, b2, mn_X11_goes (fun r2 m2 h2 => ⟨fun _ => nx m2 h2.2, fun z => absurd h2.1 z⟩) h⟩) (op_goes hR _ _)⟩,
      fun _ => ⟨b1, b2, b3, mn_X10_way (fun r m1 h => ⟨b1, b2, b3, mn_X11_way (fun r2 m2 h2 => ⟨fun _ => nx m2 h2.2, fun z => absurd h2.1 z⟩) h⟩) (op_way hR _ _ _)⟩,
      fun _ => mn_X10_lost (fun r m1 h => mn_X11_lost (fun r2 m2 h2 => ⟨fun _ => nx m2 h2.2, fun z => absurd h2.1 z⟩) h) (op_lost hR),
      fun _ => ⟨b1, b2, b3, b4, b5, b6, mn_X10_train (fun r m1 h => ⟨b1, b2, b3, b4, b5, b6, mn_X11_train (fun r2 m2 h2 => ⟨fun _ => nx m2 h2.2, fun z => absurd h2.1 z⟩) h⟩) (op_train hR _ _ _ _ _ _)⟩,
      fun _ => ⟨b1, b2, mn_X10_wagon (fun r m1 h => ⟨b1, b2, mn_X11_wagon (fun r2 m2 h2 => ⟨fun _ => nx m2 h2.2, fun z => absurd h2.1 z⟩) h⟩) (op_wagon hR _ _)⟩,
      fun _ => ⟨b1, mn_X10_sorting (fun r m1 h => ⟨b1, mn_X11_sorting (fun r2 m2 h2 => ⟨fun _ => nx m2 h2.2, fun z => absurd h2.1 z⟩) h⟩) (op_sorting hR _)⟩,
      fun _ => ⟨b1, b2, b3, mn_X10_close (fun r m1 h => ⟨b1, b2, b3, mn_X11_close (fun r2 m2 h2 => ⟨fun _ => nx m2 h2.2, fun z => absurd h2.1 z⟩) h⟩) (op_close hR _ _ _)⟩,
      fun _ => ⟨b1, mn_X10_pass (fun r m1 h => ⟨b1, mn_X11_pass (fun r2 m2 h2 => ⟨fun _ => nx m2 h2.2, fun z => absurd h2.1 z⟩) h⟩) (op_pass hR _)⟩,
      fun _ => ⟨b1, b2, mn_X10_wagonIs (fun r m1 h => ⟨b1, b2, mn_X11_wagonIs (fun r2 m2 h2 => ⟨fun _ => nx m2 h2.2, fun z => absurd h2.1 z⟩) h⟩) (op_wagonIs hR _ _)⟩,
      fun _ => ⟨b1, b2, mn_X10_trainIs (fun r m1 h => ⟨b1, b2, mn_X11_trainIs (fun r2 m2 h2 => ⟨fun _ => nx m2 h2.2, fun z => absurd h2.1 z⟩) h⟩) (op_trainIs hR _ _)⟩,
      fun _ => ⟨b1, b2, mn_X10_yard (fun r m1 h => ⟨b1, b2, mn_X11_yard (fun r2 m2 h2 => ⟨fun _ => nx m2 h2.2, fun z => absurd h2.1 z⟩) h⟩) (op_yard hR _ _)⟩,
      fun _ => ⟨b1, mn_X10_rest (fun r m1 h => ⟨b1, mn_X11_rest (fun r2 m2 h2 => ⟨fun _ => nx m2 h2.2, fun z => absurd h2.1 z⟩) h⟩) (op_rest hR _)⟩,
      fun _ => ⟨b1, mn_X10_crews (fun r m1 h => ⟨b1, mn_X11_crews (fun r2 m2 h2 => ⟨fun _ => nx m2 h2.2, fun z => absurd h2.1 z⟩) h⟩) (hcr m hR _)⟩,
      fun _ => mn_X10_drive (fun r m1 h => mn_X11_drive (fun r2 m2 h2 => ⟨fun _ => nx m2 h2.2, fun z => absurd h2.1 z⟩) h) (op_drive hR),
      fun _ => ⟨b1, mn_X10_roll (fun r m1 h => ⟨b1, mn_X11_roll (fun r2 m2 h2 => ⟨fun _ => nx m2 h2.2, fun z => absurd h2.1 z⟩) h⟩) (op_roll hR _)⟩,
      fun _ => ⟨b1, mn_X10_number (fun r m1 h => ⟨b1, mn_X11_number (fun r2 m2 h2 => ⟨fun _ => nx m2 h2.2, fun z => absurd h2.1 z⟩) h⟩) (op_number hR _)⟩,
      fun _ => ⟨b1, mn_X10_steps (fun r m1 h => ⟨b1, mn_X11_steps (fun r2 m2 h2 => ⟨fun _ => nx m2 h2.2, fun z => absurd h2.1 z⟩) h⟩) (op_steps hR _)⟩,
      fun _ => ⟨b1, b2, b3, mn_X10_stands (fun r m1 h => ⟨b1, b2, b3, mn_X11_stands (fun r2 m2 h2 => ⟨fun _ => nx m2 h2.2, fun z => absurd h2.1 z⟩) h⟩) (op_stands hR _ _ _)⟩,
      fun _ => ⟨b1, b2, b3, mn_X10_load (fun r m1 h => ⟨b1, b2, b3, mn_X11_load (fun r2 m2 h2 => ⟨fun _ => nx m2 h2.2, fun z => absurd h2.1 z⟩) h⟩) (op_load hR _ _ _)⟩,
      fun _ => ⟨b1, b2, mn_X10_tracks (fun r m1 h => ⟨b1, b2, mn_X11_tracks (fun r2 m2 h2 => ⟨fun _ => nx m2 h2.2, fun z => absurd h2.1 z⟩) h⟩) (op_tracks hR _ _)⟩,
      fun _ => ⟨b1, b2, mn_X10_price (fun r m1 h => ⟨b1, b2, mn_X11_price (fun r2 m2 h2 => ⟨fun _ => nx m2 h2.2, fun z => absurd h2.1 z⟩) h⟩) (op_price hR _ _)⟩,
      fun _ => ⟨b1, b2, mn_X10_cost (fun r m1 h => ⟨b1, b2, mn_X11_cost (fun r2 m2 h2 => ⟨fun _ => nx m2 h2.2, fun z => absurd h2.1 z⟩) h⟩) (op_cost hR (or64_r _ _))⟩,
      fun _ => ⟨b1, mn_X10_net (fun r m1 h => ⟨b1, mn_X11_net (fun r2 m2 h2 => ⟨fun _ => nx m2 h2.2, fun z => absurd ((lcmp_z _ _).mpr h2.1) z⟩) h⟩) (op_net hR _)⟩,
      fun _ => ⟨b1, b2, b3, mn_X10_empties (fun r m1 h => ⟨b1, b2, b3, mn_X11_empties (fun r2 m2 h2 => ⟨fun _ => nx m2 h2.2, fun z => absurd h2.1 z⟩) h⟩) (op_empties hR _ _ _)⟩,
      fun _ => mn_X10_least (fun r m1 h => mn_X11_least (fun r2 m2 h2 => ⟨fun _ => nx m2 h2.2, fun z => absurd h2.1 z⟩) h) (hle m hR),
      fun _ => ⟨b1, b2, mn_X10_leg (fun r m1 h => ⟨b1, b2, mn_X11_leg (fun r2 m2 h2 => ⟨fun _ => nx m2 h2.2, fun z => absurd h2.1 z⟩) h⟩) (op_leg hR _ _)⟩,
      fun _ => mn_X10_stay (fun r m1 h => mn_X11_stay (fun r2 m2 h2 => ⟨fun _ => nx m2 h2.2, fun z => absurd h2.1 z⟩) h) (op_stay hR),
      fun _ => ⟨b1, b2, mn_X10_share (fun r m1 h => ⟨b1, b2, mn_X11_share (fun r2 m2 h2 => ⟨fun _ => nx m2 h2.2, fun z => absurd ((lcmp_z _ _).mpr h2.1) z⟩) h⟩) (op_share hR _ _)⟩,
      fun _ => ⟨b1, mn_X10_promise (fun r m1 h => ⟨b1, mn_X11_promise (fun r2 m2 h2 => ⟨fun _ => nx m2 h2.2, fun z => absurd h2.1 z⟩) h⟩) (op_promise hR _)⟩,
      fun _ => ⟨b1, b2, mn_X10_change (fun r m1 h => ⟨b1, b2, mn_X11_change (fun r2 m2 h2 => ⟨fun _ => nx m2 h2.2, fun z => absurd h2.1 z⟩) h⟩) (op_change hR _ _)⟩,
      fun _ => ⟨b1, mn_X10_count (fun r m1 h => ⟨b1, mn_X11_count (fun r2 m2 h2 => ⟨fun _ => nx m2 h2.2, fun z => absurd h2.1 z⟩) h⟩) (op_count hR _)⟩,
      fun _ => mn_X10_digest (fun r m1 h => mn_X11_digest (fun r2 m2 h2 => ⟨fun _ => nx m2 h2.2, fun z => absurd ((lcmp_z _ _).mpr h2.1) z⟩) h) (op_digest hR),
      fun _ => nx m hR⟩
theorem law_of (hcr : CrewsOk) (hle : LeastOk) (L : Nat) (xs : Nat → Int32) (hL : L ≤ 3584) : wp_X10_begin 4 mz (fun m1 => (∀ n : Int, 67 ≤ n → ∀ j : Int, m1 n j = 0) ∧ wp_X11_begin 4 m1 (fun m2 => ∃ n : Nat, wp_L_law_18 (L : Int) (fun i => (xs i.toNat).toInt) (fun r _ => r = 1) n 0 m2)) :=
  mn_X10_begin (fun m1 h => ⟨h.1, mn_X11_begin (fun m2 h2 => ⟨L + 1, law_run hcr hle hL _ L 0 m2 h2 (by omega) (by omega)⟩) h.2⟩) rel_start
