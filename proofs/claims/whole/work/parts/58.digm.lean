/-! digest: the reference's side -/
def md (m : Mem) (h : Int) : Mem := mset m 67 64 h
theorem md_r {m : Mem} {h c : Int} (hc : ¬ c = 67) : md m h c = m c := mset_r hc
theorem md_f {m : Mem} {h i : Int} (hi : ¬ i = 64) : md m h 67 i = m 67 i := mset_ne (by omega)
theorem sp_mix {m : Mem} {h v : Int} {post : Mem → Prop} (H : post (md m (mx h v))) : wp_X11_mix v (md m h) post := by
  unfold wp_X11_mix
  refine eqm ?_
  have e : md m h 67 64 = h := mset_same _ _ _ _
  rw [e]
  have e2 : mset (md m h) 67 64 (w64 (w64 (31 * h) + v)) = md m (mx h v) := by
    funext c i
    unfold md mx
    rw [mset_at, mset_at, mset_at]
    split <;> rfl
  rw [e2]
  exact H
theorem mg_land {n : Nat} (hn : 2 ≤ n ∧ n ≤ 8) {m : Mem} {h : Int} {K : Mem → Prop} {post : Int → Mem → Prop} (h0 : m 67 0 = n) (H : K (md m (fd (gL n (m 68)) n h))) : ∃ f : Nat, wp_X11_digest_18 K post f 0 (md m h) := by
  have inner : ∀ (K : Int → Mem → Prop) (a : Nat) (x : Int), a < n → K ((a + 1 : Nat) : Int) (md m (gL n (m 68) a x)) → ∀ r j : Nat, a + 1 + j + r = n → wp_X11_digest_30 K post (r + 1) a ((a + 1 + j : Nat) : Int) (md m (fd (fun j x => mx x (m 68 (8 * (a : Int) + ((a + 1 + j : Nat) : Int)))) j x)) := by
    intro K a x ha hK r
    induction r with
    | zero =>
      intro j hj
      unfold wp_X11_digest_30
      rw [md_f (by decide), h0]
      refine bt (by omega) ?_
      rw [i1 a (by omega)]
      unfold gL at hK
      rw [show n - 1 - a = j by omega] at hK
      exact hK
    | succ r ih =>
      intro j hj
      unfold wp_X11_digest_30
      rw [md_f (by decide), h0, md_r (by decide), ix8' (by omega) (by omega) (by omega) (by omega), i1 (a + 1 + j) (by omega)]
      exact bf (by omega) ⟨by omega, sp_mix (ih (j + 1) (by omega))⟩
  have outer : ∀ r a : Nat, a + r = n → wp_X11_digest_18 K post (r + 1) a (md m (fd (gL n (m 68)) a h)) := by
    intro r
    induction r with
    | zero => intro a ha; unfold wp_X11_digest_18; rw [md_f (by decide), h0]; refine bt (by omega) ?_; rw [show a = n by omega]; exact H
    | succ r ih =>
      intro a ha
      unfold wp_X11_digest_18
      rw [md_f (by decide), h0, i1 a (by omega)]
      exact bf (by omega) (eqm ⟨r + 1, inner _ a _ (by omega) (ih (a + 1) (by omega)) r 0 (by omega)⟩)
  exact ⟨n + 1, outer n 0 (by omega)⟩
theorem mg_blk {N : Nat} (hN : N ≤ 20) {m : Mem} {h : Int} {K : Int → Mem → Prop} {post : Mem → Prop} (h0 : m 67 4 = N) (H : K 0 (md m (fd (g4 (m 70) (m 71) (m 72) (m 73)) N h))) : ∃ f : Nat, wp_X11_mixTrains_2 K post f 0 (md m h) := by
  have outer : ∀ r a : Nat, a + r = N → wp_X11_mixTrains_2 K post (r + 1) a (md m (fd (g4 (m 70) (m 71) (m 72) (m 73)) a h)) := by
    intro r
    induction r with
    | zero => intro a ha; unfold wp_X11_mixTrains_2; rw [md_f (by decide), h0]; refine bt (by omega) ?_; rw [show a = N by omega]; exact H
    | succ r ih =>
      intro a ha
      unfold wp_X11_mixTrains_2
      rw [md_f (by decide), h0, i1 a (by omega), md_r (by decide)]
      refine bf (by omega) ⟨by omega, sp_mix ⟨by omega, ?_⟩⟩
      rw [md_r (by decide)]
      refine sp_mix ⟨by omega, ?_⟩
      rw [md_r (by decide)]
      refine sp_mix ⟨by omega, ?_⟩
      rw [md_r (by decide)]
      exact sp_mix (ih (a + 1) (by omega))
  exact ⟨N + 1, outer N 0 (by omega)⟩
theorem mg_trn {N : Nat} (hN : N ≤ 12) {m : Mem} {h : Int} {K : Int → Mem → Prop} {post : Mem → Prop} (h0 : m 67 9 = N) (H : K 0 (md m (fd (g4 (fun i => m 75 (3 * i)) (fun i => m 75 (3 * i + 1)) (fun i => m 75 (3 * i + 2)) (fun i => 4 - cnt4 (fun q => m 76 (4 * i + q)) (-1))) N h))) : ∃ f : Nat, wp_X11_mixTrains_62 K post f 0 (md m h) := by
  have outer : ∀ r a : Nat, a + r = N → wp_X11_mixTrains_62 K post (r + 1) a (md m (fd (g4 (fun i => m 75 (3 * i)) (fun i => m 75 (3 * i + 1)) (fun i => m 75 (3 * i + 2)) (fun i => 4 - cnt4 (fun q => m 76 (4 * i + q)) (-1))) a h)) := by
    intro r
    induction r with
    | zero => intro a ha; unfold wp_X11_mixTrains_62; rw [md_f (by decide), h0]; refine bt (by omega) ?_; rw [show a = N by omega]; exact H
    | succ r ih =>
      intro a ha
      unfold wp_X11_mixTrains_62
      rw [md_f (by decide), h0, i1 a (by omega), md_r (by decide), w32_i (x := 3 * (a : Int)) (by omega), w32_i (x := 3 * (a : Int) + 1) (by omega), w32_i (x := 3 * (a : Int) + 2) (by omega)]
      refine bf (by omega) ⟨by omega, sp_mix ⟨by omega, ?_⟩⟩
      rw [md_r (by decide)]
      refine sp_mix ⟨by omega, ?_⟩
      rw [md_r (by decide)]
      refine sp_mix (sp_onTheWayM (by omega) ?_)
      rw [md_r (by decide)]
      exact sp_mix (ih (a + 1) (by omega))
  exact ⟨N + 1, outer N 0 (by omega)⟩
theorem mg_wag {N : Nat} (hN : N ≤ 30) {m : Mem} {h : Int} {post : Mem → Prop} (h0 : m 67 13 = N) (H : post (md m (fd (g1 (m 77)) (6 * N) h))) : ∃ f : Nat, wp_X11_mixTrains_131 post f 0 (md m h) := by
  have outer : ∀ r a : Nat, a + r = 6 * N → wp_X11_mixTrains_131 post (r + 1) a (md m (fd (g1 (m 77)) a h)) := by
    intro r
    induction r with
    | zero => intro a ha; unfold wp_X11_mixTrains_131; rw [md_f (by decide), h0, w32_i (x := 6 * (N : Int)) (by omega)]; refine bt (by omega) ?_; rw [show a = 6 * N by omega]; exact H
    | succ r ih =>
      intro a ha
      unfold wp_X11_mixTrains_131
      rw [md_f (by decide), h0, i1 a (by omega), md_r (by decide), w32_i (x := 6 * (N : Int)) (by omega)]
      exact bf (by omega) ⟨by omega, sp_mix (ih (a + 1) (by omega))⟩
  exact ⟨6 * N + 1, outer (6 * N) 0 (by omega)⟩
theorem mg_row {N : Nat} (hN : N ≤ 16) {m : Mem} {h : Int} {K : Int → Mem → Prop} {post : Int → Mem → Prop} (h0 : m 67 20 = N) (H : K 0 (md m (fd (g1 (m 80)) N h))) : ∃ f : Nat, wp_X11_digest_81 K post f 0 (md m h) := by
  have outer : ∀ r a : Nat, a + r = N → wp_X11_digest_81 K post (r + 1) a (md m (fd (g1 (m 80)) a h)) := by
    intro r
    induction r with
    | zero => intro a ha; unfold wp_X11_digest_81; rw [md_f (by decide), h0]; refine bt (by omega) ?_; rw [show a = N by omega]; exact H
    | succ r ih =>
      intro a ha
      unfold wp_X11_digest_81
      rw [md_f (by decide), h0, i1 a (by omega), md_r (by decide)]
      exact bf (by omega) ⟨by omega, sp_mix (ih (a + 1) (by omega))⟩
  exact ⟨N + 1, outer N 0 (by omega)⟩
theorem mg_ld {n : Nat} (hn : n ≤ 8) {m : Mem} {h : Int} {K : Int → Mem → Prop} {post : Int → Mem → Prop} (h0 : m 67 0 = n) (H : K 0 (md m (fd (gN n (m 81)) n h))) : ∃ f : Nat, wp_X11_digest_108 K post f 0 (md m h) := by
  have inner : ∀ (K : Int → Mem → Prop) (a : Nat) (x : Int), a < n → K ((a + 1 : Nat) : Int) (md m (gN n (m 81) a x)) → ∀ r j : Nat, j + r = n → wp_X11_digest_118 K post (r + 1) a j (md m (fd (fun j x => mx x (m 81 (8 * (a : Int) + (j : Int)))) j x)) := by
    intro K a x ha hK r
    induction r with
    | zero =>
      intro j hj
      unfold wp_X11_digest_118
      rw [md_f (by decide), h0]
      refine bt (by omega) ?_
      rw [i1 a (by omega), show j = n by omega]
      exact hK
    | succ r ih =>
      intro j hj
      unfold wp_X11_digest_118
      rw [md_f (by decide), h0, md_r (by decide), ix8' (by omega) (by omega) (by omega) (by omega), i1 j (by omega)]
      exact bf (by omega) ⟨by omega, sp_mix (ih (j + 1) (by omega))⟩
  have outer : ∀ r a : Nat, a + r = n → wp_X11_digest_108 K post (r + 1) a (md m (fd (gN n (m 81)) a h)) := by
    intro r
    induction r with
    | zero => intro a ha; unfold wp_X11_digest_108; rw [md_f (by decide), h0]; refine bt (by omega) ?_; rw [show a = n by omega]; exact H
    | succ r ih =>
      intro a ha
      unfold wp_X11_digest_108
      rw [md_f (by decide), h0]
      exact bf (by omega) ⟨n + 1, inner _ a _ (by omega) (ih (a + 1) (by omega)) n 0 (by omega)⟩
  exact ⟨n + 1, outer n 0 (by omega)⟩
theorem mg_trk {N : Nat} (hN : N ≤ 8) {m : Mem} {h : Int} {K : Int → Mem → Prop} {post : Int → Mem → Prop} (h0 : m 67 0 = N) (H : K 0 (md m (fd (g1 (m 82)) N h))) : ∃ f : Nat, wp_X11_digest_156 K post f 0 (md m h) := by
  have outer : ∀ r a : Nat, a + r = N → wp_X11_digest_156 K post (r + 1) a (md m (fd (g1 (m 82)) a h)) := by
    intro r
    induction r with
    | zero => intro a ha; unfold wp_X11_digest_156; rw [md_f (by decide), h0]; refine bt (by omega) ?_; rw [show a = N by omega]; exact H
    | succ r ih =>
      intro a ha
      unfold wp_X11_digest_156
      rw [md_f (by decide), h0, i1 a (by omega), md_r (by decide)]
      exact bf (by omega) ⟨by omega, sp_mix (ih (a + 1) (by omega))⟩
  exact ⟨N + 1, outer N 0 (by omega)⟩
theorem mg_emp {n : Nat} (hn : n ≤ 8) {m : Mem} {h : Int} {K : Int → Mem → Prop} {post : Int → Mem → Prop} (h0 : m 67 0 = n) (H : K 0 (md m (fd (g1 (m 83)) (3 * n) h))) : ∃ f : Nat, wp_X11_digest_183 K post f 0 (md m h) := by
  have outer : ∀ r a : Nat, a + r = 3 * n → wp_X11_digest_183 K post (r + 1) a (md m (fd (g1 (m 83)) a h)) := by
    intro r
    induction r with
    | zero => intro a ha; unfold wp_X11_digest_183; rw [md_f (by decide), h0, w32_i (x := 3 * (n : Int)) (by omega)]; refine bt (by omega) ?_; rw [show a = 3 * n by omega]; exact H
    | succ r ih =>
      intro a ha
      unfold wp_X11_digest_183
      rw [md_f (by decide), h0, i1 a (by omega), md_r (by decide), w32_i (x := 3 * (n : Int)) (by omega)]
      exact bf (by omega) ⟨by omega, sp_mix (ih (a + 1) (by omega))⟩
  exact ⟨3 * n + 1, outer (3 * n) 0 (by omega)⟩
theorem mg_leg {N : Nat} (hN : N ≤ 5) {m : Mem} {h : Int} {K : Int → Mem → Prop} {post : Int → Mem → Prop} (h0 : m 67 27 = N) (H : K 0 (md m (fd (g2 (m 84) (m 85)) N h))) : ∃ f : Nat, wp_X11_digest_212 K post f 0 (md m h) := by
  have outer : ∀ r a : Nat, a + r = N → wp_X11_digest_212 K post (r + 1) a (md m (fd (g2 (m 84) (m 85)) a h)) := by
    intro r
    induction r with
    | zero => intro a ha; unfold wp_X11_digest_212; rw [md_f (by decide), h0]; refine bt (by omega) ?_; rw [show a = N by omega]; exact H
    | succ r ih =>
      intro a ha
      unfold wp_X11_digest_212
      rw [md_f (by decide), h0, i1 a (by omega), md_r (by decide)]
      refine bf (by omega) ⟨by omega, sp_mix ⟨by omega, ?_⟩⟩
      rw [md_r (by decide)]
      exact sp_mix (ih (a + 1) (by omega))
  exact ⟨N + 1, outer N 0 (by omega)⟩
theorem mg_page {N : Nat} (hN : N ≤ 40) {m : Mem} {h : Int} {K : Mem → Prop} {post : Int → Mem → Prop} (h0 : m 67 2 = N) (H : K (md m (fd (g1 (m 69)) N h))) : ∃ f : Nat, wp_X11_digest_250 K post f 0 (md m h) := by
  have outer : ∀ r a : Nat, a + r = N → wp_X11_digest_250 K post (r + 1) a (md m (fd (g1 (m 69)) a h)) := by
    intro r
    induction r with
    | zero => intro a ha; unfold wp_X11_digest_250; rw [md_f (by decide), h0]; refine bt (by omega) ?_; rw [show a = N by omega]; exact H
    | succ r ih =>
      intro a ha
      unfold wp_X11_digest_250
      rw [md_f (by decide), h0, i1 a (by omega), md_r (by decide)]
      exact bf (by omega) ⟨by omega, sp_mix (ih (a + 1) (by omega))⟩
  exact ⟨N + 1, outer N 0 (by omega)⟩
theorem fd6 (a : Int → Int) (h : Int) : ∀ K : Nat, fd (g1 a) (6 * K) h = fd (g6 (fun i => a (6 * i)) (fun i => a (6 * i + 1)) (fun i => a (6 * i + 2)) (fun i => a (6 * i + 3)) (fun i => a (6 * i + 4)) (fun i => a (6 * i + 5))) K h
  | 0 => rfl
  | K + 1 => by
    have e : fd (g1 a) (6 * (K + 1)) h = mx (mx (mx (mx (mx (mx (fd (g1 a) (6 * K) h) (a ((6 * K : Nat) : Int))) (a ((6 * K + 1 : Nat) : Int))) (a ((6 * K + 2 : Nat) : Int))) (a ((6 * K + 3 : Nat) : Int))) (a ((6 * K + 4 : Nat) : Int))) (a ((6 * K + 5 : Nat) : Int)) := rfl
    rw [e, fd6 a h K]
    show _ = g6 _ _ _ _ _ _ K (fd _ K h)
    unfold g6
    rw [show ((6 * K + 5 : Nat) : Int) = 6 * (K : Int) + 5 by omega, show ((6 * K + 4 : Nat) : Int) = 6 * (K : Int) + 4 by omega, show ((6 * K + 3 : Nat) : Int) = 6 * (K : Int) + 3 by omega, show ((6 * K + 2 : Nat) : Int) = 6 * (K : Int) + 2 by omega, show ((6 * K + 1 : Nat) : Int) = 6 * (K : Int) + 1 by omega, show ((6 * K : Nat) : Int) = 6 * (K : Int) by omega]
theorem op_digest {m : Mem} (hR : Rel m) : wp_X10_digest m (fun r m1 => wp_X11_digest m1 (fun r2 m2 => r = r2 ∧ Rel m2)) := by
  obtain ⟨h1, h2, h3, h4, h5, h6, h7, h8, h9, h10, h11⟩ := id hR
  obtain ⟨l1, l2, l3, l4⟩ := h1
  obtain ⟨p1, p2, p3, p4⟩ := h2
  obtain ⟨b1, b2, b3, b4, b5⟩ := h3
  obtain ⟨c1, c2, c3, c4, c5, c6, c7⟩ := h4
  obtain ⟨e1, e2, e3, e4, e5, e6, e7, e8, e9, e10, e11⟩ := h5
  obtain ⟨r1, r2, r3, r4⟩ := h6
  obtain ⟨t1, t2, t3, t4, t5, t6⟩ := h7
  obtain ⟨q1, q2, q3, q4⟩ := h9
  obtain ⟨s1, s2, s3, s4⟩ := h10
  obtain ⟨d1, d2, d3⟩ := h11
  obtain ⟨n, hn⟩ := Int.eq_ofNat_of_zero_le (show 0 ≤ m 1 0 by omega)
  obtain ⟨nb, hb⟩ := Int.eq_ofNat_of_zero_le (show 0 ≤ m 6 0 by omega)
  obtain ⟨nt', ht⟩ := Int.eq_ofNat_of_zero_le (show 0 ≤ m 13 0 by omega)
  obtain ⟨nw, hw⟩ := Int.eq_ofNat_of_zero_le (show 0 ≤ m 28 4 by omega)
  obtain ⟨nr, hr⟩ := Int.eq_ofNat_of_zero_le (show 0 ≤ m 37 0 by omega)
  obtain ⟨ng, hg⟩ := Int.eq_ofNat_of_zero_le (show 0 ≤ m 59 0 by omega)
  obtain ⟨np, hp⟩ := Int.eq_ofNat_of_zero_le (show 0 ≤ m 4 0 by omega)
  unfold wp_X10_digest
  refine dg_land (by omega) hn (dg_blk (by omega) hb (dg_trn (by omega) ht (fun i i1 i2 => ?_) (dg_trf (by omega) hw (dg_row (by omega) hr ?_))))
  · have hc := c7 i i1 (by omega)
    obtain ⟨-, -, -, w, -, u⟩ := hc
    obtain ⟨u1, u2, u3, u4, -, -⟩ := u
    clear b4 b5 c7 e7 e11 r4 t5 t6 q4 s4 l4 p4 hR h8
    omega
  rw [hn]
  refine dg_net (by omega) ?_
  rw [hn]
  refine dg_emp (by omega) (dg_leg (by omega) hg (dg_page (by omega) hp ?_))
  unfold wp_X11_digest
  refine eqm ?_
  show wp_X11_mix (md m 229 67 0) (md m 229) _
  rw [md_f (by decide)]
  refine sp_mix (mg_land (n := n) (by omega) (by omega) ?_)
  unfold wp_X11_mixTrains
  refine mg_blk (N := nb) (by omega) (by omega) (mg_trn (N := nt') (by omega) (by omega) (mg_wag (N := nw) (by omega) (by omega) ?_))
  rw [md_f (by decide)]
  refine sp_mix (mg_row (N := nr) (by omega) (by omega) (mg_ld (n := n) (by omega) (by omega) (mg_trk (N := n) (by omega) (by omega) (mg_emp (n := n) (by omega) (by omega) (mg_leg (N := ng) (by omega) (by omega) (mg_page (N := np) (by omega) (by omega) ?_))))))
  rw [md_f (by decide)]
  refine sp_mix ⟨?_, Rel.frame (fun c i q => by unfold md; exact mset_ne (by unfold Scr at q; omega)) hR⟩
  rw [show ∀ x : Int, md m x 67 64 = x from fun x => mset_same _ _ _ _]
  have k1 : ∀ x : Int, fd (gL n (m 68)) n x = fd (gL n (m 2)) n x := fun x => fd_c n x (fun a y ha => by
    unfold gL
    refine fd_c _ _ (fun j z hj => ?_)
    rw [(l4 (a : Int) ((a + 1 + j : Nat) : Int) (by omega) (by omega) (by omega) (by omega) (by omega)).1])
  have k2 : ∀ x : Int, fd (g4 (m 70) (m 71) (m 72) (m 73)) nb x = fd (g4 (m 7) (m 8) (m 9) (m 10)) nb x := fun x => fd_c nb x (fun a y ha => by
    have w := (b4 (a : Int) (by omega) (by omega)).1
    unfold g4
    rw [w.1, w.2.1, w.2.2.1, w.2.2.2])
  have k3 : ∀ x : Int, fd (g4 (fun i => m 75 (3 * i)) (fun i => m 75 (3 * i + 1)) (fun i => m 75 (3 * i + 2)) (fun i => 4 - cnt4 (fun q => m 76 (4 * i + q)) (-1))) nt' x = fd (g4 (m 22) (m 23) (m 24) (fun i => (if m 28 0 ≤ m 25 i + m 18 i then 1 else 0) + (if m 28 0 ≤ m 26 i + m 18 i then 1 else 0))) nt' x := fun x => fd_c nt' x (fun a y ha => by
    have w := c7 (a : Int) (by omega) (by omega)
    obtain ⟨-, -, -, -, w5, w6⟩ := w
    obtain ⟨-, -, -, -, -, w7⟩ := w6
    unfold g4
    dsimp only
    rw [w5.1, w5.2.1, w5.2.2, w7]
    congr 1
    omega)
  have k4 : ∀ x : Int, fd (g1 (m 77)) (6 * nw) x = fd (g6 (m 31) (m 33) (m 34) (m 35) (m 36) (m 32)) nw x := fun x => by
    rw [fd6]
    refine fd_c nw x (fun a y ha => ?_)
    have w := (e11 (a : Int) (by omega) (by omega)).1
    unfold g6
    dsimp only
    rw [w.1, w.2.1, w.2.2.1, w.2.2.2.1, w.2.2.2.2.1, w.2.2.2.2.2]
  have k5 : ∀ x : Int, fd (g1 (m 80)) nr x = fd (g1 (m 40)) nr x := fun x => fd_c nr x (fun a y ha => by
    unfold g1; rw [(r4 (a : Int) (by omega) (by omega)).1])
  have k6 : ∀ x : Int, fd (gN n (m 81)) n x = fd (gN n (m 44)) n x := fun x => fd_c n x (fun a y ha => by
    unfold gN
    refine fd_c _ _ (fun j z hj => ?_)
    rw [(t5 (a : Int) (j : Int) (by omega) (by omega) (by omega) (by omega)).1])
  have k7 : ∀ x : Int, fd (g1 (m 82)) n x = fd (g1 (m 45)) n x := fun x => fd_c n x (fun a y ha => by
    unfold g1; rw [(t6 (a : Int) (by omega) (by omega)).1])
  have k8 : ∀ x : Int, fd (g1 (m 83)) (3 * n) x = fd (g1 (m 48)) (3 * n) x := fun x => fd_c (3 * n) x (fun a y ha => by
    unfold g1; rw [(q4 (a : Int) (by omega) (by omega)).1])
  have k9 : ∀ x : Int, fd (g2 (m 84) (m 85)) ng x = fd (g2 (m 60) (m 61)) ng x := fun x => fd_c ng x (fun a y ha => by
    have w := s4 (a : Int) (by omega) (by omega)
    unfold g2; rw [w.1, w.2.1])
  have k10 : ∀ x : Int, fd (g1 (m 69)) np x = fd (g1 (m 5)) np x := fun x => fd_c np x (fun a y ha => by
    unfold g1; rw [(p4 (a : Int) (by omega) (by omega)).1])
  rw [k1, k2, k3, k4, k5, k6, k7, k8, k9, k10, d1, e1, l1, hn]
  rfl
