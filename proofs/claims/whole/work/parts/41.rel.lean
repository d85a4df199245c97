/-! what the class's cells and the reference's cells have in common, group by group -/
def bit (x d : Int) : Int := and32 (shr32 x d) 1
/-- the block into which a wagon for d goes at a, out of the first k blocks -/
def pick (fr tk rk : Int → Int) (a d : Int) : Nat → Int
  | 0 => -1
  | k + 1 => if fr k = a ∧ bit (tk k) d = 1 ∧ (pick fr tk rk a d k = -1 ∨ rk (pick fr tk rk a d k) < rk k) then (k : Int) else pick fr tk rk a d k
def RLand (n nM : Int) (mi mM : Int → Int) : Prop := nM = n ∧ 2 ≤ n ∧ n ≤ 8 ∧ ∀ a b : Int, 0 ≤ a → a < 8 → 0 ≤ b → b < 8 → a ≠ b → mM (8 * a + b) = mi (8 * a + b) ∧ 1 ≤ mi (8 * a + b) ∧ mi (8 * a + b) ≤ 99
def RPage (k kM : Int) (cd cM : Int → Int) : Prop := kM = k ∧ 0 ≤ k ∧ k ≤ 40 ∧ ∀ i : Int, 0 ≤ i → i < k → cM i = cd i ∧ 1 ≤ cd i ∧ cd i ≤ 126
def RBlk (n k kM : Int) (fr to tk rk frM toM tkM rkM ch : Int → Int) : Prop := kM = k ∧ 0 ≤ k ∧ k ≤ 20 ∧ (∀ i : Int, 0 ≤ i → i < k → (frM i = fr i ∧ toM i = to i ∧ tkM i = tk i ∧ rkM i = rk i) ∧ 0 ≤ fr i ∧ fr i < n ∧ 0 ≤ to i ∧ to i < n ∧ fr i ≠ to i ∧ 0 ≤ tk i ∧ tk i < 256 ∧ 1 ≤ rk i ∧ rk i ≤ 9) ∧ ∀ a d : Int, 0 ≤ a → a < 8 → 0 ≤ d → d < 8 → ch (8 * a + d) = pick frM tkM rkM a d k.toNat
def cnt4 (s : Int → Int) (v : Int) : Int := (if s 0 = v then 1 else 0) + (if s 1 = v then 1 else 0) + (if s 2 = v then 1 else 0) + (if s 3 = v then 1 else 0)
def RRun (clock hr tk ll lb : Int) (s : Int → Int) : Prop := ll < clock ∧ (lb < ll ∨ (ll = -1000 ∧ lb = -1000)) ∧ (ll = -1000 ∨ (0 ≤ ll ∧ ll % 24 = hr)) ∧ (lb = -1000 ∨ (0 ≤ lb ∧ lb % 24 = hr)) ∧ (∀ v : Int, v ≠ -1 → cnt4 s v = (if ll + tk = v ∧ clock ≤ v then 1 else 0) + (if lb + tk = v ∧ clock ≤ v then 1 else 0)) ∧ cnt4 s (-1) = 4 - (if clock ≤ ll + tk then 1 else 0) - (if clock ≤ lb + tk then 1 else 0)
def RTrn (k clock t tM rest restM : Int) (b1 b2 fr to tk ln dy hr lm tm sm ll lb fB toB trOf told cmIn : Int → Int) : Prop := tM = t ∧ 0 ≤ t ∧ t ≤ 12 ∧ restM = rest ∧ 0 ≤ rest ∧ rest ≤ 48 ∧ ∀ i : Int, 0 ≤ i → i < t →
  (trOf (6 * i) = b1 i ∧ trOf (6 * i + 1) = b2 i ∧ trOf (6 * i + 2) = dy i ∧ trOf (6 * i + 3) = hr i ∧ trOf (6 * i + 4) = tk i ∧ trOf (6 * i + 5) = ln i) ∧ (0 ≤ b1 i ∧ b1 i < k ∧ (b2 i = -1 ∨ (0 ≤ b2 i ∧ b2 i < k ∧ fB (b2 i) = fB (b1 i) ∧ toB (b2 i) = toB (b1 i)))) ∧ (fr i = fB (b1 i) ∧ to i = toB (b1 i) ∧ r32 (tm i)) ∧ (1 ≤ dy i ∧ dy i ≤ 127 ∧ 0 ≤ hr i ∧ hr i < 24 ∧ 1 ≤ tk i ∧ tk i ≤ 48 ∧ 1 ≤ ln i ∧ ln i ≤ 12) ∧ (told (3 * i) = lm i ∧ told (3 * i + 1) = tm i ∧ told (3 * i + 2) = sm i) ∧ RRun clock (hr i) (tk i) (ll i) (lb i) (fun q => cmIn (4 * i + q))
def RWag (n t clock : Int) (at_ gl tr si dn cmIn : Int → Int) (i : Int) : Prop := 0 ≤ gl i ∧ gl i < n ∧ 0 ≤ si i ∧ si i ≤ 3000 ∧ ((0 ≤ at_ i ∧ at_ i < n ∧ tr i = -1 ∧ dn i = 0) ∨ (at_ i = -1 ∧ 0 ≤ tr i ∧ tr i < t ∧ dn i = 0 ∧ clock ≤ si i ∧ ∃ q : Int, 0 ≤ q ∧ q < 4 ∧ cmIn (4 * tr i + q) = si i) ∨ (at_ i = -1 ∧ tr i = -1 ∧ dn i = 1))
def RTrf (n t clock clM sort sortM w wM : Int) (cf ct cfM ctM at_ gl tr si rd dn wo cmIn : Int → Int) : Prop := clM = clock ∧ 0 ≤ clock ∧ clock ≤ 2000 ∧ sortM = sort ∧ 0 ≤ sort ∧ sort ≤ 12 ∧ (∀ y : Int, 0 ≤ y → y < 8 → cfM y = cf y ∧ ctM y = ct y ∧ ((cf y = -1 ∧ ct y = -1) ∨ (0 ≤ cf y ∧ cf y ≤ ct y ∧ ct y ≤ 99))) ∧ wM = w ∧ 0 ≤ w ∧ w ≤ 30 ∧ ∀ i : Int, 0 ≤ i → i < w →
  (wo (6 * i) = at_ i ∧ wo (6 * i + 1) = tr i ∧ wo (6 * i + 2) = si i ∧ wo (6 * i + 3) = rd i ∧ wo (6 * i + 4) = dn i ∧ wo (6 * i + 5) = gl i) ∧ RWag n t clock at_ gl tr si dn cmIn i
def RRow (k kM : Int) (mk mkM : Int → Int) : Prop := kM = k ∧ 0 ≤ k ∧ k ≤ 16 ∧ ∀ i : Int, 0 ≤ i → i < k → mkM i = mk i ∧ 0 ≤ mk i ∧ mk i ≤ 15
def RNet (hd hdM known : Int) (ld ldM tr trM : Int → Int) : Prop := hdM = hd ∧ 0 ≤ hd ∧ hd ≤ 99 ∧ (known = 0 ∨ known = 1) ∧ (∀ a d : Int, 0 ≤ a → a < 8 → 0 ≤ d → d < 8 → ldM (8 * a + d) = ld (8 * a + d) ∧ 0 ≤ ld (8 * a + d) ∧ ld (8 * a + d) ≤ 99 ∧ (a = d → ld (8 * a + d) = 0)) ∧ ∀ y : Int, 0 ≤ y → y < 8 → trM y = tr y ∧ 0 ≤ tr y ∧ tr y ≤ 7
def REmp (st stM : Int) (ov ovM : Int → Int) : Prop := stM = st ∧ 0 ≤ st ∧ st ≤ 99 ∧ ∀ i : Int, 0 ≤ i → i < 24 → ovM i = ov i ∧ -50 ≤ ov i ∧ ov i ≤ 50
def RLeg (k kM : Int) (hr tn hrM tnM : Int → Int) : Prop := kM = k ∧ 0 ≤ k ∧ k ≤ 5 ∧ ∀ i : Int, 0 ≤ i → i < k → hrM i = hr i ∧ tnM i = tn i ∧ 1 ≤ hr i ∧ hr i ≤ 99 ∧ 0 ≤ tn i ∧ tn i ≤ 9
def RDet (d dM : Int) : Prop := dM = d ∧ 0 ≤ d ∧ d ≤ 20
/-- the cells that the reference's search for the best net writes -/
def ScrS (c i : Int) : Prop := c = 86 ∨ (c = 67 ∧ (i = 51 ∨ i = 52))
/-- the kept best net is what the reference's search would find -/
def NBr (n hd bc bn : Int) (mi ld tr : Int → Int) : Prop := ∀ m' : Mem, m' 67 0 = n → m' 68 = mi → m' 81 = ld → m' 82 = tr → m' 67 24 = hd → ∀ post : Mem → Prop, (∀ m'' : Mem, (∀ c i : Int, ¬ ScrS c i → m'' c i = m' c i) → m'' 67 52 = bc → m'' 67 51 = bn → post m'') → wp_X11_seekNet m' post
def Rel (m : Mem) : Prop := RLand (m 1 0) (m 67 0) (m 2) (m 68) ∧ RPage (m 4 0) (m 67 2) (m 5) (m 69) ∧ RBlk (m 1 0) (m 6 0) (m 67 4) (m 7) (m 8) (m 9) (m 10) (m 70) (m 71) (m 72) (m 73) (m 11) ∧
  RTrn (m 6 0) (m 28 0) (m 13 0) (m 67 9) (m 13 1) (m 67 19) (m 14) (m 15) (m 16) (m 17) (m 18) (m 19) (m 20) (m 21) (m 22) (m 23) (m 24) (m 25) (m 26) (m 7) (m 8) (m 74) (m 75) (m 76) ∧
  RTrf (m 1 0) (m 13 0) (m 28 0) (m 67 18) (m 28 1) (m 67 15) (m 28 4) (m 67 13) (m 29) (m 30) (m 78) (m 79) (m 31) (m 32) (m 33) (m 34) (m 35) (m 36) (m 77) (m 76) ∧
  RRow (m 37 0) (m 67 20) (m 40) (m 80) ∧ RNet (m 43 0) (m 67 24) (m 43 5) (m 44) (m 81) (m 45) (m 82) ∧ (m 43 5 = 1 → m 1 0 ≤ 4 → NBr (m 67 0) (m 67 24) (m 43 3) (m 43 4) (m 68) (m 81) (m 82)) ∧
  REmp (m 47 0) (m 67 25) (m 48) (m 83) ∧ RLeg (m 59 0) (m 67 27) (m 60) (m 61) (m 84) (m 85) ∧ RDet (m 63 0) (m 67 30)
/-- where nothing is kept -/
def Scr (c i : Int) : Prop := c = 3 ∨ c = 12 ∨ c = 27 ∨ c = 38 ∨ c = 39 ∨ c = 41 ∨ c = 42 ∨ c = 46 ∨ (49 ≤ c ∧ c ≤ 58) ∨ c = 62 ∨ (64 ≤ c ∧ c ≤ 66) ∨ (86 ≤ c) ∨ (c = 4 ∧ 1 ≤ i) ∨ (c = 6 ∧ i = 7) ∨ (c = 47 ∧ (i = 2 ∨ i = 3)) ∨ (c = 59 ∧ (i = 1 ∨ i = 2)) ∨ (c = 63 ∧ (i = 1 ∨ i = 5)) ∨ (c = 67 ∧ (32 ≤ i))
/-- what is read of a state, told for one that is alike but for where nothing is kept -/
theorem Rel.frame {m m' : Mem} (h : ∀ c i : Int, ¬ Scr c i → m' c i = m c i) (hR : Rel m) : Rel m' := by
  have hv : ∀ c i : Int, ¬ Scr c i → m' c i = m c i := h
  have hr : ∀ c : Int, (∀ i : Int, ¬ Scr c i) → m' c = m c := fun c hc => funext fun i => h c i (hc i)
  unfold Rel at hR ⊢
  rw [hv 1 0 (by unfold Scr; omega), hv 67 0 (by unfold Scr; omega), hr 2 (by intro i; unfold Scr; omega), hr 68 (by intro i; unfold Scr; omega),
    hv 4 0 (by unfold Scr; omega), hv 67 2 (by unfold Scr; omega), hr 5 (by intro i; unfold Scr; omega), hr 69 (by intro i; unfold Scr; omega),
    hv 6 0 (by unfold Scr; omega), hv 67 4 (by unfold Scr; omega), hr 7 (by intro i; unfold Scr; omega), hr 8 (by intro i; unfold Scr; omega), hr 9 (by intro i; unfold Scr; omega), hr 10 (by intro i; unfold Scr; omega), hr 70 (by intro i; unfold Scr; omega), hr 71 (by intro i; unfold Scr; omega), hr 72 (by intro i; unfold Scr; omega), hr 73 (by intro i; unfold Scr; omega), hr 11 (by intro i; unfold Scr; omega),
    hv 28 0 (by unfold Scr; omega), hv 13 0 (by unfold Scr; omega), hv 67 9 (by unfold Scr; omega), hv 13 1 (by unfold Scr; omega), hv 67 19 (by unfold Scr; omega), hr 14 (by intro i; unfold Scr; omega), hr 15 (by intro i; unfold Scr; omega), hr 16 (by intro i; unfold Scr; omega), hr 17 (by intro i; unfold Scr; omega), hr 18 (by intro i; unfold Scr; omega), hr 19 (by intro i; unfold Scr; omega), hr 20 (by intro i; unfold Scr; omega), hr 21 (by intro i; unfold Scr; omega), hr 22 (by intro i; unfold Scr; omega), hr 23 (by intro i; unfold Scr; omega), hr 24 (by intro i; unfold Scr; omega), hr 25 (by intro i; unfold Scr; omega), hr 26 (by intro i; unfold Scr; omega), hr 74 (by intro i; unfold Scr; omega), hr 75 (by intro i; unfold Scr; omega), hr 76 (by intro i; unfold Scr; omega),
    hv 67 18 (by unfold Scr; omega), hv 28 1 (by unfold Scr; omega), hv 67 15 (by unfold Scr; omega), hv 28 4 (by unfold Scr; omega), hv 67 13 (by unfold Scr; omega), hr 29 (by intro i; unfold Scr; omega), hr 30 (by intro i; unfold Scr; omega), hr 78 (by intro i; unfold Scr; omega), hr 79 (by intro i; unfold Scr; omega), hr 31 (by intro i; unfold Scr; omega), hr 32 (by intro i; unfold Scr; omega), hr 33 (by intro i; unfold Scr; omega), hr 34 (by intro i; unfold Scr; omega), hr 35 (by intro i; unfold Scr; omega), hr 36 (by intro i; unfold Scr; omega), hr 77 (by intro i; unfold Scr; omega),
    hv 37 0 (by unfold Scr; omega), hv 67 20 (by unfold Scr; omega), hr 40 (by intro i; unfold Scr; omega), hr 80 (by intro i; unfold Scr; omega),
    hv 43 0 (by unfold Scr; omega), hv 67 24 (by unfold Scr; omega), hv 43 5 (by unfold Scr; omega), hr 44 (by intro i; unfold Scr; omega), hr 81 (by intro i; unfold Scr; omega), hr 45 (by intro i; unfold Scr; omega), hr 82 (by intro i; unfold Scr; omega), hv 43 3 (by unfold Scr; omega), hv 43 4 (by unfold Scr; omega),
    hv 47 0 (by unfold Scr; omega), hv 67 25 (by unfold Scr; omega), hr 48 (by intro i; unfold Scr; omega), hr 83 (by intro i; unfold Scr; omega),
    hv 59 0 (by unfold Scr; omega), hv 67 27 (by unfold Scr; omega), hr 60 (by intro i; unfold Scr; omega), hr 61 (by intro i; unfold Scr; omega), hr 84 (by intro i; unfold Scr; omega), hr 85 (by intro i; unfold Scr; omega),
    hv 63 0 (by unfold Scr; omega), hv 67 30 (by unfold Scr; omega)]
  exact hR
theorem Rel.n {m : Mem} (hR : Rel m) : m 67 0 = m 1 0 ∧ 2 ≤ m 1 0 ∧ m 1 0 ≤ 8 := ⟨hR.1.1, hR.1.2.1, hR.1.2.2.1⟩
