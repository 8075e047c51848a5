section CH
variable {l : Launch} {gC gR : jm_G} {d : Nat} {mu nu m n : jm_M} {v1 v2 v3 v4 v5 : Int} {Q : Option Value → jm_M → Prop}
/-- two speak otherwise of one of the first facts -/
def unl (mu : jm_M) (a b f : Int) : Bool := decide (¬ clm mu a f = -1 ∧ ¬ clm mu b f = -1 ∧ ¬ clm mu a f = clm mu b f)
def unlN (mu : jm_M) (a b : Int) : Nat → Bool
  | 0 => false
  | n + 1 => unlN mu a b n || unl mu a b n
theorem unl_s (mu : jm_M) (a b f : Int) : unl mu a b f = unl mu b a f := by
  unfold unl
  apply decide_eq_decide.2
  constructor
  · intro h; exact ⟨h.2.1, h.1, fun e => h.2.2 e.symm⟩
  · intro h; exact ⟨h.2.1, h.1, fun e => h.2.2 e.symm⟩
theorem unlN_s (mu : jm_M) (a b : Int) : ∀ n : Nat, unlN mu a b n = unlN mu b a n
  | 0 => rfl
  | n + 1 => by
    show (unlN mu a b n || unl mu a b n) = (unlN mu b a n || unl mu b a n)
    rw [unlN_s mu a b n, unl_s mu a b n]
theorem unlN_i (mu : jm_M) (a : Int) : ∀ n : Nat, unlN mu a a n = false
  | 0 => rfl
  | n + 1 => by
    show (unlN mu a a n || unl mu a a n) = false
    rw [unlN_i mu a n]
    have : unl mu a a n = false := decide_eq_false (fun h => h.2.2 rfl)
    rw [this]
    rfl
theorem unlN_m {a b : Int} {k : Nat} (h : unlN mu a b k = true) : ∀ j : Nat, unlN mu a b (k + j) = true
  | 0 => h
  | j + 1 => by
    show (unlN mu a b (k + j) || unl mu a b ((k + j : Nat) : Int)) = true
    rw [unlN_m h j]
    rfl
theorem unlN_e (a : jm_aC mu m) (x y : Int) : ∀ n : Nat, unlN m x y n = unlN mu x y n
  | 0 => rfl
  | n + 1 => by
    show (unlN m x y n || unl m x y n) = (unlN mu x y n || unl mu x y n)
    have e : ∀ z f, clm m z f = clm mu z f := fun z f => by unfold clm; rw [a.1 6 rfl, a.1 10 rfl]
    rw [unlN_e a x y n]
    unfold unl
    rw [e, e]
theorem mkB_bt (c : Nat → Bool) : ∀ n w : Nat, w < n → c w = true → (mkB c n).testBit w = true
  | 0, w, h, _ => by omega
  | n + 1, w, h, q => by
    by_cases e : w = n
    · subst e
      unfold mkB
      rw [if_pos q, Nat.testBit_or, Nat.testBit_two_pow_self, Bool.or_true]
    · have ih := mkB_bt c n w (by omega) q
      unfold mkB
      split
      · rw [Nat.testBit_or, ih, Bool.true_or]
      · exact ih
theorem jm_orm2 (c : Nat → Bool) {n : Nat} (hn : n < 8) : jm_or ((mkB c n ||| 2 ^ n : Nat) : Int) (jm_shl 1 n) = ((mkB c n ||| 2 ^ n : Nat) : Int) := by
  have h1 := mkB_lt c n
  have h2 : 2 ^ n ≤ 2 ^ 8 := Nat.pow_le_pow_right (by decide) (by omega)
  have h3 : (2 : Nat) ^ 8 = 256 := by decide
  have h4 : mkB c n ||| 2 ^ n < 2 ^ 31 := Nat.or_lt_two_pow (by omega) (by omega)
  have hc : (((2 : Nat) ^ n : Nat) : Int) = (2 : Int) ^ n := Int.natCast_pow 2 n
  rw [jm_shlB n (by omega), ← hc, jm_orN h4 (by show 2 ^ n < 2147483648; omega), Nat.or_assoc, Nat.or_self]
theorem jm_dis {s t : Nat} (hs : s < 256) (ht : t < 256) : jm_and s t = 0 ↔ ∀ w, s.testBit w = true → t.testBit w = false := by
  rw [jm_andN (by omega) (by omega)]
  constructor
  · intro h w hw
    have h1 : s &&& t = 0 := Int.ofNat_eq_zero.1 h
    have h2 := congrArg (fun x : Nat => x.testBit w) h1
    simp only [Nat.testBit_and, hw, Nat.zero_testBit, Bool.true_and] at h2
    exact h2
  · intro h
    have h1 : s &&& t = 0 := by
      apply Nat.eq_of_testBit_eq
      intro w
      rw [Nat.testBit_and, Nat.zero_testBit]
      cases q : s.testBit w
      · rfl
      · rw [h w q]; rfl
    rw [h1]
    rfl
/-- whom one contradicts, and whether all of a set agree -/
def opm (mu : jm_M) (a : Int) : Nat → Nat := mkB (fun b => unlN mu a b 6)
def agr (mu : jm_M) (s W : Nat) : Bool := decide (∀ a, a < W → ∀ b, b < W → s.testBit a = true → s.testBit b = true → unlN mu a b 6 = false)
theorem sX9_opponentsOf (hC : jm_HC gC) (hA : IA mu nu) {a : Nat} (aW : (a : Int) < mu.1 6 0) (h : Q (some (jm_i (opm mu a (mu.1 6 0).toNat : Nat))) mu) : jm_R l gC (d + 4) iX9_opponentsOf [.ref 41, jm_i a] mu Q := by
  obtain ⟨w0, w8, -⟩ := hA.1
  have lp : ∀ (j k : Nat), k + j = (mu.1 6 0).toNat → jm_V l gC (d + 4) iX9_opponentsOf 4 [(0, .ref 41), (1, jm_i a), (2, jm_i (opm mu a k : Nat)), (3, jm_i k)] [] mu Q := by
    intro j
    induction j with
    | zero =>
      intro k hk
      have e : k = (mu.1 6 0).toNat := by omega
      refine bX9_opponentsOf_4 hC ⟨⟨by omega, by omega⟩, fun _ => by rw [e]; exact h, fun r => by omega⟩
    | succ j ih =>
      intro k hk
      have nx := ih (k + 1) (by omega)
      rw [show ((k + 1 : Nat) : Int) = (k : Int) + 1 by omega] at nx
      have ip : ∀ (j2 i : Nat), i + j2 = 6 → jm_V l gC (d + 4) iX9_opponentsOf 18 [(0, .ref 41), (1, jm_i a), (2, jm_i ((if unlN mu a k i = true then opm mu a k ||| 2 ^ k else opm mu a k : Nat) : Int)), (3, jm_i k), (4, jm_i i)] [] mu Q := by
        intro j2
        induction j2 with
        | zero =>
          intro i hi
          have e : i = 6 := by omega
          subst e
          exact bX9_opponentsOf_18 hC ⟨⟨by omega, by omega⟩, fun _ => nx, fun r => by omega⟩
        | succ j2 ih2 =>
          intro i hi
          have ny := ih2 (i + 1) (by omega)
          rw [show ((i + 1 : Nat) : Int) = (i : Int) + 1 by omega] at ny
          have c1 := clm_bd hA a i
          have c2 := clm_bd hA k i
          refine bX9_opponentsOf_18 hC ⟨⟨by omega, by omega⟩, fun r => by omega, fun _ => sX8_claimOf hC hA ⟨by omega, by omega⟩ ⟨by omega, by omega⟩ (jm_qiI ⟨by omega, by omega⟩ (sX8_claimOf hC hA ⟨by omega, by omega⟩ ⟨by omega, by omega⟩ (jm_qiI ⟨by omega, by omega⟩ ⟨fun q x10 e10 => ?_, fun q => ?_⟩)))⟩
          · have e : unlN mu a k (i + 1) = true := by
              show (unlN mu a k i || unl mu a k i) = true
              rw [show unl mu a k i = true from decide_eq_true q, Bool.or_true]
            rw [if_pos e] at ny
            have ex : x10 = ((opm mu a k ||| 2 ^ k : Nat) : Int) := by
              rw [e10]
              split
              · exact jm_orm2 _ (by omega)
              · exact jm_orm _ (by omega)
            rw [ex]
            exact ny
          · have e : unlN mu a k (i + 1) = unlN mu a k i := by
              show (unlN mu a k i || unl mu a k i) = unlN mu a k i
              rw [show unl mu a k i = false from decide_eq_false q, Bool.or_false]
            rw [e] at ny
            exact ny
      refine bX9_opponentsOf_4 hC ⟨⟨by omega, by omega⟩, fun r => by omega, fun _ => ?_⟩
      exact ip 6 0 (by omega)
  exact eX9_opponentsOf hC (lp (mu.1 6 0).toNat 0 (by omega))
theorem sX9_agree (hC : jm_HC gC) (w8 : mu.1 6 0 ≤ 8) {s : Nat} (s1 : s < 2 ^ (mu.1 6 0).toNat) (e6 : m.1 6 = mu.1 6) (hm : ∀ w : Nat, (w : Int) < mu.1 6 0 → m.1 43 w = (opm mu w (mu.1 6 0).toNat : Nat)) (h1 : agr mu s (mu.1 6 0).toNat = true → Q (some (jm_i 1)) m) (h0 : agr mu s (mu.1 6 0).toNat = false → Q (some (jm_i 0)) m) : jm_R l gC (d + 1) iX9_agree [.ref 41, jm_i s] m Q := by
  have s2 : s < 256 := by
    have h2 : 2 ^ (mu.1 6 0).toNat ≤ 2 ^ 8 := Nat.pow_le_pow_right (by decide) (by omega)
    have h3 : (2 : Nat) ^ 8 = 256 := by decide
    omega
  have lp : ∀ (j k : Nat), k + j = (mu.1 6 0).toNat → (∀ a, a < k → s.testBit a = true → jm_and s (opm mu a (mu.1 6 0).toNat : Nat) = 0) → jm_V l gC (d + 1) iX9_agree 2 [(0, .ref 41), (1, jm_i s), (2, jm_i k)] [] m Q := by
    intro j
    induction j with
    | zero =>
      intro k hk hh
      have e : k = (mu.1 6 0).toNat := by omega
      refine bX9_agree_2 hC ⟨⟨by omega, by omega⟩, fun _ => h1 (decide_eq_true (fun a ha b hb ta tb => ?_)), fun r => by rw [e6] at r; omega⟩
      have := (jm_dis s2 (mkB_256 _ (by omega))).1 (hh a (by omega) ta) b tb
      cases q : unlN mu a b 6
      · rfl
      · have := mkB_bt (fun b => unlN mu a b 6) (mu.1 6 0).toNat b hb q
        unfold opm at *
        simp_all
    | succ j ih =>
      intro k hk hh
      have eb : jm_and (jm_shr s k) 1 = bt s k := by
        have := jm_bt (s := (s : Int)) (w := (k : Int)) (by omega) (by omega) (by omega) (by omega)
        rwa [Int.toNat_natCast] at this
      have nx : (s.testBit k = true → jm_and s (opm mu k (mu.1 6 0).toNat : Nat) = 0) → jm_V l gC (d + 1) iX9_agree 2 [(0, .ref 41), (1, jm_i s), (2, jm_i ((k : Int) + 1))] [] m Q := by
        intro q
        have nx := ih (k + 1) (by omega) (fun a ha ta => by
          by_cases e : a = k
          · subst e; exact q ta
          · exact hh a (by omega) ta)
        rw [show ((k + 1 : Nat) : Int) = (k : Int) + 1 by omega] at nx
        exact nx
      refine bX9_agree_2 hC ⟨⟨by omega, by omega⟩, fun r => by rw [e6] at r; omega, fun _ => ?_⟩
      rw [eb, bt_tb, hm k (by omega)]
      refine ⟨fun q => nx (fun t => by rw [if_pos t] at q; omega), fun q => ⟨⟨by omega, by omega⟩, fun q2 => nx (fun _ => q2), fun q2 => h0 (decide_eq_false (fun hh => q2 ?_))⟩⟩
      have t : s.testBit k = true := by
        apply Decidable.byContradiction
        intro t
        rw [if_neg t] at q
        exact q rfl
      refine (jm_dis s2 (mkB_256 _ (by omega))).2 (fun b tb => ?_)
      cases z : (mkB (fun b => unlN mu k b 6) (mu.1 6 0).toNat).testBit b
      · rfl
      · have y := mkB_tb _ _ _ z
        have := hh k (by omega) b y.1 t tb
        rw [this] at y
        exact absurd y.2 (by decide)
  exact eX9_agree hC (lp (mu.1 6 0).toNat 0 (by omega) (fun a ha => by omega))
theorem sX12_doAgree (hR : jm_HR gR) (hA : IA mu nu) {a b : Nat} (aW : (a : Int) < mu.1 6 0) (bW : (b : Int) < mu.1 6 0) (h1 : unlN mu a b 6 = false → Q (some (jm_i 1)) nu) (h0 : unlN mu a b 6 = true → Q (some (jm_i 0)) nu) : jm_R l gR (d + 2) iX12_doAgree [.ref 0, jm_i a, jm_i b] nu Q := by
  obtain ⟨w0, w8, -⟩ := hA.1
  have lp : ∀ (j k : Nat), k + j = 6 → unlN mu a b k = false → jm_V l gR (d + 2) iX12_doAgree 2 [(0, .ref 0), (1, jm_i a), (2, jm_i b), (3, jm_i k)] [] nu Q := by
    intro j
    induction j with
    | zero =>
      intro k hk hu
      have e : k = 6 := by omega
      subst e
      exact bX12_doAgree_2 hR ⟨⟨by omega, by omega⟩, fun _ => h1 hu, fun r => by omega⟩
    | succ j ih =>
      intro k hk hu
      have c1 := clm_bd hA a k
      have c2 := clm_bd hA b k
      have nx : unl mu a b k = false → jm_V l gR (d + 2) iX12_doAgree 2 [(0, .ref 0), (1, jm_i a), (2, jm_i b), (3, jm_i ((k : Int) + 1))] [] nu Q := by
        intro q
        have nx := ih (k + 1) (by omega) (by
          show (unlN mu a b k || unl mu a b k) = false
          rw [hu, q]
          rfl)
        rw [show ((k + 1 : Nat) : Int) = (k : Int) + 1 by omega] at nx
        exact nx
      refine bX12_doAgree_2 hR ⟨⟨by omega, by omega⟩, fun r => by omega, fun _ => ⟨⟨by omega, by omega⟩, ?_⟩⟩
      rw [clm_r hA (by omega) aW (by omega) (by omega), clm_r hA (by omega) bW (by omega) (by omega)]
      refine ⟨⟨by omega, by omega⟩, fun q => nx (decide_eq_false (fun r => r.1 (by omega))), fun q => ⟨⟨by omega, by omega⟩, ⟨by omega, by omega⟩, fun q2 => nx (decide_eq_false (fun r => r.2.1 (by omega))), fun q2 => ⟨⟨by omega, by omega⟩, ⟨by omega, by omega⟩, fun q3 => nx (decide_eq_false (fun r => r.2.2 (by omega))), fun q3 => h0 ?_⟩⟩⟩
      have t : unlN mu a b (k + 1) = true := by
        show (unlN mu a b k || unl mu a b k) = true
        rw [show unl mu a b k = true from decide_eq_true ⟨by omega, by omega, by omega⟩, Bool.or_true]
      have := unlN_m t j
      rwa [show k + 1 + j = 6 by omega] at this
  exact eX12_doAgree hR (lp 6 0 (by omega) rfl)
theorem sX12_isChoir (hR : jm_HR gR) (hA : IA mu nu) {s : Nat} (s2 : s < 256) (h1 : agr mu s (mu.1 6 0).toNat = true → Q (some (jm_i 1)) nu) (h0 : agr mu s (mu.1 6 0).toNat = false → Q (some (jm_i 0)) nu) : jm_R l gR (d + 3) iX12_isChoir [.ref 0, jm_i s] nu Q := by
  obtain ⟨w0, w8, w4⟩ := hA.1
  have eb : ∀ k : Nat, k < 32 → jm_and (jm_shr s k) 1 = bt s k := fun k hk => by
    have := jm_bt (s := (s : Int)) (w := (k : Int)) (by omega) (by omega) (by omega) (by omega)
    rwa [Int.toNat_natCast] at this
  have tb : ∀ k : Nat, bt s k = 1 → s.testBit k = true := fun k h => by
    rw [bt_tb] at h
    apply Decidable.byContradiction
    intro t
    rw [if_neg t] at h
    omega
  have lp : ∀ (j k : Nat), k + j = (mu.1 6 0).toNat → (∀ a, a < k → ∀ b, b < a → s.testBit a = true → s.testBit b = true → unlN mu a b 6 = false) → jm_V l gR (d + 3) iX12_isChoir 2 [(0, .ref 0), (1, jm_i s), (2, jm_i k)] [] nu Q := by
    intro j
    induction j with
    | zero =>
      intro k hk hh
      have e : k = (mu.1 6 0).toNat := by omega
      refine bX12_isChoir_2 hR ⟨⟨by omega, by omega⟩, fun _ => h1 (decide_eq_true (fun a ha b hb ta tb => ?_)), fun r => by omega⟩
      rcases Nat.lt_trichotomy a b with q | q | q
      · rw [unlN_s]
        exact hh b (by omega) a q tb ta
      · subst q
        exact unlN_i _ _ _
      · exact hh a (by omega) b q ta tb
    | succ j ih =>
      intro k hk hh
      have ip : ∀ (j2 i : Nat), i + j2 = k → (∀ b, b < i → s.testBit k = true → s.testBit b = true → unlN mu k b 6 = false) → jm_V l gR (d + 3) iX12_isChoir 12 [(0, .ref 0), (1, jm_i s), (2, jm_i k), (3, jm_i i)] [] nu Q := by
        intro j2
        induction j2 with
        | zero =>
          intro i hi hk2
          have nx := ih (k + 1) (by omega) (fun a ha b hb ta tb => by
            by_cases e : a = k
            · subst e; exact hk2 b (by omega) ta tb
            · exact hh a (by omega) b hb ta tb)
          rw [show ((k + 1 : Nat) : Int) = (k : Int) + 1 by omega] at nx
          exact bX12_isChoir_12 hR ⟨⟨by omega, by omega⟩, ⟨by omega, by omega⟩, fun _ => nx, fun r => by omega⟩
        | succ j2 ih2 =>
          intro i hi hk2
          have ny : (s.testBit k = true → s.testBit i = true → unlN mu k i 6 = false) → jm_V l gR (d + 3) iX12_isChoir 12 [(0, .ref 0), (1, jm_i s), (2, jm_i k), (3, jm_i ((i : Int) + 1))] [] nu Q := by
            intro q
            have ny := ih2 (i + 1) (by omega) (fun b hb ta tb => by
              by_cases e : b = i
              · subst e; exact q ta tb
              · exact hk2 b (by omega) ta tb)
            rw [show ((i + 1 : Nat) : Int) = (i : Int) + 1 by omega] at ny
            exact ny
          refine bX12_isChoir_12 hR ⟨⟨by omega, by omega⟩, ⟨by omega, by omega⟩, fun r => by omega, fun _ => ?_⟩
          rw [eb k (by omega), eb i (by omega)]
          refine ⟨fun q => ny (fun t => absurd (by rw [bt_tb, if_pos t]) q), fun q => ⟨fun q2 => ny (fun _ t => absurd (by rw [bt_tb, if_pos t]) q2), fun q2 => ?_⟩⟩
          refine sX12_doAgree hR hA (by omega) (by omega) (fun u => jm_qiI ⟨by decide, by decide⟩ ⟨fun _ => ny (fun _ _ => u), fun r => absurd r (by decide)⟩) (fun u => jm_qiI ⟨by decide, by decide⟩ ⟨fun r => absurd rfl r, fun _ => h0 (decide_eq_false (fun z => ?_))⟩)
          have := z k (by omega) i (by omega) (tb k q) (tb i q2)
          rw [u] at this
          cases this
      refine bX12_isChoir_2 hR ⟨⟨by omega, by omega⟩, fun r => by omega, fun _ => ?_⟩
      exact ip k 0 (by omega) (fun b hb => by omega)
  exact eX12_isChoir hR (lp (mu.1 6 0).toNat 0 (by omega) (fun a ha => by omega))
/-- the largest choir among the first n sets -/
def choN (mu : jm_M) : Nat → Int
  | 0 => 0
  | n + 1 => if pcn (choN mu n) < pcn n ∧ agr mu n (mu.1 6 0).toNat = true then n else choN mu n
theorem choN_b (mu : jm_M) : ∀ n : Nat, 0 ≤ choN mu n ∧ (choN mu n < n ∨ choN mu n = 0)
  | 0 => ⟨Int.le_refl 0, Or.inr rfl⟩
  | n + 1 => by
    have ih := choN_b mu n
    unfold choN
    split
    · omega
    · omega
theorem sX9_largestChoir (hC : jm_HC gC) (hI : Iv mu nu) {N : Nat} (hN : (N : Int) = 2 ^ (mu.1 6 0).toNat) (h : ∀ m, jm_aC mu m → Q (some (jm_i (choN mu N))) m) : jm_R l gC (d + 5) iX9_largestChoir [.ref 41] mu Q := by
  obtain ⟨w0, w8, -⟩ := hI.1.1
  have p := p256 w8
  have hN2 : N = 2 ^ (mu.1 6 0).toNat := by
    have hc : (((2 : Nat) ^ (mu.1 6 0).toNat : Nat) : Int) = (2 : Int) ^ (mu.1 6 0).toNat := Int.natCast_pow 2 _
    omega
  have l2 : ∀ (m : jm_M), jm_aC mu m → (∀ w : Nat, (w : Int) < mu.1 6 0 → m.1 43 w = (opm mu w (mu.1 6 0).toNat : Nat)) → ∀ (j k : Nat), k + j = N → jm_V l gC (d + 5) iX9_largestChoir 34 [(0, .ref 41), (1, jm_i (choN mu k)), (2, jm_i k)] [] m Q := by
    intro m a hm j
    have e6 : m.1 6 = mu.1 6 := a.1 6 rfl
    have sh : jm_shl 1 (m.1 6 0) = N := by rw [e6, jm_shl8 w0 w8, hN]
    induction j with
    | zero =>
      intro k hk
      have e : k = N := by omega
      subst e
      exact bX9_largestChoir_34 hC ⟨⟨by omega, by omega⟩, fun _ => h m a, fun r => by omega⟩
    | succ j ih =>
      intro k hk
      have nx := ih (k + 1) (by omega)
      rw [show ((k + 1 : Nat) : Int) = (k : Int) + 1 by omega] at nx
      have cb := choN_b mu k
      have b1 := pcn_b k
      have b2 := pcn_b (choN mu k)
      have same : ¬ (pcn (choN mu k) < pcn k ∧ agr mu k (mu.1 6 0).toNat = true) → jm_V l gC (d + 5) iX9_largestChoir 34 [(0, .ref 41), (1, jm_i (choN mu k)), (2, jm_i ((k : Int) + 1))] [] m Q := by
        intro q
        have e : choN mu (k + 1) = choN mu k := if_neg q
        rw [e] at nx
        exact nx
      refine bX9_largestChoir_34 hC ⟨⟨by omega, by omega⟩, fun r => by omega, fun _ => sJ6_bitCount hC (by omega) (by omega) (jm_qiI ⟨by omega, by omega⟩ (sJ6_bitCount hC (by omega) (by omega) (jm_qiI ⟨by omega, by omega⟩ ⟨fun q => same (fun r => by have := r.1; omega), fun q => ?_⟩)))⟩
      refine jm_R.up (d := d + 1) (sX9_agree hC w8 (by omega) e6 hm (fun t => jm_qiI ⟨by decide, by decide⟩ ⟨fun r => absurd r (by decide), fun _ => ?_⟩) (fun t => jm_qiI ⟨by decide, by decide⟩ ⟨fun _ => same (fun r => by rw [t] at r; cases r.2), fun r => absurd rfl r⟩)) (by omega)
      have e : choN mu (k + 1) = k := if_pos ⟨q, t⟩
      rw [e] at nx
      exact nx
  have l1 : ∀ (j k : Nat) (m : jm_M), k + j = (mu.1 6 0).toNat → jm_aC mu m → (∀ w : Nat, (w : Int) < k → m.1 43 w = (opm mu w (mu.1 6 0).toNat : Nat)) → jm_V l gC (d + 5) iX9_largestChoir 2 [(0, .ref 41), (1, jm_i k)] [] m Q := by
    intro j
    induction j with
    | zero =>
      intro k m hk a hm
      have e6 : m.1 6 = mu.1 6 := a.1 6 rfl
      refine bX9_largestChoir_2 hC ⟨⟨by omega, by omega⟩, fun _ => ?_, fun r => by rw [e6] at r; omega⟩
      exact l2 m a (fun w hw => hm w (by omega)) N 0 (by omega)
    | succ j ih =>
      intro k m hk a hm
      have e6 : m.1 6 = mu.1 6 := a.1 6 rfl
      have J : Iv m nu := hI.ext a (jm_aR.rf nu)
      have eo : opm m k (m.1 6 0).toNat = opm mu k (mu.1 6 0).toNat := by
        unfold opm
        rw [e6]
        congr 1
        funext b
        exact unlN_e a k b 6
      have ob : opm mu k (mu.1 6 0).toNat < 256 := mkB_256 _ (by omega)
      refine bX9_largestChoir_2 hC ⟨⟨by omega, by omega⟩, fun r => by rw [e6] at r; omega, fun _ => sX9_opponentsOf hC J.1 (by rw [e6]; omega) ?_⟩
      rw [eo]
      refine jm_qiI ⟨by omega, by omega⟩ ⟨⟨by omega, by omega⟩, fun m7 e7 => ?_⟩
      have nx := ih (k + 1) m7 (by omega) (by rw [e7]; exact a.wr rfl rfl) (fun w hw => by
        rw [e7]
        by_cases q : w = k
        · subst q
          rw [jm_wrS]
        · rw [jm_wrI (by omega)]
          exact hm w (by omega))
      rw [show ((k + 1 : Nat) : Int) = (k : Int) + 1 by omega] at nx
      exact nx
  exact eX9_largestChoir hC (l1 (mu.1 6 0).toNat 0 mu (by omega) (jm_aC.rf mu) (fun w hw => by omega))
theorem sim_choir (hC : jm_HC gC) (hR : jm_HR gR) (hI : Iv mu nu) (h1 : jm_rg v1) : jm_sim l gC gR (d + 6) (d + 4) iX11_choir iX12_choir [jm_i v1] mu nu := by
  have I0 := hI.t0
  have fi := jm_fin (z := -1) (y := -1) (F := fun n => Iv mu n) ⟨by decide, by decide⟩ rfl I0
  obtain ⟨w0, w8, -⟩ := hI.1.1
  have p := p256 w8
  refine eX11_choir hC ⟨h1, fun q1 => ?_, fun q1 => ?_⟩
  · obtain ⟨N, hN⟩ : ∃ N : Nat, (N : Int) = 2 ^ (mu.1 6 0).toNat := ⟨2 ^ (mu.1 6 0).toNat, Int.natCast_pow 2 _⟩
    have cb := choN_b mu N
    have pb := pcn_b (choN mu N)
    have rz : jm_rg (if v1 = 0 then pcn (choN mu N) else choN mu N) := by
      split <;> exact ⟨by omega, by omega⟩
    have fin : ∀ m, jm_aC mu m → jm_R l gR (d + 4) iX12_choir [.ref 0, jm_i v1] nu (jm_qi fun y n => y = (if v1 = 0 then pcn (choN mu N) else choN mu N) ∧ Iv m n) := by
      intro m a
      refine eX12_choir hR (fun n1 e1 => ?_)
      subst e1
      refine ⟨h1, fun _ => ?_, fun r => absurd q1 r⟩
      have fz : ∀ z, z = (if v1 = 0 then pcn (choN mu N) else choN mu N) → jm_qi (fun y n => y = (if v1 = 0 then pcn (choN mu N) else choN mu N) ∧ Iv m n) (some (jm_i z)) (jm_wr nu 0 0 0) := fun z e => jm_fin (by rw [← e]; rw [← e] at rz; exact rz) e (I0.ext a (jm_aR.rf _))
      have sh : jm_shl 1 ((jm_wr nu 0 0 0).1 0 4) = N := by rw [I0.1.1.2.2, jm_shl8 w0 w8, hN]
      have lp : ∀ (j k : Nat), k + j = N → jm_V l gR (d + 4) iX12_choir 21 [(0, .ref 0), (1, jm_i v1), (2, jm_i (choN mu k)), (3, jm_i k)] [] (jm_wr nu 0 0 0) (jm_qi fun y n => y = (if v1 = 0 then pcn (choN mu N) else choN mu N) ∧ Iv m n) := by
        intro j
        induction j with
        | zero =>
          intro k hk
          have e : k = N := by omega
          subst e
          refine bX12_choir_21 hR ⟨⟨by omega, by omega⟩, fun _ => ⟨h1, fun q => fz _ (by rw [if_neg q]), fun q => sX12_onesOf hR (by omega) (by omega) (jm_qiI ⟨by omega, by omega⟩ (fz _ (by rw [if_pos q])))⟩, fun r => by omega⟩
        | succ j ih =>
          intro k hk
          have nx := ih (k + 1) (by omega)
          rw [show ((k + 1 : Nat) : Int) = (k : Int) + 1 by omega] at nx
          have cb := choN_b mu k
          have b1 := pcn_b k
          have b2 := pcn_b (choN mu k)
          have same : ¬ (pcn (choN mu k) < pcn k ∧ agr mu k (mu.1 6 0).toNat = true) → jm_V l gR (d + 4) iX12_choir 21 [(0, .ref 0), (1, jm_i v1), (2, jm_i (choN mu k)), (3, jm_i ((k : Int) + 1))] [] (jm_wr nu 0 0 0) (jm_qi fun y n => y = (if v1 = 0 then pcn (choN mu N) else choN mu N) ∧ Iv m n) := by
            intro q
            have e : choN mu (k + 1) = choN mu k := if_neg q
            rw [e] at nx
            exact nx
          refine bX12_choir_21 hR ⟨⟨by omega, by omega⟩, fun r => by omega, fun _ => sX12_onesOf hR (by omega) (by omega) (jm_qiI ⟨by omega, by omega⟩ (sX12_onesOf hR (by omega) (by omega) (jm_qiI ⟨by omega, by omega⟩ ⟨fun q => same (fun r => by have := r.1; omega), fun q => ?_⟩)))⟩
          refine sX12_isChoir hR I0.1 (by omega) (fun t => jm_qiI ⟨by decide, by decide⟩ ⟨fun r => absurd r (by decide), fun _ => ?_⟩) (fun t => jm_qiI ⟨by decide, by decide⟩ ⟨fun _ => same (fun r => by rw [t] at r; cases r.2), fun r => absurd rfl r⟩)
          have e : choN mu (k + 1) = k := if_pos ⟨q, t⟩
          rw [e] at nx
          exact nx
      have N1 : 1 ≤ N := by omega
      have st := lp (N - 1) 1 (by omega)
      have e1 : choN mu 1 = 0 := if_neg (by
        intro r
        exact absurd r.1 (Int.lt_irrefl _))
      rw [e1] at st
      exact st
    refine sX9_largestChoir hC hI hN (fun m a => jm_qiI ⟨by omega, by omega⟩ ⟨fun q => ?_, fun q => ?_⟩)
    · rw [if_neg q] at rz fin
      exact jm_qiI rz (fin m a)
    · rw [if_pos q] at rz fin
      exact sJ6_bitCount hC (by omega) (by omega) (jm_qiI rz (jm_qiI rz (fin m a)))
  · refine jm_qiI ⟨by decide, by decide⟩ (eX12_choir hR (fun n1 e1 => ?_))
    subst e1
    exact ⟨h1, fun r => absurd r q1, fun _ => fi⟩
end CH
