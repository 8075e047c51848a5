section CO
variable {l : Launch} {gC gR : jm_G} {d : Nat} {mu nu m n : jm_M} {v1 v2 v3 v4 v5 v6 : Int} {Q : Option Value → jm_M → Prop}
def swn (mu : jm_M) (a : Nat) : Nat → Nat := mkB (fun b => sb mu a b)
theorem sb_0 (mu : jm_M) (a : Nat) : sb mu a 0 = false := by
  unfold sb
  refine decide_eq_false (fun h => ?_)
  unfold sd at h
  rw [if_neg (fun k => absurd k.1.2 (by decide))] at h
  exact absurd h (by decide)
theorem swn_lt (mu : jm_M) (a : Nat) {k : Nat} (h : k ≤ 61) : swn mu a k < 2 ^ 61 := Nat.lt_of_lt_of_le (mkB_lt _ k) (Nat.pow_le_pow_right (by decide) h)
theorem swn_tb (mu : jm_M) (a z : Nat) : (swn mu a 61).testBit z = (decide (z < 61) && sb mu a z) := mkB_eq _ 61 z
theorem sX10_tellSounds (hC : jm_HC gC) (hA : IA mu nu) (h : ∀ m, m.1 = mu.1 → (∀ a : Nat, 1 ≤ a → a ≤ 60 → m.2 40 a = lgo (swn mu a 61)) → Q none m) : jm_R l gC (d + 2) iX10_tellSounds [.ref 38] mu Q := by
  obtain ⟨s0, s1, -⟩ := hA.2.2.2.1
  have lp : ∀ (j k : Nat) (m : jm_M), k + j = 61 → 1 ≤ k → m.1 = mu.1 → (∀ a : Nat, 1 ≤ a → a < k → m.2 40 a = lgo (swn mu a 61)) → jm_V l gC (d + 2) iX10_tellSounds 2 [(0, .ref 38), (1, jm_i k)] [] m Q := by
    intro j
    induction j with
    | zero =>
      intro k m hk k1 e hm
      exact bX10_tellSounds_2 hC ⟨⟨by omega, by omega⟩, fun _ => h m e (fun a a0 a1 => hm a a0 (by omega)), fun r => by omega⟩
    | succ j ih =>
      intro k m hk k1 e hm
      have e65 : m.1 6 5 = mu.1 6 5 := by rw [e]
      have ip : ∀ (j2 i : Nat), i + j2 = 61 → 1 ≤ i → jm_V l gC (d + 2) iX10_tellSounds 13 [(0, .ref 38), (1, jm_i k), (2, .long (lgo (swn mu k i))), (4, jm_i i)] [] m Q := by
        intro j2
        induction j2 with
        | zero =>
          intro i hi i1
          have ei : i = 61 := by omega
          subst ei
          refine bX10_tellSounds_13 hC ⟨⟨by omega, by omega⟩, fun _ => ⟨⟨by omega, by omega⟩, fun m3 e3 => ?_⟩, fun r => by omega⟩
          have nx := ih (k + 1) m3 (by omega) (by omega) (by rw [e3]; exact e) (fun a a0 a1 => by
            rw [e3]
            by_cases q : a = k
            · subst q
              simp [jm_wl]
            · have : ¬ (a : Int) = k := by omega
              simp only [jm_wl, this, and_false, if_false]
              exact hm a a0 (by omega))
          rw [show ((k + 1 : Nat) : Int) = (k : Int) + 1 by omega] at nx
          exact nx
        | succ j2 ih2 =>
          intro i hi i1
          have ny := ih2 (i + 1) (by omega) (by omega)
          rw [show ((i + 1 : Nat) : Int) = (i : Int) + 1 by omega] at ny
          refine bX10_tellSounds_13 hC ⟨⟨by omega, by omega⟩, fun r => by omega, fun _ => ⟨⟨by omega, by omega⟩, ?_⟩⟩
          rw [sd_abs, e65, sd_bit s0 s1]
          refine ⟨⟨by omega, by omega⟩, fun q x7 e7 => ?_, fun q => ?_⟩
          · have t : sb mu k i = true := by
              refine decide_eq_true ?_
              unfold sd
              rw [if_pos ⟨⟨by omega, by omega⟩, by omega⟩]
            have es : swn mu k (i + 1) = swn mu k i ||| 2 ^ i := if_pos t
            rw [es] at ny
            have p61 : 2 ^ i < 2 ^ 61 := Nat.pow_lt_pow_right (by decide) (by omega)
            have sl := swn_lt mu k (k := i) (by omega)
            rw [lgo_s ⟨i, by omega⟩, lgo_or (by omega) (by show 2 ^ i < 2 ^ 64; omega)] at e7
            rw [e7]
            exact ny
          · have t : ¬ sb mu k i = true := by
              intro r
              have r := of_decide_eq_true r
              unfold sd at r
              split at r
              · rename_i z
                exact q (by omega)
              · exact absurd r (by decide)
            have es : swn mu k (i + 1) = swn mu k i := if_neg t
            rw [es] at ny
            exact ny
      refine bX10_tellSounds_2 hC ⟨⟨by omega, by omega⟩, fun r => by omega, fun _ x2 e2 => ?_⟩
      have st := ip 60 1 (by omega) (by omega)
      have e0 : swn mu k 1 = 0 := by
        show (if sb mu k 0 = true then _ else _) = 0
        rw [sb_0, if_neg (by decide)]
        rfl
      rw [e0] at st
      rw [e2]
      exact st
  exact eX10_tellSounds hC (lp 60 1 mu (by omega) (by omega) rfl (fun a a0 a1 => by omega))
theorem sX10_lowestOf (hC : jm_HC gC) {N z0 : Nat} (hN : N < 2 ^ 63) (z1 : 1 ≤ z0) (z2 : z0 ≤ 60) (t : N.testBit z0 = true) (tl : ∀ z, z < z0 → N.testBit z = false) (h : Q (some (jm_i z0)) m) : jm_R l gC (d + 2) iX10_lowestOf [.long (lgo N)] m Q := by
  have lp : ∀ (j k : Nat), k + j = z0 → 1 ≤ k → jm_V l gC (d + 2) iX10_lowestOf 2 [(0, .long (lgo N)), (2, jm_i k)] [] m Q := by
    intro j
    induction j with
    | zero =>
      intro k hk k1
      have e : k = z0 := by omega
      subst e
      refine bX10_lowestOf_2 hC ⟨⟨by omega, by omega⟩, fun r => by omega, fun _ => ?_⟩
      rw [lgo_h hN (by omega)]
      exact ⟨fun _ => h, fun r => absurd (fun q => by rw [t] at q; cases q) r⟩
    | succ j ih =>
      intro k hk k1
      refine bX10_lowestOf_2 hC ⟨⟨by omega, by omega⟩, fun r => by omega, fun _ => ?_⟩
      rw [lgo_h hN (by omega)]
      have nx := ih (k + 1) (by omega) (by omega)
      rw [show ((k + 1 : Nat) : Int) = (k : Int) + 1 by omega] at nx
      exact ⟨fun r => absurd (tl k (by omega)) r, fun _ => nx⟩
  exact eX10_lowestOf hC (lp (z0 - 1) 1 (by omega) (by omega))
/-- the notes from a lowest to a highest -/
theorem rng_tb {a k z : Nat} : (2 ^ (a + k) - 2 ^ a).testBit z = (decide (a ≤ z) && decide (z < a + k)) := by
  have e : 2 ^ (a + k) - 2 ^ a = (2 ^ k - 1) <<< a := by
    rw [Nat.shiftLeft_eq, Nat.sub_mul, Nat.one_mul, Nat.pow_add, Nat.mul_comm]
  rw [e, Nat.testBit_shiftLeft, Nat.testBit_two_pow_sub_one]
  by_cases q : a ≤ z
  · rw [decide_eq_true (show z ≥ a from q), Bool.true_and, Bool.true_and]
    apply decide_eq_decide.2
    omega
  · rw [decide_eq_false (show ¬ z ≥ a from q), Bool.false_and, Bool.false_and]
def fmk (mu : jm_M) (nt D0 DK x y : Nat) : Nat := ((swn mu nt 61 &&& swn mu x 61) &&& swn mu y 61) &&& (2 ^ (D0 + DK) - 2 ^ D0)
theorem fmk_tb {nt D0 DK x y z : Nat} (h : D0 + DK ≤ 61) : (fmk mu nt D0 DK x y).testBit z = (fitz mu nt x y z && (decide (D0 ≤ z) && decide (z < D0 + DK))) := by
  unfold fmk fitz
  rw [Nat.testBit_and, Nat.testBit_and, Nat.testBit_and, swn_tb, swn_tb, swn_tb, rng_tb]
  by_cases q : z < 61
  · rw [decide_eq_true q]
    cases sb mu nt z <;> cases sb mu x z <;> cases sb mu y z <;> rfl
  · have : ¬ z < D0 + DK := by omega
    rw [decide_eq_false q, decide_eq_false this]
    simp
theorem fmk_lt (mu : jm_M) (nt D0 DK x y : Nat) : fmk mu nt D0 DK x y < 2 ^ 61 := by
  have h := swn_lt mu nt (k := 61) (Nat.le_refl 61)
  refine Nat.lt_of_le_of_lt ?_ h
  unfold fmk
  exact Nat.le_trans Nat.and_le_left (Nat.le_trans Nat.and_le_left Nat.and_le_left)
theorem fmk_cnt {nt D0 DK x y : Nat} (h : D0 + DK ≤ 61) : cnt (fun z => (fmk mu nt D0 DK x y).testBit z) 64 = cz mu nt D0 x y DK := by
  have z1 : sN (fun w => if (fmk mu nt D0 DK x y).testBit w = true then (1 : Int) else 0) D0 = 0 := by
    rw [sN_eq (g := fun _ => 0) D0 (fun i hi => by rw [fmk_tb h, decide_eq_false (show ¬ D0 ≤ i by omega)]; simp), sN_z]
  have z2 : sN (fun i => if (fmk mu nt D0 DK x y).testBit (D0 + i) = true then (1 : Int) else 0) DK = cz mu nt D0 x y DK := by
    refine sN_eq DK (fun i hi => ?_)
    rw [fmk_tb h, decide_eq_true (show D0 ≤ D0 + i by omega), decide_eq_true (show D0 + i < D0 + DK by omega)]
    simp
  have z3 : sN (fun i => if (fmk mu nt D0 DK x y).testBit (D0 + DK + i) = true then (1 : Int) else 0) (64 - (D0 + DK)) = 0 := by
    rw [sN_eq (g := fun _ => 0) _ (fun i hi => by rw [fmk_tb h, decide_eq_false (show ¬ D0 + DK + i < D0 + DK by omega)]; simp), sN_z]
  have e : cnt (fun z => (fmk mu nt D0 DK x y).testBit z) 64 = sN (fun w => if (fmk mu nt D0 DK x y).testBit w = true then (1 : Int) else 0) (D0 + DK + (64 - (D0 + DK))) := by
    rw [show D0 + DK + (64 - (D0 + DK)) = 64 by omega]
    rfl
  rw [e, sN_sp, sN_sp, z1, z2, z3]
  omega
def dec (what f : Int) : Int := if f = -1 then -1 else if what = 1 then f / 10000 else if what = 2 then f / 100 % 100 else f % 100
theorem dec_c {what : Int} {x y z : Nat} (hx : 1 ≤ x ∧ x ≤ 60) (hy : 1 ≤ y ∧ y ≤ 60) (hz : 1 ≤ z ∧ z ≤ 60) : dec what ((10000 * x + 100 * y + z : Nat) : Int) = if what = 1 then (x : Int) else if what = 2 then (y : Int) else z := by
  unfold dec
  rw [if_neg (by omega)]
  split
  · omega
  · split <;> omega
theorem dec_r {what : Int} {s : Int × Int} (h : okCh s) : (-1 ≤ dec what s.2 ∧ dec what s.2 ≤ 60) ∧ (dec what s.2 = -1 ↔ s.1 = 0) := by
  rcases h with ⟨a, b⟩ | ⟨a, x, y, z, hx, hy, hz, e⟩
  · unfold dec
    rw [if_pos b]
    omega
  · rw [e, dec_c hx hy hz]
    split
    · omega
    · split <;> omega
/-- the class's walk: one pair of notes -/
theorem lX10_at (hC : jm_HC gC) {b c w what : Int} {nt x y N : Nat} {w9 : Int64} {s s' : Int × Int} (r5 : jm_rg what) (hN : N < 2 ^ 61) (ok : okCh s) (s1 : s.1 ≤ 1000000) (x1 : 1 ≤ x ∧ x ≤ 60) (y1 : 1 ≤ y ∧ y ≤ 60) (cs : (N = 0 ∧ s' = s) ∨ (∃ z0, (1 ≤ z0 ∧ z0 ≤ 60) ∧ N.testBit z0 = true ∧ (∀ z, z < z0 → N.testBit z = false) ∧ s'.1 = s.1 + cnt (fun z => N.testBit z) 64 ∧ s'.2 = if s.1 = 0 then ((10000 * x + 100 * y + z0 : Nat) : Int) else s.2)) (h : jm_V l gC (d + 3) iX10_chordOf 82 [(0, .ref 38), (1, jm_i b), (2, jm_i c), (3, jm_i w), (4, jm_i nt), (5, jm_i what), (6, jm_i s'.1), (7, jm_i (dec what s'.2)), (8, jm_i x), (9, .long w9), (11, jm_i ((y : Int) + 1))] [] m Q) : jm_V l gC (d + 3) iX10_chordOf 133 [(0, .ref 38), (1, jm_i b), (2, jm_i c), (3, jm_i w), (4, jm_i nt), (5, jm_i what), (6, jm_i s.1), (7, jm_i (dec what s.2)), (8, jm_i x), (9, .long w9), (11, jm_i y)] [.long (lgo N)] m Q := by
  have dr := dec_r (what := what) ok
  have cb := cnt_b (fun z => N.testBit z) 64
  refine bX10_chordOf_133 hC (sJ13_bitCount hC (by omega) (jm_qiI ⟨by omega, by omega⟩ (fun x5 e5 => ⟨⟨by omega, by omega⟩, fun f => ?_, fun f => ?_⟩)))
  · rcases cs with ⟨n0, es⟩ | ⟨z0, hz, t, tl, es1, es2⟩
    · have c0 : cnt (fun z => N.testBit z) 64 = 0 := by
        rw [n0]
        have := sN_eq (f := fun w => if (0 : Nat).testBit w = true then (1 : Int) else 0) (g := fun _ => 0) 64 (fun i _ => by simp)
        show sN (fun w => if (0 : Nat).testBit w = true then (1 : Int) else 0) 64 = 0
        rw [this, sN_z]
      rw [es] at h
      rw [e5, c0, Int.add_zero]
      exact h
    · have : ¬ s.1 = 0 := fun q => f (dr.2.2 q)
      rw [if_neg this] at es2
      rw [es1, es2] at h
      rw [e5]
      exact h
  · rw [lgo_z (by omega)]
    refine ⟨fun q => ?_, fun q => ?_⟩
    · rcases cs with ⟨n0, es⟩ | ⟨z0, hz, t, tl, es1, es2⟩
      · have c0 : cnt (fun z => N.testBit z) 64 = 0 := by
          rw [n0]
          have := sN_eq (f := fun w => if (0 : Nat).testBit w = true then (1 : Int) else 0) (g := fun _ => 0) 64 (fun i _ => by simp)
          show sN (fun w => if (0 : Nat).testBit w = true then (1 : Int) else 0) 64 = 0
          rw [this, sN_z]
        rw [es] at h
        rw [e5, c0, Int.add_zero]
        exact h
      · rw [q, Nat.zero_testBit] at t
        cases t
    · rcases cs with ⟨n0, es⟩ | ⟨z0, hz, t, tl, es1, es2⟩
      · exact absurd n0 q
      · have s00 : s.1 = 0 := dr.2.1 f
        rw [if_pos s00] at es2
        rw [es1, es2, dec_c x1 y1 hz] at h
        refine sX10_lowestOf hC (by omega) hz.1 hz.2 t tl (jm_qiI ⟨by omega, by omega⟩ (eX10_chosen hC ⟨r5, fun w1 => ⟨fun w2 => ?_, fun w2 => ?_⟩, fun w1 => ?_⟩))
        · rw [if_neg w1, if_neg w2] at h
          rw [e5]
          exact jm_qiI ⟨by omega, by omega⟩ h
        · rw [if_neg w1, if_pos w2] at h
          rw [e5]
          exact jm_qiI ⟨by omega, by omega⟩ h
        · rw [if_pos w1] at h
          rw [e5]
          exact jm_qiI ⟨by omega, by omega⟩ h
theorem lX10_cy (hC : jm_HC gC) (hA : IA mu nu) {b c w what : Int} {nt C0 CK D0 DK x : Nat} {s : Int × Int} (e1 : m.1 = mu.1) (hm : ∀ a : Nat, 1 ≤ a → a ≤ 60 → m.2 40 a = lgo (swn mu a 61)) (r5 : jm_rg what) (n1 : 1 ≤ nt ∧ nt ≤ 60) (x1 : 1 ≤ x ∧ x ≤ 60) (c0 : 0 ≤ c) (c1 : c < mu.1 6 0) (hC0 : mu.1 7 c = C0) (hCK : mu.1 8 c + 1 = ((C0 + CK : Nat) : Int)) (w0 : 0 ≤ w) (w1 : w < mu.1 6 0) (hD : mu.1 7 w = D0) (hK : mu.1 8 w + 1 = ((D0 + DK : Nat) : Int)) (ok : okCh s) (s1 : s.1 ≤ 900000) (h : jm_V l gC (d + 3) iX10_chordOf 21 [(0, .ref 38), (1, jm_i b), (2, jm_i c), (3, jm_i w), (4, jm_i nt), (5, jm_i what), (6, jm_i (sty mu nt D0 DK C0 x s CK).1), (7, jm_i (dec what (sty mu nt D0 DK C0 x s CK).2)), (8, jm_i ((x : Int) + 1))] [] m Q) (j : Nat) : ∀ k : Nat, k + j = CK → jm_V l gC (d + 3) iX10_chordOf 82 [(0, .ref 38), (1, jm_i b), (2, jm_i c), (3, jm_i w), (4, jm_i nt), (5, jm_i what), (6, jm_i (sty mu nt D0 DK C0 x s k).1), (7, jm_i (dec what (sty mu nt D0 DK C0 x s k).2)), (8, jm_i x), (9, .long (lgo (swn mu nt 61 &&& swn mu x 61))), (11, jm_i ((C0 + k : Nat) : Int))] [] m Q := by
  obtain ⟨W0, w8, -⟩ := hA.1
  have hc := hA.2.1 c c0 c1
  have hw := hA.2.1 w w0 w1
  have e8 : m.1 8 = mu.1 8 := by rw [e1]
  have e7 : m.1 7 = mu.1 7 := by rw [e1]
  have wl : swn mu nt 61 &&& swn mu x 61 < 2 ^ 61 := Nat.lt_of_le_of_lt Nat.and_le_left (swn_lt mu nt (Nat.le_refl 61))
  have wt : ∀ z, (swn mu nt 61 &&& swn mu x 61).testBit z = (decide (z < 61) && (sb mu nt z && sb mu x z)) := fun z => by
    rw [Nat.testBit_and, swn_tb, swn_tb]
    cases decide (z < 61) <;> rfl
  induction j with
  | zero =>
    intro k hk
    have e : k = CK := by omega
    subst e
    refine bX10_chordOf_82 hC ⟨⟨by omega, by omega⟩, ⟨by omega, by omega⟩, fun _ => h, fun r => ?_⟩
    rw [e8] at r
    omega
  | succ j ih =>
    intro k hk
    have nx := ih (k + 1) (by omega)
    rw [show ((C0 + (k + 1) : Nat) : Int) = ((C0 + k : Nat) : Int) + 1 by omega] at nx
    have ok1 := sty_ok (mu := mu) (nt := nt) (D0 := D0) (DK := DK) (C0 := C0) ok x1 (by omega) (by omega) (by omega) k (by omega)
    have sb1 := sty_b (mu := mu) (nt := nt) (D0 := D0) (DK := DK) (C0 := C0) (x := x) (s := s) (by omega) k
    refine bX10_chordOf_82 hC ⟨⟨by omega, by omega⟩, ⟨by omega, by omega⟩, fun r => ?_, fun _ => ?_⟩
    · rw [e8] at r
      omega
    · rw [lgo_z (by omega), lgo_h (by omega) (by omega), e8, e7]
      refine ⟨fun q => ?_, fun q => ⟨fun q2 => ⟨⟨by omega, by omega⟩, ⟨by omega, by omega⟩, ?_⟩, fun q2 => ?_⟩⟩
      · have nn : ∀ i, (sb mu nt (C0 + i) && sb mu x (C0 + i)) = true → ¬ C0 + i < 61 := fun i t r => by
          have := wt (C0 + i)
          rw [q, Nat.zero_testBit, t, decide_eq_true r] at this
          cases this
        have e : ∀ K, K ≤ CK → sty mu nt D0 DK C0 x s K = s := fun K hK' => sty_0 K (fun i hi => by
          cases t : (sb mu nt (C0 + i) && sb mu x (C0 + i))
          · rfl
          · exact absurd (show C0 + i < 61 by omega) (nn i t))
        rw [e CK (Nat.le_refl _)] at h
        rw [e k (by omega)]
        exact h
      · rw [wt, decide_eq_true (show C0 + k < 61 by omega), Bool.true_and] at q2
        have t : (sb mu nt (C0 + k) && sb mu x (C0 + k)) = true := by
          cases z : (sb mu nt (C0 + k) && sb mu x (C0 + k))
          · exact absurd z q2
          · rfl
        have e : sty mu nt D0 DK C0 x s (k + 1) = stz mu nt D0 x (C0 + k) (sty mu nt D0 DK C0 x s k) DK := if_pos t
        rw [e] at nx
        have p1 : 2 ^ (D0 + DK) ≤ 2 ^ 61 := Nat.pow_le_pow_right (by decide) (by omega)
        have p2 : 2 ^ D0 ≤ 2 ^ (D0 + DK) := Nat.pow_le_pow_right (by decide) (by omega)
        have sy := swn_lt mu (C0 + k) (k := 61) (Nat.le_refl 61)
        have wy : swn mu nt 61 &&& swn mu x 61 &&& swn mu (C0 + k) 61 < 2 ^ 61 := Nat.lt_of_le_of_lt Nat.and_le_left wl
        have rg : ((1 : Int64) <<< ((Int32.ofInt (mu.1 8 w + 1)).toInt64 &&& 63)) - ((1 : Int64) <<< ((Int32.ofInt (mu.1 7 w)).toInt64 &&& 63)) = lgo (2 ^ (D0 + DK) - 2 ^ D0) := by
          rw [hK, hD, lgo_s ⟨D0 + DK, by omega⟩, lgo_s ⟨D0, by omega⟩]
          exact lgo_sub (by show 2 ^ (D0 + DK) < 2 ^ 64; omega) p2
        have rl : 2 ^ (D0 + DK) - 2 ^ D0 < 2 ^ 64 := Nat.lt_of_le_of_lt (Nat.sub_le _ _) (Nat.lt_of_le_of_lt p1 (by decide))
        rw [rg, hm (C0 + k) (by omega) (by omega), lgo_and (by omega) (by omega), lgo_and (by omega) rl]
        show jm_V l gC (d + 3) iX10_chordOf 133 _ [.long (lgo (fmk mu nt D0 DK x (C0 + k)))] m Q
        refine lX10_at (s' := stz mu nt D0 x (C0 + k) (sty mu nt D0 DK C0 x s k) DK) hC r5 (fmk_lt mu nt D0 DK x (C0 + k)) ok1 (by omega) x1 ⟨by omega, by omega⟩ ?_ nx
        rcases fst_or (fun i => fitz mu nt x (C0 + k) (D0 + i)) DK with f | ⟨k0, a, b', c'⟩
        · left
          refine ⟨?_, (stz_2 DK f).1⟩
          apply Nat.eq_of_testBit_eq
          intro z
          rw [Nat.zero_testBit, fmk_tb (by omega)]
          by_cases q : D0 ≤ z ∧ z < D0 + DK
          · have := f (z - D0) (by omega)
            simp only [show D0 + (z - D0) = z by omega] at this
            rw [this, Bool.false_and]
          · rw [← Bool.decide_and, decide_eq_false q, Bool.and_false]
        · right
          refine ⟨D0 + k0, ⟨by omega, by omega⟩, ?_, fun z hz => ?_, ?_, ?_⟩
          · rw [fmk_tb (by omega), b', decide_eq_true (show D0 ≤ D0 + k0 by omega), decide_eq_true (show D0 + k0 < D0 + DK by omega)]
            rfl
          · rw [fmk_tb (by omega)]
            by_cases q : D0 ≤ z
            · have := c' (z - D0) (by omega)
              simp only [show D0 + (z - D0) = z by omega] at this
              rw [this, Bool.false_and]
            · rw [decide_eq_false q, Bool.false_and, Bool.and_false]
          · rw [fmk_cnt (by omega)]
            exact stz_1 DK
          · exact stz_3 (okCh_r ok1).1 b' c' DK a
      · rw [wt, decide_eq_true (show C0 + k < 61 by omega), Bool.true_and] at q2
        have t : ¬ (sb mu nt (C0 + k) && sb mu x (C0 + k)) = true := by
          intro z
          rw [z] at q2
          exact q2 (by decide)
        have e : sty mu nt D0 DK C0 x s (k + 1) = sty mu nt D0 DK C0 x s k := if_neg t
        rw [e] at nx
        exact lX10_at (N := 0) (s' := sty mu nt D0 DK C0 x s k) hC r5 (by decide) ok1 (by omega) x1 ⟨by omega, by omega⟩ (Or.inl ⟨rfl, rfl⟩) nx
theorem lX10_cx (hC : jm_HC gC) (hA : IA mu nu) {b c w what : Int} {nt B0 BK C0 CK D0 DK : Nat} (e1 : m.1 = mu.1) (hm : ∀ a : Nat, 1 ≤ a → a ≤ 60 → m.2 40 a = lgo (swn mu a 61)) (r5 : jm_rg what) (n1 : 1 ≤ nt ∧ nt ≤ 60) (b0 : 0 ≤ b) (b1 : b < mu.1 6 0) (hB0 : mu.1 7 b = B0) (hBK : mu.1 8 b + 1 = ((B0 + BK : Nat) : Int)) (c0 : 0 ≤ c) (c1 : c < mu.1 6 0) (hC0 : mu.1 7 c = C0) (hCK : mu.1 8 c + 1 = ((C0 + CK : Nat) : Int)) (w0 : 0 ≤ w) (w1 : w < mu.1 6 0) (hD : mu.1 7 w = D0) (hK : mu.1 8 w + 1 = ((D0 + DK : Nat) : Int)) (h : Q (some (jm_i (if what = 0 then (stx mu nt D0 DK C0 CK B0 BK).1 else dec what (stx mu nt D0 DK C0 CK B0 BK).2))) m) (j : Nat) : ∀ k : Nat, k + j = BK → jm_V l gC (d + 3) iX10_chordOf 21 [(0, .ref 38), (1, jm_i b), (2, jm_i c), (3, jm_i w), (4, jm_i nt), (5, jm_i what), (6, jm_i (stx mu nt D0 DK C0 CK B0 k).1), (7, jm_i (dec what (stx mu nt D0 DK C0 CK B0 k).2)), (8, jm_i ((B0 + k : Nat) : Int))] [] m Q := by
  obtain ⟨W0, w8, -⟩ := hA.1
  have hb := hA.2.1 b b0 b1
  have hc := hA.2.1 c c0 c1
  have hw := hA.2.1 w w0 w1
  have e8 : m.1 8 = mu.1 8 := by rw [e1]
  have e7 : m.1 7 = mu.1 7 := by rw [e1]
  have nl := swn_lt mu nt (k := 61) (Nat.le_refl 61)
  induction j with
  | zero =>
    intro k hk
    have e : k = BK := by omega
    subst e
    refine bX10_chordOf_21 hC ⟨⟨by omega, by omega⟩, ⟨by omega, by omega⟩, fun _ => ⟨r5, fun z => ?_, fun z => ?_⟩, fun r => ?_⟩
    · rw [if_neg z] at h
      exact h
    · rw [if_pos z] at h
      exact h
    · rw [e8] at r
      omega
  | succ j ih =>
    intro k hk
    have nx := ih (k + 1) (by omega)
    rw [show ((B0 + (k + 1) : Nat) : Int) = ((B0 + k : Nat) : Int) + 1 by omega] at nx
    have ok1 := stx_ok (mu := mu) (nt := nt) (D0 := D0) (DK := DK) (C0 := C0) (CK := CK) (B0 := B0) (by omega) (by omega) (by omega) (by omega) (by omega) k (by omega)
    have sb1 := stx_b (mu := mu) (nt := nt) (D0 := D0) (DK := DK) (C0 := C0) (CK := CK) (B0 := B0) (by omega) (by omega) k
    refine bX10_chordOf_21 hC ⟨⟨by omega, by omega⟩, ⟨by omega, by omega⟩, fun r => ?_, fun _ => ⟨⟨by omega, by omega⟩, ?_⟩⟩
    · rw [e8] at r
      omega
    · rw [hm nt n1.1 n1.2, lgo_h (by omega) (by omega), swn_tb, decide_eq_true (show B0 + k < 61 by omega), Bool.true_and]
      refine ⟨fun q => ⟨⟨by omega, by omega⟩, fun x6 e6 => ⟨⟨by omega, by omega⟩, fun x8 e8' => ?_⟩⟩, fun q x9 e9 => ⟨⟨by omega, by omega⟩, fun x11 e11 => ?_⟩⟩
      · have t : sb mu nt (B0 + k) = true := by
          cases z : sb mu nt (B0 + k)
          · exact absurd z q
          · rfl
        have e : stx mu nt D0 DK C0 CK B0 (k + 1) = sty mu nt D0 DK C0 (B0 + k) (stx mu nt D0 DK C0 CK B0 k) CK := if_pos t
        rw [e] at nx
        have sx := swn_lt mu (B0 + k) (k := 61) (Nat.le_refl 61)
        rw [hm (B0 + k) (by omega) (by omega), lgo_and (by omega) (by omega)] at e6
        have st := lX10_cy (d := d) hC hA (b := b) e1 hm r5 n1 (x := B0 + k) ⟨by omega, by omega⟩ c0 c1 hC0 hCK w0 w1 hD hK ok1 (by omega) nx CK 0 (by omega)
        rw [e7, hC0] at e8'
        rw [e6, e8']
        exact st
      · have t : ¬ sb mu nt (B0 + k) = true := by
          intro z
          rw [z] at q
          exact q (by decide)
        have e : stx mu nt D0 DK C0 CK B0 (k + 1) = stx mu nt D0 DK C0 CK B0 k := if_neg t
        rw [e] at nx
        have z0 : x9 = lgo 0 := e9
        rw [z0]
        refine bX10_chordOf_82 hC ⟨⟨by omega, by omega⟩, by rw [e11, e7]; exact ⟨by omega, by omega⟩, fun _ => nx, fun _ => ⟨fun _ => nx, fun r => absurd ((lgo_z (by decide)).2 rfl) r⟩⟩
theorem sim_chord (hC : jm_HC gC) (hR : jm_HR gR) (hI : Iv mu nu) (h1 : jm_rg v1) (h2 : jm_rg v2) (h3 : jm_rg v3) (h4 : jm_rg v4) (h5 : jm_rg v5) (h6 : jm_rg v6) : jm_sim l gC gR (d + 4) (d + 3) iX11_chord iX12_chord [jm_i v1, jm_i v2, jm_i v3, jm_i v4, jm_i v5, jm_i v6] mu nu := by
  have I0 := hI.t0
  obtain ⟨W0, w8, -⟩ := hI.1.1
  have e04 := I0.1.1.2.2
  have none : ¬ (((0 ≤ v1 ∧ v1 < mu.1 6 0) ∧ (0 ≤ v2 ∧ v2 < mu.1 6 0) ∧ (0 ≤ v3 ∧ v3 < mu.1 6 0) ∧ (0 ≤ v4 ∧ v4 < mu.1 6 0) ∧ (¬ v1 = v2 ∧ ¬ v1 = v3 ∧ ¬ v1 = v4 ∧ ¬ v2 = v3 ∧ ¬ v2 = v4 ∧ ¬ v3 = v4)) ∧ (mu.1 7 v1 ≤ v5 ∧ v5 ≤ mu.1 8 v1) ∧ (0 ≤ v6 ∧ v6 ≤ 3)) → jm_qi (fun z m => jm_R l gR (d + 3) iX12_chord [.ref 0, jm_i v1, jm_i v2, jm_i v3, jm_i v4, jm_i v5, jm_i v6] nu (jm_qi fun y n => y = z ∧ Iv m n)) (some (jm_i (-1))) mu := by
    intro q
    refine jm_qiI ⟨by decide, by decide⟩ (eX12_chord hR (fun n1 en => ?_))
    subst en
    have fi := jm_fin (z := -1) (y := -1) (F := fun n => Iv mu n) ⟨by decide, by decide⟩ rfl I0
    refine ⟨h1, h2, h3, h4, fun a => ⟨⟨by omega, by omega⟩, h5, fun b => ⟨h6, fun c => ?_, fun _ => fi⟩, fun _ => fi⟩, fun _ => fi⟩
    rw [e04] at a
    have r1 := I0.1.2.1 v1 a.1.1 a.1.2
    exact absurd ⟨a, ⟨by omega, by omega⟩, c⟩ q
  have at85 : ∀ s0 : Int, (s0 = 0 ∨ s0 = 1) → (0 ≤ v1 ∧ v1 < mu.1 6 0) → (0 ≤ v2 ∧ v2 < mu.1 6 0) → (0 ≤ v3 ∧ v3 < mu.1 6 0) → (0 ≤ v4 ∧ v4 < mu.1 6 0) → (s0 = 0 ↔ (¬ v1 = v2 ∧ ¬ v1 = v3 ∧ ¬ v1 = v4 ∧ ¬ v2 = v3 ∧ ¬ v2 = v4 ∧ ¬ v3 = v4)) → jm_V l gC (d + 4) iX11_chord 85 [(0, .ref 0), (1, jm_i v1), (2, jm_i v2), (3, jm_i v3), (4, jm_i v4), (5, jm_i v5), (6, jm_i v6)] [jm_i s0] mu (jm_qi fun z m => jm_R l gR (d + 3) iX12_chord [.ref 0, jm_i v1, jm_i v2, jm_i v3, jm_i v4, jm_i v5, jm_i v6] nu (jm_qi fun y n => y = z ∧ Iv m n)) := by
    intro s0 s01 a1 a2 a3 a4 u
    have r1 := I0.1.2.1 v1 a1.1 a1.2
    have r2 := I0.1.2.1 v2 a2.1 a2.2
    have r3 := I0.1.2.1 v3 a3.1 a3.2
    have r4 := I0.1.2.1 v4 a4.1 a4.2
    refine bX11_chord_85 hC ⟨⟨by omega, by omega⟩, fun z => none (fun q => z (u.2 q.1.2.2.2.2)), fun z => ⟨⟨by omega, by omega⟩, h5, fun b => ⟨h6, fun c => ?_, fun c => none (fun q => c q.2.2)⟩, fun b => none (fun q => b q.2.1)⟩⟩
    obtain ⟨nt, en⟩ : ∃ k : Nat, (k : Int) = v5 := ⟨v5.toNat, by omega⟩
    obtain ⟨B0, eB⟩ : ∃ k : Nat, mu.1 7 v2 = (k : Int) := ⟨(mu.1 7 v2).toNat, by omega⟩
    obtain ⟨BK, eBK⟩ : ∃ k : Nat, mu.1 8 v2 + 1 = ((B0 + k : Nat) : Int) := ⟨(mu.1 8 v2 + 1 - mu.1 7 v2).toNat, by omega⟩
    obtain ⟨C0, eC⟩ : ∃ k : Nat, mu.1 7 v3 = (k : Int) := ⟨(mu.1 7 v3).toNat, by omega⟩
    obtain ⟨CK, eCK⟩ : ∃ k : Nat, mu.1 8 v3 + 1 = ((C0 + k : Nat) : Int) := ⟨(mu.1 8 v3 + 1 - mu.1 7 v3).toNat, by omega⟩
    obtain ⟨D0, eD⟩ : ∃ k : Nat, mu.1 7 v4 = (k : Int) := ⟨(mu.1 7 v4).toNat, by omega⟩
    obtain ⟨DK, eDK⟩ : ∃ k : Nat, mu.1 8 v4 + 1 = ((D0 + k : Nat) : Int) := ⟨(mu.1 8 v4 + 1 - mu.1 7 v4).toNat, by omega⟩
    have okX := stx_ok (mu := mu) (nt := nt) (D0 := D0) (DK := DK) (C0 := C0) (CK := CK) (B0 := B0) (by omega) (by omega) (by omega) (by omega) (by omega) BK (by omega)
    have oX := okCh_r okX
    have dX := dec_r (what := v6) okX
    have bX := stx_b (mu := mu) (nt := nt) (D0 := D0) (DK := DK) (C0 := C0) (CK := CK) (B0 := B0) (by omega) (by omega) BK
    have rz : jm_rg (if v6 = 0 then (stx mu nt D0 DK C0 CK B0 BK).1 else dec v6 (stx mu nt D0 DK C0 CK B0 BK).2) := by
      split <;> exact ⟨by omega, by omega⟩
    have fin : ∀ m, m.1 = mu.1 → jm_R l gR (d + 3) iX12_chord [.ref 0, jm_i v1, jm_i v2, jm_i v3, jm_i v4, jm_i v5, jm_i v6] nu (jm_qi fun y n => y = (if v6 = 0 then (stx mu nt D0 DK C0 CK B0 BK).1 else dec v6 (stx mu nt D0 DK C0 CK B0 BK).2) ∧ Iv m n) := by
      intro m em
      have am : jm_aC mu m := ⟨fun c _ => by rw [em], fun c i _ => by rw [em]⟩
      refine eX12_chord hR (fun n1 en1 => ?_)
      subst en1
      refine ⟨h1, h2, h3, h4, fun a => ⟨⟨by omega, by omega⟩, h5, fun b' => ⟨h6, fun c' => ⟨⟨by omega, by omega⟩, fun x11 e11 => ?_⟩, fun r => absurd c r⟩, fun r => absurd (by omega) r⟩, fun r => absurd ⟨by omega, by omega, by omega, by omega, u.1 z⟩ r⟩
      rw [r2.2.2.2.2.2.1, eB] at e11
      rw [e11, ← en]
      exact lX12_cx (d := d) hR I0.1 (by omega) a2.1 a2.2 eB eBK a3.1 a3.2 eC eCK a4.1 a4.2 eD eDK h6 (jm_fin rz rfl (I0.ext am (jm_aR.rf _))) BK 0 (by omega)
    refine eX10_chordOf hC (sX10_tellSounds hC hI.1 (fun m em hm => jm_qvI ⟨⟨by omega, by omega⟩, fun x6 e6 => ?_⟩))
    rw [em, eB] at e6
    rw [e6, ← en]
    rw [← en] at fin
    show jm_V l gC (d + 3) iX10_chordOf 21 [(0, .ref 38), (1, jm_i v2), (2, jm_i v3), (3, jm_i v4), (4, jm_i nt), (5, jm_i v6), (6, jm_i (stx mu nt D0 DK C0 CK B0 0).1), (7, jm_i (dec v6 (stx mu nt D0 DK C0 CK B0 0).2)), (8, jm_i ((B0 + 0 : Nat) : Int))] [] m _
    exact lX10_cx (d := d) hC hI.1 em hm h6 (nt := nt) ⟨by omega, by omega⟩ a2.1 a2.2 eB eBK a3.1 a3.2 eC eCK a4.1 a4.2 eD eDK (jm_qiI rz (jm_qiI rz (fin m em))) BK 0 (by omega)
  refine eX11_chord hC ⟨h1, fun a1 => ⟨h2, fun a2 => ⟨h3, fun a3 => ⟨h4, fun a4 => ⟨fun q => at85 1 (Or.inr rfl) a1 a2 a3 a4 ⟨fun r => absurd r (by decide), fun r => absurd q r.1⟩, fun q => ⟨fun q2 => at85 1 (Or.inr rfl) a1 a2 a3 a4 ⟨fun r => absurd r (by decide), fun r => absurd q2 r.2.1⟩, fun q2 => ⟨fun q3 => at85 1 (Or.inr rfl) a1 a2 a3 a4 ⟨fun r => absurd r (by decide), fun r => absurd q3 r.2.2.1⟩, fun q3 => ⟨fun q4 => at85 1 (Or.inr rfl) a1 a2 a3 a4 ⟨fun r => absurd r (by decide), fun r => absurd q4 r.2.2.2.1⟩, fun q4 => ⟨fun q5 => at85 1 (Or.inr rfl) a1 a2 a3 a4 ⟨fun r => absurd r (by decide), fun r => absurd q5 r.2.2.2.2.1⟩, fun q5 => ⟨fun q6 => at85 0 (Or.inl rfl) a1 a2 a3 a4 ⟨fun _ => ⟨q, q2, q3, q4, q5, q6⟩, fun _ => rfl⟩, fun q6 => at85 1 (Or.inr rfl) a1 a2 a3 a4 ⟨fun r => absurd r (by decide), fun r => absurd q6 r.2.2.2.2.2⟩⟩⟩⟩⟩⟩⟩, fun q => none (fun r => q r.1.2.2.2.1)⟩, fun q => none (fun r => q r.1.2.2.1)⟩, fun q => none (fun r => q r.1.2.1)⟩, fun q => none (fun r => q r.1.1)⟩
end CO
