section CO
variable {l : Launch} {gC gR : jm_G} {d : Nat} {mu nu m n m0 n0 : jm_M} {v1 v2 v3 v4 v5 v6 : Int} {Q : Option Value → jm_M → Prop} {B B' K P S : Int → Int} {N t a : Int} {k : Nat}
/-- the reference behind a condition whose tests are joined -/
def AEND (l : Launch) (g : jm_G) (d : Nat) (v1 : Int) (m34 : jm_M) (Q : Option Value → jm_M → Prop) : Prop := jm_rg v1 ∧ (¬ v1 = 0 → ((m34.1 0 16) = 4 ∧ (m34.1 0 17) = 41 → jm_rg ((m34.1 0 30) - 1) ∧ ∀ m40, m40 = jm_wr m34 0 30 ((m34.1 0 30) - 1) → ∀ x42, x42 = (v1 - 1) → jm_rg ((m40.1 0 28) - 1) ∧ ∀ m44, m44 = jm_wr m40 0 28 ((m40.1 0 28) - 1) → jm_R l g (d + 1) iX12_settles [.ref 0, jm_i 9] m44 (jm_qv fun m46 => jm_R l g (d + 1) iX12_reads [.ref 0] m46 (jm_qv fun m50 => jm_V l g (d + 2) iX12_readAny 9 [(0, .ref 0), (1, jm_i x42), (2, jm_i 0)] [] m50 Q))) ∧ (¬ ((m34.1 0 16) = 4 ∧ (m34.1 0 17) = 41) → ∀ m54, m54 = (jm_wr (jm_wr m34 0 31 1) 0 32 ((jm_wr m34 0 31 1).1 0 15)) → Q (some (jm_i (-1))) m54)) ∧ (v1 = 0 → Q (some (jm_i 0)) m34)
/-- the reference's part of a test that k nots wait for -/
def TCT (l : Launch) (gR : jm_G) (d : Nat) (n0 : jm_M) (B : Int → Int) (N : Int) (P S : Int → Int) (t o : Int) (m m' : jm_M) (z : Int) : Prop := ∀ b : Int, b ≤ 400 → ∀ (k : Nat) (r : List Int) (br : Int) (n : jm_M), RN (DL t (b - k)) n0 B N P S t m n → STK n (List.replicate k 9 ++ r) → r.head? ≠ some 9 → n.1 0 28 = o → (k : Int) ≤ o → 0 ≤ br → br ≤ o → (k : Int) + r.length ≤ 3 * o + 2 → ∀ Q' : Option Value → jm_M → Prop, (z = 1 → ∀ n', RN (DL t b) n0 B N P S t (AOs 3 k m') n' → STK n' r → n'.1 0 28 = o - k → jm_ag fsa n n' → jm_V l gR (d + 24) iX12_readAny 9 [(0, .ref 0), (1, jm_i br), (2, jm_i 0)] [] n' Q') → (z = 0 → ∀ n', EN n0 m' n' → Q' (some (jm_i (-1))) n') → jm_V l gR (d + 24) iX12_readAny 9 [(0, .ref 0), (1, jm_i br), (2, jm_i 1)] [] n Q'
/-- the reference's part of a condition, A ands and O ors behind -/
def CCT (l : Launch) (gR : jm_G) (d : Nat) (n0 : jm_M) (B : Int → Int) (N : Int) (P S : Int → Int) (t o : Int) (A O : Nat) (m m' : jm_M) (z : Int) : Prop := ∀ b : Int, b ≤ 400 → ∀ (r : List Int) (br : Int) (n : jm_M), RN (DL t (b - A - O)) n0 B N P S t (jm_wr m 1 8 (m.1 1 8 + 1)) n → STK n (List.replicate A 10 ++ (List.replicate O 11 ++ r)) → (r = [] ∨ ∃ r', r = 12 :: r') → n.1 0 28 = o → 0 ≤ br → br ≤ o → (r.length : Int) ≤ 3 * o → ∀ Q' : Option Value → jm_M → Prop, (z = 1 → ∀ n', RN (DL t b) n0 B N P S t m' n' → STK n' r → n'.1 0 28 = o → jm_ag fsa n n' → AEND l gR (d + 22) br n' Q') → (z = 0 → ∀ n', EN n0 m' n' → Q' (some (jm_i (-1))) n') → jm_V l gR (d + 24) iX12_readAny 9 [(0, .ref 0), (1, jm_i br), (2, jm_i 1)] [] n Q'
def TTT (l : Launch) (gC gR : jm_G) (d : Nat) (m0 n0 : jm_M) (B : Int → Int) (N : Int) (K P S : Int → Int) (t : Int) (e : Nat) : Prop := ∀ (o : Int) (m : jm_M) (Q : Option Value → jm_M → Prop), o = 8 - e → e ≤ 8 → CS m0 B K P S t m → 0 ≤ m.1 49 1 → m.1 49 1 + (t - m.1 1 8) ≤ 400 → (∀ m' z, (z = 0 ∨ z = 1) → jm_ag (fcz z) m0 m' → (z = 1 → CS m0 B K P S t m' ∧ CLR t m m' ∧ ∀ s0 : List Bool, (s0.length : Int) ≤ 18 + 2 * o → SG (m'.1 50) (m.1 49 1) (m'.1 49 1) s0 (true :: s0)) → TCT l gR d n0 B N P S t o m m' z → Q (some (jm_i z)) m') → jm_R l gC (d + 7 + 2 * e) iX4_readTest [.ref 63, jm_i o] m Q
def CC (l : Launch) (gC gR : jm_G) (d : Nat) (m0 n0 : jm_M) (B : Int → Int) (N : Int) (K P S : Int → Int) (t : Int) (e : Nat) : Prop := ∀ (o : Int) (m : jm_M) (Q : Option Value → jm_M → Prop), o = 8 - e → e ≤ 8 → CS m0 B K P S t m → m.1 1 8 < t → 0 ≤ m.1 49 1 → m.1 49 1 + (t - m.1 1 8) ≤ 400 → (∀ m' z, (z = 0 ∨ z = 1) → jm_ag (fcz z) m0 m' → (z = 1 → CS m0 B K P S t m' ∧ CLR t m m' ∧ ∀ s0 : List Bool, (s0.length : Int) ≤ 16 + 2 * o → SG (m'.1 50) (m.1 49 1) (m'.1 49 1) s0 (true :: s0)) → CCT l gR d n0 B N P S t o 0 0 m m' z → Q (some (jm_i z)) m') → jm_R l gC (d + 8 + 2 * e) iX4_readCondition [.ref 63, jm_i o] m Q
theorem AOs_8 {kk : Int} : ∀ (k : Nat) (m : jm_M), (AOs kk k m).1 1 8 = m.1 1 8
  | 0, _ => rfl
  | k + 1, m => by
    show (AOs kk k (AO m kk 0)).1 1 8 = m.1 1 8
    rw [AOs_8 k, AO_c (by decide)]
theorem AOs_cg {kk : Int} : ∀ (k : Nat) (m m' : jm_M), (∀ c, 49 ≤ c → c ≤ 54 → m'.1 c = m.1 c) → ∀ c, 49 ≤ c → c ≤ 54 → (AOs kk k m').1 c = (AOs kk k m).1 c
  | 0, _, _, h => h
  | k + 1, m, m', h => by
    refine AOs_cg k (AO m kk 0) (AO m' kk 0) (fun c c1 c2 => ?_)
    funext y
    unfold AO
    rw [h 49 (by decide) (by decide)]
    by_cases e1 : c = 49 ∧ y = 1
    · obtain ⟨rfl, rfl⟩ := e1
      rw [jm_wrS, jm_wrS]
    · by_cases e2 : c = 50 ∧ y = m.1 49 1
      · obtain ⟨rfl, rfl⟩ := e2
        rw [jm_wrO (by decide), jm_wrS, jm_wrO (by decide), jm_wrS]
      · have q : ∀ (x : jm_M) (u w : Int), (jm_wr (jm_wr x 50 (m.1 49 1) u) 49 1 w).1 c y = x.1 c y := fun x u w => by
          simp only [jm_wr]
          rw [if_neg e1, if_neg e2]
        rw [q, q, h c c1 c2]
theorem AOs1 {kk : Int} {A : Nat} (hA : A ≤ 1) (hk : kk = 10 ∨ kk = 11) (h : CS m0 B K P S t m) : CS m0 B K P S t (AOs kk A m) ∧ (AOs kk A m).1 1 8 = m.1 1 8 ∧ (AOs kk A m).1 49 1 = m.1 49 1 + A ∧ (∀ i, i < m.1 49 1 → (AOs kk A m).1 50 i = m.1 50 i) ∧ (AOs kk A m).1 49 0 = m.1 49 0 ∧ (∀ c, 51 ≤ c → c ≤ 54 → (AOs kk A m).1 c = m.1 c) ∧ ∀ x : List Bool, x.length ≤ 38 → SG ((AOs kk A m).1 50) (m.1 49 1) ((AOs kk A m).1 49 1) (true :: (List.replicate A true ++ x)) (true :: x) := by
  have e : A = 0 ∨ A = 1 := by omega
  rcases e with rfl | rfl
  · exact ⟨h, rfl, (Int.add_zero _).symm, fun _ _ => rfl, rfl, fun _ _ _ => rfl, fun x _ => SG.rf _ _ _⟩
  · refine ⟨AO_cs h, AOs_8 1 m, AO_o, fun i hi => ?_, AO_u ⟨by decide, by decide⟩, fun c c1 c2 => AO_c (by omega), fun x hx => ?_⟩
    · show (AO m kk 0).1 50 i = _
      rw [AO_50, if_neg (by omega)]
    · show SG ((AO m kk 0).1 50) (m.1 49 1) ((AO m kk 0).1 49 1) (true :: true :: x) (true :: x)
      rw [AO_o]
      exact AO_sg (by decide) (by decide) (Or.inr (Or.inr (Or.inr (Or.inr (Or.inr ⟨hk, x, rfl, rfl⟩))))) (by show x.length + 1 + 1 ≤ 40; omega)
theorem RN.cm {b b' : Int} {m' : jm_M} (h : RN (DL t b) n0 B N P S t m n) (e8 : m'.1 1 8 = m.1 1 8) (e : ∀ c, 49 ≤ c → c ≤ 54 → m'.1 c = m.1 c) (hb : b ≤ b') : RN (DL t b') n0 B N P S t m' n := ⟨by rw [e8]; exact h.1, h.2.1, h.2.2.cg e (fun _ _ _ => rfl) rfl (by rw [e8]; have := h.2.2.1.2.2; omega)⟩
theorem hd_rep {A O : Nat} {r : List Int} {w : Int} (hr : r = [] ∨ ∃ r', r = 12 :: r') (hA : w ≠ 10 ∨ A = 0) (hO : w ≠ 11 ∨ O = 0) (h12 : w ≠ 12) : (List.replicate A 10 ++ (List.replicate O 11 ++ r)).head? ≠ some w := by
  cases A with
  | succ A =>
    show (some 10 : Option Int) ≠ some w
    intro e
    have := Option.some.inj e
    omega
  | zero =>
    cases O with
    | succ O =>
      show (some 11 : Option Int) ≠ some w
      intro e
      have := Option.some.inj e
      omega
    | zero =>
      show r.head? ≠ some w
      rcases hr with rfl | ⟨r', rfl⟩
      · exact fun e => by cases e
      · show (some 12 : Option Int) ≠ some w
        intro e
        have := Option.some.inj e
        omega
theorem ref_two (hR : jm_HR gR) {b : Int} (b4 : b ≤ 400) {A O : Nat} {r : List Int} (hA : A ≤ 1) (hO : O ≤ 1) (hr : r = [] ∨ ∃ r', r = 12 :: r') (hn : RN (DL t (b - A - O)) n0 B N P S t m n) (a1 : m.1 1 8 ≤ t) (hst : STK n (List.replicate A 10 ++ (List.replicate O 11 ++ r))) (len : r.length ≤ 30) (o0 : 0 ≤ n.1 0 28) (o8 : n.1 0 28 ≤ 8) {F : jm_M → Prop} (h : ∀ n3, RN (DL t b) n0 B N P S t (AOs 11 O (AOs 10 A m)) n3 → STK n3 r → n3.1 0 28 = n.1 0 28 → jm_ag fsa n n3 → F n3) : jm_R l gR (d + 2) iX12_settles [.ref 0, jm_i 10] n (jm_qv fun m14 => jm_R l gR (d + 2) iX12_settles [.ref 0, jm_i 11] m14 (jm_qv F)) := by
  refine eX12_settles hR (sX12_settles hR (Or.inr (Or.inl ⟨rfl, rfl⟩)) (r := List.replicate O 11 ++ r) (hd_rep (A := 0) hr (Or.inr rfl) (Or.inl (by decide)) (by decide)) (b := b - O) (by omega) A m n _ (by rw [show b - (O : Int) - A = b - A - O by omega]; exact hn) a1 hst (by rw [List.length_append, List.length_replicate]; omega) o0 o8 (fun z => absurd z (by decide)) (fun n2 hn2 st2 e2 ag2 => jm_qvI ?_))
  rw [if_neg (by decide)] at e2
  refine eX12_settles hR (sX12_settles hR (Or.inr (Or.inr ⟨rfl, rfl⟩)) (r := r) (hd_rep (A := 0) (O := 0) hr (Or.inr rfl) (Or.inr rfl) (by decide)) b4 O _ n2 _ hn2 (by rw [AOs_8]; exact a1) st2 (by omega) (by omega) (by omega) (fun z => absurd z (by decide)) (fun n3 hn3 st3 e3 ag3 => jm_qvI (h n3 hn3 st3 ?_ (ag2.tr ag3))))
  rw [if_neg (by decide)] at e3
  omega
def CLM (t M : Int) (m m' : jm_M) : Prop := m.1 49 1 ≤ m'.1 49 1 ∧ m'.1 49 1 + (t - m'.1 1 8) ≤ M ∧ (∀ i, i < m.1 49 1 → m'.1 50 i = m.1 50 i) ∧ m'.1 49 0 = m.1 49 0 ∧ (∀ c, 51 ≤ c → c ≤ 54 → m'.1 c = m.1 c) ∧ m.1 1 8 < m'.1 1 8
theorem d_condl (hC : jm_HC gC) (hR : jm_HR gR) (hp : PHS 1 B N K P S t) {e : Nat} (e8 : e ≤ 8) {o : Int} (ho : o = 8 - e) (hT : TTT l gC gR d m0 n0 B N K P S t e) {M : Int} (M4 : M ≤ 400) (j : Nat) : ∀ (A O i : Nat) (m : jm_M) (Q : Option Value → jm_M → Prop), A ≤ 1 → O ≤ 1 → (t - m.1 1 8).toNat ≤ j → (i : Int) + (t - m.1 1 8) ≤ 400 → CS m0 B K P S t m → m.1 1 8 < t → 0 ≤ m.1 49 1 → m.1 49 1 + (t - m.1 1 8) + ((A + O - 1 : Nat) : Int) ≤ M → (∀ m' z, (z = 0 ∨ z = 1) → jm_ag (fcz z) m0 m' → (z = 1 → CS m0 B K P S t m' ∧ CLM t M m m' ∧ ∀ s0 : List Bool, (s0.length : Int) ≤ 16 + 2 * o → SG (m'.1 50) (m.1 49 1) (m'.1 49 1) (List.replicate A true ++ (List.replicate O true ++ s0)) (true :: s0)) → CCT l gR d n0 B N P S t o A O m m' z → Q (some (jm_i z)) m') → jm_V l gC (d + 8 + 2 * e) iX4_readCondition 7 [(0, .ref 63), (1, jm_i o), (2, jm_i A), (3, jm_i O), (4, jm_i i)] [] m Q := by
  have tb := hp.T
  obtain ⟨D, hD⟩ : ∃ D, d + 8 + 2 * e = D + 2 := ⟨d + 6 + 2 * e, by omega⟩
  rw [hD]
  induction j with
  | zero => intro A O i m Q hA hO hj hi hs at1; omega
  | succ j ih =>
    intro A O i m Q hA hO hj hi hs at1 o0 oM h
    obtain ⟨g2, g3, g4, g5, g7, -, g9, g10⟩ := hs.1
    have hs2 := hs.skip at1
    obtain ⟨m2, em2⟩ : ∃ m2, m2 = jm_wr m 1 8 (m.1 1 8 + 1) := ⟨_, rfl⟩
    rw [← em2] at hs2
    have e82 : m2.1 1 8 = m.1 1 8 + 1 := by rw [em2, jm_wrS]
    have o2 : ∀ c, c ≠ 1 → m2.1 c = m.1 c := fun c hc => by rw [em2]; exact sk_o hc
    have O2 : m2.1 49 1 = m.1 49 1 := by rw [o2 49 (by decide)]
    refine bX4_readCondition_7 hC ⟨⟨by omega, by omega⟩, fun r => by omega, fun _ => sX7_skip (d := D) hC hs.1 tb.2 at1 (jm_qvI ?_)⟩
    rw [← em2]
    refine jm_R.up (hT o m2 _ ho e8 hs2 (by omega) (by omega) (fun m1 z z01 ag1 c1 ct1 => jm_qiI (by rcases z01 with e | e <;> rw [e] <;> exact ⟨by decide, by decide⟩) ⟨fun r => ?_, fun r => ?_⟩)) (by omega)
    · have z1 : z = 1 := by omega
      subst z1
      obtain ⟨cs1, cl1, sg1⟩ := c1 rfl
      have l1 := cl1.1
      have l2 := cl1.2.1
      have l6 := cl1.2.2.2.2.2
      have t1 := cs1.1.2.2.2.2.2.2.2
      obtain ⟨csA, A8, A49, A50, A0, AC, Asg⟩ := AOs1 (kk := 10) hA (Or.inl rfl) cs1
      obtain ⟨csO, O8, O49, O50, O0, OC, Osg⟩ := AOs1 (kk := 11) hO (Or.inr rfl) csA
      obtain ⟨mA, emA⟩ : ∃ mA, mA = AOs 10 A m1 := ⟨_, rfl⟩
      obtain ⟨mO, emO⟩ : ∃ mO, mO = AOs 11 O mA := ⟨_, rfl⟩
      rw [← emA] at csA A8 A49 A50 A0 AC Asg csO O8 O49 O50 O0 OC Osg
      rw [← emO] at csO O8 O49 O50 O0 OC Osg
      have kA : mA.1 3 (mA.1 1 8) = K (m1.1 1 8) := by rw [csA.1.2.1, A8]
      have kO : mO.1 3 (mO.1 1 8) = K (m1.1 1 8) := by rw [csO.1.2.1, O8, A8]
      have g19 := cs1.1.2.2.2.2.2.2.1
      have w5 : ∀ n, PN B N P S t (m1.1 1 8) n → ((n.1 0 16 = 2 ∧ n.1 0 17 = 5) ↔ K (m1.1 1 8) = 305) := fun n hn => hp.eW hn.2.2.2 g19 t1 (w := 5) (by decide)
      have w4 : ∀ n, PN B N P S t (m1.1 1 8) n → ((n.1 0 16 = 2 ∧ n.1 0 17 = 4) ↔ K (m1.1 1 8) = 304) := fun n hn => hp.eW hn.2.2.2 g19 t1 (w := 4) (by decide)
      have lt1 : K (m1.1 1 8) = 304 ∨ K (m1.1 1 8) = 305 → m1.1 1 8 < t := fun q => by
        apply Decidable.byContradiction
        intro z
        have := (hp.end_ g19 t1).2 (by omega)
        omega
      have sgA : ∀ s0 : List Bool, (s0.length : Int) ≤ 16 + 2 * o → SG (mA.1 50) (m.1 49 1) (mA.1 49 1) (List.replicate A true ++ (List.replicate O true ++ s0)) (true :: (List.replicate O true ++ s0)) := fun s0 hs0 => by
        have u := sg1 (List.replicate A true ++ (List.replicate O true ++ s0)) (by simp only [List.length_append, List.length_replicate]; omega)
        rw [O2] at u
        exact (u.cg (fun i _ i1 => A50 i i1)).tr (Asg _ (by simp only [List.length_append, List.length_replicate]; omega))
      have clA : m.1 49 1 ≤ mA.1 49 1 ∧ (∀ i, i < m.1 49 1 → mA.1 50 i = m.1 50 i) ∧ mA.1 49 0 = m.1 49 0 ∧ (∀ c, 51 ≤ c → c ≤ 54 → mA.1 c = m.1 c) := ⟨by omega, fun i hi => by rw [A50 i (by omega), cl1.2.2.1 i (by omega), o2 50 (by decide)], by rw [A0, cl1.2.2.2.1, o2 49 (by decide)], fun c c1 c2 => by rw [AC c c1 c2, cl1.2.2.2.2.1 c c1 c2, o2 c (by omega)]⟩
      have sgO : ∀ s0 : List Bool, (s0.length : Int) ≤ 16 + 2 * o → SG (mO.1 50) (m.1 49 1) (mO.1 49 1) (List.replicate A true ++ (List.replicate O true ++ s0)) (true :: s0) := fun s0 hs0 => ((sgA s0 hs0).cg (fun i _ i1 => O50 i i1)).tr (Osg s0 (by omega))
      have clO : m.1 49 1 ≤ mO.1 49 1 ∧ (∀ i, i < m.1 49 1 → mO.1 50 i = m.1 50 i) ∧ mO.1 49 0 = m.1 49 0 ∧ (∀ c, 51 ≤ c → c ≤ 54 → mO.1 c = m.1 c) := ⟨by omega, fun i hi => by rw [O50 i (by omega), clA.2.1 i hi], by rw [O0, clA.2.2.1], fun c c1 c2 => by rw [OC c c1 c2, clA.2.2.2 c c1 c2]⟩
      -- the reference comes behind the test
      have till : ∀ (b : Int) (r : List Int) (br : Int) (n : jm_M), b ≤ 400 → RN (DL t (b - A - O)) n0 B N P S t m2 n → STK n (List.replicate A 10 ++ (List.replicate O 11 ++ r)) → (r = [] ∨ ∃ r', r = 12 :: r') → n.1 0 28 = o → 0 ≤ br → br ≤ o → (r.length : Int) ≤ 3 * o → ∀ Q' : Option Value → jm_M → Prop, (∀ n1, RN (DL t (b - A - O)) n0 B N P S t m1 n1 → STK n1 (List.replicate A 10 ++ (List.replicate O 11 ++ r)) → n1.1 0 28 = o → jm_ag fsa n n1 → jm_V l gR (d + 24) iX12_readAny 9 [(0, .ref 0), (1, jm_i br), (2, jm_i 0)] [] n1 Q') → jm_V l gR (d + 24) iX12_readAny 9 [(0, .ref 0), (1, jm_i br), (2, jm_i 1)] [] n Q' := by
        intro b r br n b4 hn st hr e28 br0 br1 len Q' hv
        refine ct1 (b - A - O) (by omega) 0 (List.replicate A 10 ++ (List.replicate O 11 ++ r)) br n (by rw [show b - (A : Int) - O - ((0 : Nat) : Int) = b - A - O by omega]; exact hn) st (hd_rep hr (Or.inl (by decide)) (Or.inl (by decide)) (by decide)) e28 (by omega) br0 br1 (by simp only [List.length_append, List.length_replicate]; omega) Q' (fun _ n1 hn1 st1 f28 ag => hv n1 hn1 st1 (by omega) ag) (fun z => absurd z (by decide))
      have key : jm_V l gC (D + 2) iX4_readCondition 47 [(0, .ref 63), (1, jm_i o), (3, jm_i O), (4, jm_i i)] [] mA Q := by
        refine bX4_readCondition_47 hC ⟨⟨by omega, by omega⟩, fun q => ?_, fun q => ?_⟩
        · rw [kA] at q
          have key2 : jm_V l gC (D + 2) iX4_readCondition 85 [(0, .ref 63), (1, jm_i o), (2, jm_i 0), (3, jm_i O), (4, jm_i i)] [] mO Q := by
            refine bX4_readCondition_85 hC ⟨⟨by decide, by decide⟩, fun _ => ⟨⟨by omega, by omega⟩, fun q4 => ?_, fun q4 => ?_⟩, fun r => absurd rfl r⟩
            · rw [kO] at q4
              refine bX4_readCondition_111 hC ⟨⟨by decide, by decide⟩, fun r => absurd rfl r, fun _ => ⟨⟨by decide, by decide⟩, fun r => absurd rfl r, fun _ => ?_⟩⟩
              refine h mO 1 (Or.inr rfl) csO.2 (fun _ => ⟨csO, ⟨clO.1, by omega, clO.2.1, clO.2.2.1, clO.2.2.2, by omega⟩, sgO⟩) (fun b b4 r br n hn st hr e28 br0 br1 len Q' h1 h0 => ?_)
              rw [← em2] at hn
              refine till b r br n b4 hn st hr e28 br0 br1 len Q' (fun n1 hn1 st1 f1 ag => ?_)
              refine bX12_readAny_9 hR ⟨⟨by decide, by decide⟩, fun _ => ⟨fun w => absurd ((w5 n1 hn1.1).1 w) q, fun _ => ⟨fun w => absurd ((w4 n1 hn1.1).1 w) q4, fun _ => ?_⟩⟩, fun r => absurd rfl r⟩
              refine ref_two (d := d + 21) hR b4 hA hO hr hn1 t1 st1 (by omega) (by omega) (by omega) (fun n3 hn3 st3 f3 ag3 => h1 rfl n3 ?_ st3 (by omega) (ag.tr ag3))
              rw [emO, emA]
              exact hn3
            · rw [kO] at q4
              have at3 := lt1 (Or.inl q4)
              refine bX4_readCondition_111 hC ⟨⟨by decide, by decide⟩, fun r => absurd rfl r, fun _ => ⟨⟨by decide, by decide⟩, fun _ => ?_, fun r => absurd r (by decide)⟩⟩
              have nx := ih 0 1 (i + 1) mO Q (by decide) (by decide) (by omega) (by omega) csO (by omega) (by omega) (by omega) (fun m' z z01' ag' c' ct' => h m' z z01' ag' (fun z1 => ?_) (fun b b4 r br n hn st hr e28 br0 br1 len Q' h1 h0 => ?_))
              · rw [show ((i + 1 : Nat) : Int) = (i : Int) + 1 by omega] at nx
                exact nx
              · obtain ⟨cs', cl', sg'⟩ := c' z1
                have c0 := cl'.1
                refine ⟨cs', ⟨by omega, cl'.2.1, fun i hi => by rw [cl'.2.2.1 i (by omega), clO.2.1 i hi], by rw [cl'.2.2.2.1, clO.2.2.1], fun c c1 c2 => by rw [cl'.2.2.2.2.1 c c1 c2, clO.2.2.2 c c1 c2], by have := cl'.2.2.2.2.2; omega⟩, fun s0 hs0 => ?_⟩
                exact ((sgO s0 hs0).cg (fun i _ i1 => cl'.2.2.1 i i1)).tr (sg' s0 hs0)
              · rw [← em2] at hn
                refine till b r br n b4 hn st hr e28 br0 br1 len Q' (fun n1 hn1 st1 f1 ag => ?_)
                refine bX12_readAny_9 hR ⟨⟨by decide, by decide⟩, fun _ => ⟨fun w => absurd ((w5 n1 hn1.1).1 w) q, fun _ => ⟨fun _ => ?_, fun w => absurd ((w4 n1 hn1.1).2 q4) w⟩⟩, fun r => absurd rfl r⟩
                refine ref_two (d := d + 21) hR b4 hA hO hr hn1 t1 st1 (by omega) (by omega) (by omega) (fun n3 hn3 st3 f3 ag3 => ?_)
                rw [← emA, ← emO] at hn3
                have e30 := st3.1
                refine ⟨⟨by omega, by omega⟩, by rw [jm_wrO (by decide)]; exact ⟨by omega, by omega⟩, fun m24 e24 => ?_⟩
                rw [e24]
                refine ref_push (d := d + 20) hR hp hn3 st3 (by omega) (by omega) (fun n4 hn4 st4 f4 ag4 => jm_qvI (ct' b b4 r br n4 ?_ st4 hr (by omega) br0 br1 len Q' (fun z1 n' hn' st' f' ag5 => h1 z1 n' hn' st' f' (((ag.tr ag3).tr ag4).tr ag5)) h0))
                rw [show b - ((0 : Nat) : Int) - ((1 : Nat) : Int) = b - 1 by omega]
                exact hn4
          refine bX4_readCondition_65 hC ⟨⟨by decide, by decide⟩, fun r => absurd rfl r, fun _ => ⟨⟨by omega, by omega⟩, fun q0 => ?_, fun q0 => ?_⟩⟩
          · have e0 : O = 0 := by omega
            subst e0
            rw [show mO = mA from emO] at key2
            exact key2
          · have e1 : O = 1 := by omega
            subst e1
            refine sX3_addOrder hC (by decide) (by decide) (by decide) (by decide) (by omega) (by omega) (jm_qiI ⟨by decide, by decide⟩ ?_)
            rw [show mO = AO mA 11 0 from emO] at key2
            exact key2
        · rw [kA] at q
          have at3 := lt1 (Or.inr q)
          refine bX4_readCondition_65 hC ⟨⟨by decide, by decide⟩, fun _ => bX4_readCondition_85 hC ⟨⟨by decide, by decide⟩, fun r => absurd r (by decide), fun _ => bX4_readCondition_111 hC ⟨⟨by decide, by decide⟩, fun _ => ?_, fun r => absurd r (by decide)⟩⟩, fun r => absurd r (by decide)⟩
          have nx := ih 1 O (i + 1) mA Q (by decide) hO (by omega) (by omega) csA (by omega) (by omega) (by omega) (fun m' z z01' ag' c' ct' => h m' z z01' ag' (fun z1 => ?_) (fun b b4 r br n hn st hr e28 br0 br1 len Q' h1 h0 => ?_))
          · rw [show ((i + 1 : Nat) : Int) = (i : Int) + 1 by omega] at nx
            exact nx
          · obtain ⟨cs', cl', sg'⟩ := c' z1
            have c0 := cl'.1
            refine ⟨cs', ⟨by omega, cl'.2.1, fun i hi => by rw [cl'.2.2.1 i (by omega), clA.2.1 i hi], by rw [cl'.2.2.2.1, clA.2.2.1], fun c c1 c2 => by rw [cl'.2.2.2.2.1 c c1 c2, clA.2.2.2 c c1 c2], by have := cl'.2.2.2.2.2; omega⟩, fun s0 hs0 => ?_⟩
            exact ((sgA s0 hs0).cg (fun i _ i1 => cl'.2.2.1 i i1)).tr (sg' s0 hs0)
          · rw [← em2] at hn
            refine till b r br n b4 hn st hr e28 br0 br1 len Q' (fun n1 hn1 st1 f1 ag => ?_)
            refine bX12_readAny_9 hR ⟨⟨by decide, by decide⟩, fun _ => ⟨fun _ => ?_, fun w => absurd ((w5 n1 hn1.1).2 q) w⟩, fun r => absurd rfl r⟩
            refine eX12_settles hR (sX12_settles (d := d + 21) hR (Or.inr (Or.inl ⟨rfl, rfl⟩)) (r := List.replicate O 11 ++ r) (hd_rep (A := 0) hr (Or.inr rfl) (Or.inl (by decide)) (by decide)) (b := b - O) (by omega) A m1 n1 _ (by rw [show b - (O : Int) - A = b - A - O by omega]; exact hn1) t1 st1 (by rw [List.length_append, List.length_replicate]; omega) (by omega) (by omega) (fun z => absurd z (by decide)) (fun n3 hn3 st3 f3 ag3 => jm_qvI ?_))
            rw [if_neg (by decide)] at f3
            rw [← emA] at hn3
            have e30 := st3.1
            rw [List.length_append, List.length_replicate] at e30
            refine ⟨⟨by omega, by omega⟩, by rw [jm_wrO (by decide)]; exact ⟨by omega, by omega⟩, fun m8 e8' => ?_⟩
            rw [e8']
            refine ref_push (d := d + 20) hR hp hn3 st3 (by omega) (by omega) (fun n4 hn4 st4 f4 ag4 => jm_qvI (ct' b b4 r br n4 ?_ st4 hr (by omega) br0 br1 len Q' (fun z1 n' hn' st' f' ag5 => h1 z1 n' hn' st' f' (((ag.tr ag3).tr ag4).tr ag5)) h0))
            rw [show b - ((1 : Nat) : Int) - (O : Int) = b - O - 1 by omega]
            exact hn4
      refine ⟨⟨by omega, by omega⟩, fun q => ?_, fun q => ?_⟩
      · have e0 : A = 0 := by omega
        subst e0
        rw [show mA = m1 from emA] at key
        exact key
      · have e1 : A = 1 := by omega
        subst e1
        refine sX3_addOrder hC (by decide) (by decide) (by decide) (by decide) (by omega) (by omega) (jm_qiI ⟨by decide, by decide⟩ ?_)
        rw [show mA = AO m1 10 0 from emA] at key
        exact key
    · subst r
      refine h m1 0 z01 ag1 (fun r => absurd r (by decide)) (fun b b4 r br n hn st hr e28 br0 br1 len Q' h1 h0 => ?_)
      rw [← em2] at hn
      exact ct1 (b - A - O) (by omega) 0 (List.replicate A 10 ++ (List.replicate O 11 ++ r)) br n (by rw [show b - (A : Int) - O - ((0 : Nat) : Int) = b - A - O by omega]; exact hn) st (hd_rep hr (Or.inl (by decide)) (Or.inl (by decide)) (by decide)) e28 (by omega) br0 br1 (by simp only [List.length_append, List.length_replicate]; omega) Q' (fun z => absurd z (by decide)) h0
theorem d_cond (hC : jm_HC gC) (hR : jm_HR gR) (hp : PHS 1 B N K P S t) {e : Nat} (hT : TTT l gC gR d m0 n0 B N K P S t e) : CC l gC gR d m0 n0 B N K P S t e := by
  intro o m Q ho e8 hs at1 o0 o1 h
  have tb := hp.T
  have g9 := hs.1.2.2.2.2.2.2.1
  have := d_condl (l := l) hC hR hp e8 ho hT (M := m.1 49 1 + (t - m.1 1 8)) o1 (t - m.1 1 8).toNat 0 0 0 m Q (by decide) (by decide) (Nat.le_refl _) (by omega) hs at1 o0 (by omega) (fun m' z z01 ag c ct => h m' z z01 ag (fun z1 => ?_) ct)
  · obtain ⟨D, hD⟩ : ∃ D, d + 8 + 2 * e = D + 2 := ⟨d + 6 + 2 * e, by omega⟩
    rw [hD] at this ⊢
    exact eX4_readCondition hC this
  · exact c z1
end CO
