section ST
variable {l : Launch} {gC gR : jm_G} {d : Nat} {mu nu m n m0 n0 : jm_M} {v1 v2 v3 v4 v5 v6 : Int} {Q : Option Value → jm_M → Prop} {B B' K P S : Int → Int} {N t a : Int} {k : Nat}
def fsa (c : Nat) (i : Int) : Bool := !((c == 0 && ((14 ≤ i && i ≤ 17) || (27 ≤ i && i ≤ 28) || (30 ≤ i && i ≤ 32))) || c == 14 || c == 15 || c == 16)
theorem fsm_a (h : jm_ag fsm m n) : jm_ag fsa m n := fun c i q => h c i (by
  unfold fsa at q
  unfold fsm
  cases e : ((c == 0 && ((14 ≤ i && i ≤ 17) || i == 27 || i == 31 || i == 32)) || c == 14 || c == 15)
  · rfl
  · exfalso
    simp only [Bool.and_eq_true, Bool.or_eq_true, beq_iff_eq, decide_eq_true_eq] at e
    simp only [Bool.not_eq_true', Bool.or_eq_false_iff, Bool.and_eq_false_iff, decide_eq_false_iff_not, beq_eq_false_iff_ne] at q
    omega)
/-- what waits in the reference: the top first -/
def pstk (f : Int → Int) : List Int → Prop
  | [] => True
  | x :: r => f r.length = x ∧ pstk f r
theorem pstk.cg {f g : Int → Int} : ∀ {r : List Int}, pstk f r → (∀ i : Int, 0 ≤ i → i < r.length → g i = f i) → pstk g r
  | [], _, _ => trivial
  | x :: r, h, e => ⟨by rw [e r.length (by omega) (by rw [List.length_cons]; omega)]; exact h.1, pstk.cg h.2 (fun i a b => e i a (by rw [List.length_cons]; omega))⟩
def STK (n : jm_M) (s : List Int) : Prop := n.1 0 30 = s.length ∧ pstk (n.1 16) s
theorem STK.cg {s : List Int} (h : STK n s) {n' : jm_M} (e1 : n'.1 0 30 = n.1 0 30) (e2 : n'.1 16 = n.1 16) : STK n' s := ⟨by rw [e1]; exact h.1, by rw [e2]; exact h.2⟩
theorem STK.fsm {s : List Int} (h : STK n s) {n' : jm_M} (e : jm_ag fsm n n') : STK n' s := h.cg (e 0 30 rfl) (e.cell (c := 16) (fun _ => rfl))
theorem STK.push {s : List Int} (h : STK n s) (w : Int) : STK (jm_wr (jm_wr n 16 (n.1 0 30) w) 0 30 (n.1 0 30 + 1)) (w :: s) := by
  refine ⟨by rw [jm_wrS, h.1, List.length_cons]; omega, ?_, ?_⟩
  · show (jm_wr (jm_wr n 16 (n.1 0 30) w) 0 30 (n.1 0 30 + 1)).1 16 (s.length : Int) = w
    rw [← h.1, jm_wrO (by decide), jm_wrS]
  · refine h.2.cg (fun i i0 i1 => ?_)
    rw [jm_wrO (by decide), jm_wrI (by have := h.1; omega)]
/-- so many orders more -/
def AOs (kk : Int) : Nat → jm_M → jm_M
  | 0, m => m
  | k + 1, m => AOs kk k (AO m kk 0)
theorem RN.wx {b : Int} (h : RN (DL t b) n0 B N P S t m n) {c : Nat} {i x : Int} (hc : c = 16 ∨ c = 0 ∧ (i = 28 ∨ i = 30)) : RN (DL t b) n0 B N P S t m (jm_wr n c i x) := by
  refine ⟨h.1.wr (by omega), h.2.1.wr ?_, h.2.2.cg (fun _ _ _ => rfl) (fun y y1 y2 => ?_) ?_ h.2.2.1.2.2⟩
  · rcases hc with rfl | ⟨rfl, rfl | rfl⟩ <;> rfl
  · funext z
    exact jm_wrO (by omega)
  · rcases hc with rfl | ⟨rfl, rfl | rfl⟩
    · exact jm_wrO (by decide)
    · exact jm_wrI (by decide)
    · exact jm_wrI (by decide)
theorem ordW {w kk : Int} (hw : w = 9 ∧ kk = 3 ∨ w = 10 ∧ kk = 10 ∨ w = 11 ∧ kk = 11 ∨ w = 6 ∧ kk = 7 ∨ w = 7 ∧ kk = 8 ∨ w = 8 ∧ kk = 9) {op arg : Int → Int} {p : Int} (e : op p = w) : jm_ord kk 0 op arg p 1 := by
  rcases hw with ⟨rfl, rfl⟩ | ⟨rfl, rfl⟩ | ⟨rfl, rfl⟩ | ⟨rfl, rfl⟩ | ⟨rfl, rfl⟩ | ⟨rfl, rfl⟩
  · exact Or.inr (Or.inr (Or.inr (Or.inl ⟨rfl, rfl, e⟩)))
  · exact Or.inr (Or.inr (Or.inr (Or.inr (Or.inr (Or.inr (Or.inr (Or.inr (Or.inr (Or.inr (Or.inl ⟨rfl, rfl, e⟩))))))))))
  · exact Or.inr (Or.inr (Or.inr (Or.inr (Or.inr (Or.inr (Or.inr (Or.inr (Or.inr (Or.inr (Or.inr ⟨rfl, rfl, e⟩))))))))))
  · exact Or.inr (Or.inr (Or.inr (Or.inr (Or.inr (Or.inr (Or.inr (Or.inl ⟨rfl, rfl, e⟩)))))))
  · exact Or.inr (Or.inr (Or.inr (Or.inr (Or.inr (Or.inr (Or.inr (Or.inr (Or.inl ⟨rfl, rfl, e⟩))))))))
  · exact Or.inr (Or.inr (Or.inr (Or.inr (Or.inr (Or.inr (Or.inr (Or.inr (Or.inr (Or.inl ⟨rfl, rfl, e⟩)))))))))
theorem RN.em {b : Int} (h : RN (DL t (b - 1)) n0 B N P S t m n) {w kk : Int} (hw : w = 9 ∧ kk = 3 ∨ w = 10 ∧ kk = 10 ∨ w = 11 ∧ kk = 11 ∨ w = 6 ∧ kk = 7 ∨ w = 7 ∧ kk = 8 ∨ w = 8 ∧ kk = 9) : RN (DL t b) n0 B N P S t (AO m kk 0) (EM n w 0) :=
  ⟨by rw [AO_c (by decide)]; exact EM_pn h.1, EM_fr h.2.1 h.2.2.1.2.1, DL.one h.2.2 (by omega) (by decide) (by decide) (fun op arg e1 e2 => ordW hw e1)⟩
theorem sX12_settles (hR : jm_HR gR) {w kk : Int} (hw : w = 9 ∧ kk = 3 ∨ w = 10 ∧ kk = 10 ∨ w = 11 ∧ kk = 11) {r : List Int} (hr : r.head? ≠ some w) {b : Int} (b4 : b ≤ 400) : ∀ (k : Nat) (m n : jm_M) (Q : Option Value → jm_M → Prop), RN (DL t (b - k)) n0 B N P S t m n → m.1 1 8 ≤ t → STK n (List.replicate k w ++ r) → k + r.length ≤ 39 → 0 ≤ n.1 0 28 → n.1 0 28 ≤ 8 → (w = 9 → (k : Int) ≤ n.1 0 28) → (∀ n', RN (DL t b) n0 B N P S t (AOs kk k m) n' → STK n' r → n'.1 0 28 = n.1 0 28 - (if w = 9 then (k : Int) else 0) → jm_ag fsa n n' → Q none n') → jm_V l gR (d + 2) iX12_settles 0 [(0, .ref 0), (1, jm_i w)] [] n Q := by
  have rgw : jm_rg w := ⟨by omega, by omega⟩
  intro k
  induction k with
  | zero =>
    intro m n Q hn a1 hst hl o0 o8 ok h
    have hst : STK n r := hst
    rw [show b - ((0 : Nat) : Int) = b by omega] at hn
    have fin : Q none n := h n hn hst (by rw [show (if w = 9 then ((0 : Nat) : Int) else 0) = 0 by split <;> rfl]; omega) jm_ag.rf
    have e30 := hst.1
    refine bX12_settles_0 hR ⟨fun _ => fin, fun pos => ⟨⟨by omega, by omega⟩, rgw, fun _ => fin, fun e => ?_⟩⟩
    exfalso
    cases r with
    | nil => rw [List.length_nil] at e30; omega
    | cons x r' =>
      rw [List.length_cons] at e30
      have t1 := hst.2.1
      rw [show n.1 0 30 - 1 = (r'.length : Int) by omega, t1] at e
      exact hr (by rw [e]; rfl)
  | succ k ih =>
    intro m n Q hn a1 hst hl o0 o8 ok h
    have hst : STK n (w :: (List.replicate k w ++ r)) := hst
    have e30 := hst.1
    have e : n.1 0 30 - 1 = (((List.replicate k w ++ r).length : Nat) : Int) := by
      rw [List.length_cons] at e30
      omega
    simp only [List.length_cons, List.length_append, List.length_replicate] at e30
    have top : n.1 16 (n.1 0 30 - 1) = w := by
      rw [e]
      exact hst.2.1
    refine bX12_settles_0 hR ⟨fun q => by omega, fun _ => ⟨⟨by omega, by omega⟩, rgw, fun q => absurd top q, fun _ => ⟨⟨by omega, by omega⟩, fun m4 e4 => ?_⟩⟩⟩
    have h4 : RN (DL t (b - (k + 1 : Nat))) n0 B N P S t m m4 := by
      rw [e4]
      exact hn.wx (Or.inr ⟨rfl, Or.inr rfl⟩)
    have cb := h4.2.2.1
    refine ⟨⟨by omega, by omega⟩, by rw [w27]; exact ⟨by omega, by omega⟩, by rw [w27']; exact ⟨by omega, by omega⟩, fun m9 e9 => ?_⟩
    rw [w27', w27] at e9
    have e9 : m9 = EM m4 w 0 := e9
    have h9 : RN (DL t (b - k)) n0 B N P S t (AO m kk 0) m9 := by
      rw [e9]
      exact RN.em (by rw [show b - (k : Int) - 1 = b - (k + 1 : Nat) by omega]; exact h4) (by omega)
    have c16 : m9.1 16 = n.1 16 := by
      funext y
      rw [e9, EM_u (by omega), e4, jm_wrO (by decide)]
    have s9 : STK m9 (List.replicate k w ++ r) := ⟨by rw [e9, EM_u (by decide), e4, jm_wrS, e], by rw [c16]; exact hst.2.2⟩
    have c28 : m9.1 0 28 = n.1 0 28 := by rw [e9, EM_u (by decide), e4, jm_wrI (by decide)]
    have ag9 : jm_ag fsa n m9 := by
      rw [e9, e4]
      exact ((jm_ag.rf).wr rfl).tr (fsm_a EM_s)
    have a8 : (AO m kk 0).1 1 8 ≤ t := by
      rw [AO_c (by decide)]
      exact a1
    refine ⟨fun q9 => ?_, fun q9 => ⟨⟨by omega, by omega⟩, fun m12 e12 => ?_⟩⟩
    · refine ih (AO m kk 0) m9 Q h9 a8 s9 (by omega) (by omega) (by omega) (fun z => absurd z q9) (fun n' r' st' f28 ag' => h n' r' st' ?_ (ag9.tr ag'))
      rw [if_neg q9] at f28 ⊢
      omega
    · have h12 : RN (DL t (b - k)) n0 B N P S t (AO m kk 0) m12 := by
        rw [e12]
        exact h9.wx (Or.inr ⟨rfl, Or.inl rfl⟩)
      have s12 : STK m12 (List.replicate k w ++ r) := s9.cg (by rw [e12, jm_wrI (by decide)]) (by rw [e12]; funext y; rw [jm_wrO (by decide)])
      have f12 : m12.1 0 28 = n.1 0 28 - 1 := by rw [e12, jm_wrS, c28]
      have g9 := ok q9
      refine ih (AO m kk 0) m12 Q h12 a8 s12 (by omega) (by omega) (by omega) (fun _ => by omega) (fun n' r' st' f28 ag' => h n' r' st' ?_ (ag9.tr (by rw [e12] at ag'; exact ((jm_ag.rf).wr rfl).tr ag')))
      rw [if_pos q9] at f28 ⊢
      omega
/-- what waits, and the next token -/
theorem ref_push (hR : jm_HR gR) (hp : PHS 1 B N K P S t) {b w : Int} {s : List Int} (hn : RN (DL t b) n0 B N P S t m n) (hs : STK n s) (g9 : 0 ≤ m.1 1 8) (at1 : m.1 1 8 < t) (h : ∀ n', RN (DL t (b - 1)) n0 B N P S t (jm_wr m 1 8 (m.1 1 8 + 1)) n' → STK n' (w :: s) → n'.1 0 28 = n.1 0 28 → jm_ag fsa n n' → Q none n') : jm_R l gR (d + 3) iX12_reads [.ref 0] (jm_wr (jm_wr n 16 (n.1 0 30) w) 0 30 ((jm_wr n 16 (n.1 0 30) w).1 0 30 + 1)) Q := by
  rw [show (jm_wr n 16 (n.1 0 30) w).1 0 30 = n.1 0 30 from jm_wrO (by decide)]
  have h4 : RN (DL t b) n0 B N P S t m (jm_wr (jm_wr n 16 (n.1 0 30) w) 0 30 (n.1 0 30 + 1)) := (hn.wx (Or.inl rfl)).wx (Or.inr ⟨rfl, Or.inr rfl⟩)
  have s4 := hs.push w
  have a4 : jm_ag fsa n (jm_wr (jm_wr n 16 (n.1 0 30) w) 0 30 (n.1 0 30 + 1)) := ((jm_ag.rf).wr rfl).wr rfl
  have e28 : (jm_wr (jm_wr n 16 (n.1 0 30) w) 0 30 (n.1 0 30 + 1)).1 0 28 = n.1 0 28 := by rw [jm_wrI (by decide), jm_wrO (by decide)]
  refine sX12_next hR hp h4.1 g9 at1 (fun n2 a2 p2 => h n2 ⟨by rw [jm_wrS]; exact p2, h4.2.1.tr (frd_x a2), RN.next h4.2.2 rfl a2⟩ (s4.fsm (frd_s a2)) ?_ (a4.tr (fsm_a (frd_s a2))))
  rw [frd_27 a2 (by decide), e28]
theorem sX4_comp (hC : jm_HC gC) (r : jm_rg v1) (h1 : ∀ ro co : Int, (v1 = 60 ∧ ro = 6 ∧ co = 7 ∨ v1 = 61 ∧ ro = 7 ∧ co = 8 ∨ v1 = 62 ∧ ro = 8 ∧ co = 9) → Q (some (jm_i co)) m) (h0 : v1 < 60 ∨ 62 < v1 → Q (some (jm_i (-1))) m) : jm_R l gC (d + 1) iX4_comparisonOf [jm_i v1] m Q :=
  eX4_comparisonOf hC ⟨r, fun q => h1 6 7 (Or.inl ⟨q, rfl, rfl⟩), fun q => h1 7 8 (Or.inr (Or.inl ⟨q, rfl, rfl⟩)), fun q => h1 8 9 (Or.inr (Or.inr ⟨q, rfl, rfl⟩)), h0⟩
theorem d_comp (hC : jm_HC gC) (hR : jm_HR gR) (hp : PHS 1 B N K P S t) (hs : CS m0 B K P S t m) (o0 : 0 ≤ m.1 49 1) (o1 : m.1 49 1 + (t - m.1 1 8) ≤ 400) {o v : Int} (rv : jm_rg v) (n40 : ¬ v = 40) (n306 : ¬ v = 306) (h : ∀ m' z, (z = 0 ∨ z = 1) → jm_ag (fcz z) m0 m' → (z = 1 → CS m0 B K P S t m' ∧ CLR t m m' ∧ ∀ s0 : List Bool, s0.length ≤ 36 → SG (m'.1 50) (m.1 49 1) (m'.1 49 1) s0 (true :: s0)) → LCT l gR (d + 7) n0 B N P S t iX12_readCompared m m' z → Q (some (jm_i z)) m') : jm_V l gC (d + 7) iX4_readTest 36 [(0, .ref 63), (1, jm_i o), (2, jm_i v)] [] m Q := by
  have tb := hp.T
  refine bX4_readTest_36 hC ⟨rv, fun _ => ⟨fun _ => ?_, fun r => absurd r n306⟩, fun r => absurd r n40⟩
  refine d_sum (n0 := n0) (d := d) hC hR hp hs o0 o1 (fun m1 z z01 ag1 c1 ct1 => jm_qiI (by rcases z01 with e | e <;> rw [e] <;> exact ⟨by decide, by decide⟩) ⟨fun r => ?_, fun r => ?_⟩)
  · have z1 : z = 1 := by omega
    obtain ⟨cs1, cl1, sg1⟩ := c1 z1
    have l1 := cl1.2.1
    have l2 := cl1.2.2.2.2.2
    have l3 := cl1.1
    obtain ⟨g2, g3, g4, g5, g7, -, g9, g10⟩ := cs1.1
    have kb : jm_rg (K (m1.1 1 8)) := by
      by_cases q : m1.1 1 8 = t
      · rw [(hp.end_ g9 g10).2 q]; exact ⟨by decide, by decide⟩
      · have := (hp.kb g9 (show m1.1 1 8 < t by omega)).1
        exact ⟨by omega, by omega⟩
    have s60 : ∀ n, PN B N P S t (m1.1 1 8) n → ((n.1 0 16 = 4 ∧ n.1 0 17 = 60) ↔ K (m1.1 1 8) = 60) := fun n hn => hp.eS hn.2.2.2 g9 g10 (x := 60) (by unfold isM; omega)
    have s61 : ∀ n, PN B N P S t (m1.1 1 8) n → ((n.1 0 16 = 4 ∧ n.1 0 17 = 61) ↔ K (m1.1 1 8) = 61) := fun n hn => hp.eS hn.2.2.2 g9 g10 (x := 61) (by unfold isM; omega)
    have s62 : ∀ n, PN B N P S t (m1.1 1 8) n → ((n.1 0 16 = 4 ∧ n.1 0 17 = 62) ↔ K (m1.1 1 8) = 62) := fun n hn => hp.eS hn.2.2.2 g9 g10 (x := 62) (by unfold isM; omega)
    refine ⟨⟨by omega, by omega⟩, ?_⟩
    rw [g3]
    refine sX4_comp (d := d + 5) hC kb (fun ro co hk => jm_qiI ⟨by omega, by omega⟩ ⟨fun _ => ?_, fun r => by omega⟩) (fun hk => jm_qiI ⟨by decide, by decide⟩ ⟨fun r => absurd rfl r, fun _ => ⟨?_, fun m24 e24 => ?_⟩⟩)
    · have at1 : m1.1 1 8 < t := by
        apply Decidable.byContradiction
        intro z
        have := (hp.end_ g9 g10).2 (by omega)
        omega
      have hs2 := cs1.skip at1
      obtain ⟨m2, em2⟩ : ∃ m2, m2 = jm_wr m1 1 8 (m1.1 1 8 + 1) := ⟨_, rfl⟩
      rw [← em2] at hs2
      have e8 : m2.1 1 8 = m1.1 1 8 + 1 := by rw [em2, jm_wrS]
      have o2 : ∀ c, c ≠ 1 → m2.1 c = m1.1 c := fun c hc => by rw [em2]; exact sk_o hc
      have cle2 : CLE t m1 m2 := ⟨by rw [o2 49 (by decide)]; omega, by rw [o2 49 (by decide), e8]; omega, fun i _ => by rw [o2 50 (by decide)], by rw [o2 49 (by decide)], fun c c1 c2 => o2 c (by omega), by omega⟩
      have O2 : m2.1 49 1 = m1.1 49 1 := by rw [o2 49 (by decide)]
      refine sX7_skip (d := d + 5) hC cs1.1 tb.2 at1 (jm_qvI ?_)
      rw [← em2]
      have till : ∀ b n, RN (DL t b) n0 B N P S t m n → b ≤ 400 → ∀ Q' : Option Value → jm_M → Prop, (∀ n1, RN (DL t b) n0 B N P S t m1 n1 → jm_ag fsm n n1 → jm_V l gR (d + 7) iX12_readCompared 73 [(0, .ref 0)] [jm_i ro] n1 Q') → jm_R l gR (d + 7) iX12_readCompared [.ref 0] n Q' := by
        intro b n hn hb Q' hv
        refine eX12_readCompared hR (ct1 b hb n hn _ (fun _ n1 hn1 f1 => jm_qiI ⟨by decide, by decide⟩ ⟨fun _ => ?_, fun r => absurd r (by decide)⟩) (fun r => absurd r (by omega)))
        have hv := hv n1 hn1 f1
        have t60 := s60 n1 hn1.1
        have t61 := s61 n1 hn1.1
        have t62 := s62 n1 hn1.1
        have v43 : jm_V l gR (d + 7) iX12_readCompared 43 [(0, .ref 0)] [] n1 Q' := by
          refine bX12_readCompared_43 hR ⟨fun q1 => ⟨fun q2 => ?_, fun q2 => ?_⟩, fun q1 => ?_⟩
          · have e : ro = 8 := by
              rcases hk with hk | hk | hk
              · exact absurd (t60.2 hk.1).2 q1
              · exact absurd (t61.2 hk.1).2 q2
              · exact hk.2.1
            rw [e] at hv
            exact hv
          · have e : ro = 7 := by
              rcases hk with hk | hk | hk
              · exact absurd (t60.2 hk.1).2 q1
              · exact hk.2.1
              · have := (t62.2 hk.1).2
                omega
            rw [e] at hv
            exact hv
          · have e : ro = 6 := by
              rcases hk with hk | hk | hk
              · exact hk.2.1
              · have := (t61.2 hk.1).2
                omega
              · have := (t62.2 hk.1).2
                omega
            rw [e] at hv
            exact hv
        refine ⟨fun _ => v43, fun q1 => ⟨fun _ => v43, fun q2 => ⟨fun _ => v43, fun q3 => ?_⟩⟩⟩
        exfalso
        rcases hk with hk | hk | hk
        · exact q1 (t60.2 hk.1)
        · exact q2 (t61.2 hk.1)
        · exact q3 (t62.2 hk.1)
      refine d_sum (n0 := n0) (d := d) hC hR hp hs2 (by omega) (by omega) (fun m3 z z01 ag3 c3 ct3 => jm_qiI (by rcases z01 with e | e <;> rw [e] <;> exact ⟨by decide, by decide⟩) ⟨fun r => ?_, fun r => ?_⟩)
      · subst r
        exact h m3 0 z01 ag3 (fun r => absurd r (by decide)) (fun b hb n hn Q' h1 h0 => till b n hn hb Q' (fun n1 hn1 f1 => bX12_readCompared_73 hR (sX12_next (d := d + 3) hR hp hn1.1 g9 at1 (fun n2 a2 p2 => jm_qvI (ct3 (b - 1) (by omega) n2 ⟨by rw [e8]; exact p2, hn1.2.1.tr (frd_x a2), RN.next hn1.2.2 em2 a2⟩ _ (fun r => absurd r (by decide)) (fun _ n3 en3 => jm_qiI ⟨by decide, by decide⟩ ⟨fun r => absurd rfl r, fun _ => h0 rfl n3 en3⟩))))))
      · have z1 : z = 1 := by omega
        obtain ⟨cs3, cl3, sg3⟩ := c3 z1
        have k1 := cl3.2.1
        have k2 := cl3.2.2.2.2.2
        have k3 := cl3.1
        have t3 := cs3.1.2.2.2.2.2.2.2
        refine sX3_addOrder hC (by omega) (by omega) (by decide) (by decide) (by omega) (by omega) (jm_qiI ⟨by decide, by decide⟩ ⟨fun r => absurd r (by decide), fun _ => ?_⟩)
        have hcs := AO_cs (kk := co) (v := 0) cs3
        obtain ⟨m4, em4⟩ : ∃ m4, m4 = AO m3 co 0 := ⟨_, rfl⟩
        rw [← em4] at hcs ⊢
        have h8 : m4.1 1 8 = m3.1 1 8 := by rw [em4, AO_c (by decide)]
        have O4 : m4.1 49 1 = m3.1 49 1 + 1 := by rw [em4, AO_o]
        have cl13 : CLE t m1 m3 := cle2.tr cl3.le
        refine h m4 1 (Or.inr rfl) hcs.2 (fun _ => ⟨hcs, ?_, fun s0 hs0 => ?_⟩) (fun b hb n hn Q' h1 h0 => till b n hn hb Q' (fun n1 hn1 f1 => bX12_readCompared_73 hR (sX12_next (d := d + 3) hR hp hn1.1 g9 at1 (fun n2 a2 p2 => jm_qvI (ct3 (b - 1) (by omega) n2 ⟨by rw [e8]; exact p2, hn1.2.1.tr (frd_x a2), RN.next hn1.2.2 em2 a2⟩ _ (fun _ n3 hn3 f3 => jm_qiI ⟨by decide, by decide⟩ ⟨fun _ => ?_, fun r => absurd r (by decide)⟩) (fun r => absurd r (by omega)))))))
        · have c := cl1.le.tr cl13
          exact ⟨by have := c.1; omega, by omega, fun i hi => by rw [em4, AO_50, if_neg (by have := c.1; omega)]; exact c.2.2.1 i hi, by rw [em4, AO_u ⟨by decide, by decide⟩]; exact c.2.2.2.1, fun x c1 c2 => by rw [em4, AO_c (by omega)]; exact c.2.2.2.2.1 x c1 c2, by omega⟩
        · have u1 := SG.cl cl13 (sg1 s0 (by omega))
          have u3 := sg3 (false :: s0) (by rw [List.length_cons]; omega)
          rw [O2] at u3
          have u4 : SG (m4.1 50) (m.1 49 1) (m3.1 49 1) s0 (false :: false :: s0) := (u1.tr u3).cg (fun i i0 i1 => by rw [em4, AO_50, if_neg (by omega)])
          refine u4.tr ?_
          rw [O4, em4]
          exact AO_sg (by decide) (by decide) (Or.inr (Or.inr (Or.inr (Or.inr (Or.inl ⟨by omega, s0, rfl, rfl⟩))))) (by show s0.length + 1 + 1 ≤ 40; omega)
        · have cb := hn3.2.2.1
          have f8 := cs3.1.2.2.2.2.2.2.2
          refine ⟨⟨by omega, by omega⟩, ⟨by omega, by omega⟩, by rw [w27]; exact ⟨by omega, by omega⟩, by rw [w27']; exact ⟨by omega, by omega⟩, fun m14 e14 => ?_⟩
          rw [w27', w27] at e14
          have e14 : m14 = EM n3 ro 0 := e14
          rw [e14]
          refine h1 rfl (EM n3 ro 0) ?_ ((f1.tr (frd_s a2)).tr (f3.tr EM_s))
          rw [em4]
          exact RN.em hn3 (by omega)
    · rw [RF_8 cs1.1 1]
      exact ⟨by omega, by omega⟩
    · rw [RF_e cs1.1] at e24
      rw [e24]
      refine h _ 0 (Or.inl rfl) (cs1.rf _ _) (fun r => absurd r (by decide)) (fun b hb n hn Q' h1 h0 => eX12_readCompared hR (ct1 b hb n hn _ (fun _ n1 hn1 f1 => jm_qiI ⟨by decide, by decide⟩ ⟨fun _ => ?_, fun r => absurd r (by decide)⟩) (fun r => absurd r (by omega))))
      refine ⟨fun r => by have := (s60 n1 hn1.1).1 r; omega, fun _ => ⟨fun r => by have := (s61 n1 hn1.1).1 r; omega, fun _ => ⟨fun r => by have := (s62 n1 hn1.1).1 r; omega, fun _ m5 e5 => ?_⟩⟩⟩
      rw [RR_e hn1.1] at e5
      rw [e5]
      exact h0 rfl _ (EN_rf hn1.2.1 _ _)
  · subst r
    exact h m1 0 z01 ag1 (fun r => absurd r (by decide)) (fun b hb n hn Q' h1 h0 => eX12_readCompared hR (ct1 b hb n hn _ (fun r => absurd r (by decide)) (fun _ n1 en1 => jm_qiI ⟨by decide, by decide⟩ ⟨fun r => absurd rfl r, fun _ => h0 rfl n1 en1⟩)))
end ST
