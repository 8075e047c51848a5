section PS
variable {l : Launch} {gC gR : jm_G} {d : Nat} {mu nu m n m0 n0 m' n' : jm_M} {v1 v2 v3 v4 v5 v6 : Int} {Q : Option Value → jm_M → Prop} {B B' K P S : Int → Int} {N t a W : Int} {st st' f g : Int → Int}
abbrev pF : Type := Int × Int × List pD
/-- all deeds, as agains that are open stand -/
def ALL : List pF → List pD → List pD
  | [], cur => cur
  | x :: r, cur => ALL r x.2.2 ++ cur
theorem ALL_app : ∀ (s : List pF) (a b : List pD), ALL s (a ++ b) = ALL s a ++ b
  | [], _, _ => rfl
  | x :: r, a, b => (List.append_assoc _ _ _).symm
def PST (l : Launch) (gR : jm_G) (d : Nat) (st : Int → Int) : List pF → Int → List pD → Prop
  | [], q, cur => SEGv l gR d st 0 q cur 4
  | x :: r, q, cur => (0 ≤ x.1 ∧ x.1 < q ∧ st (4 * x.1) = 3 ∧ st (4 * x.1 + 1) = x.2.1 ∧ 1 ≤ x.2.1 ∧ x.2.1 ≤ 9) ∧ SEGv l gR d st (x.1 + 1) q cur (4 - (r.length + 1)) ∧ PST l gR d st r x.1 x.2.2
theorem PST.cg : ∀ {s : List pF} {q : Int} {cur : List pD}, PST l gR d st s q cur → (∀ x, x < 4 * q → st' x = st x) → PST l gR d st' s q cur
  | [], q, cur, h, e => SEGv.cg h (fun x _ x1 => e x x1)
  | x :: r, q, cur, ⟨h1, h2, h3⟩, e => ⟨⟨h1.1, h1.2.1, by rw [e _ (by have := h1.2.1; omega)]; exact h1.2.2.1, by rw [e _ (by have := h1.2.1; omega)]; exact h1.2.2.2.1, h1.2.2.2.2⟩, h2.cg (fun x _ x1 => e x x1), PST.cg h3 (fun x hx => e x (by have := h1.2.1; omega))⟩
theorem PST.snoc : ∀ {s : List pF} {q q' : Int} {cur L : List pD}, PST l gR d st s q cur → SEGv l gR d st q q' L (4 - s.length) → PST l gR d st s q' (cur ++ L)
  | [], q, q', cur, L, h, e => SEGv.app h e
  | x :: r, q, q', cur, L, ⟨h1, h2, h3⟩, e => ⟨⟨h1.1, by have := h1.2.1; have := e.1; omega, h1.2.2⟩, h2.app e, h3⟩
def CST (m : jm_M) : List pF → Prop
  | [] => True
  | x :: r => m.1 61 r.length = (ALL r x.2.2).length ∧ m.1 62 r.length = x.2.1 ∧ CST m r
theorem CST.cg : ∀ {s : List pF}, CST m s → (∀ i : Nat, i < s.length → m'.1 61 i = m.1 61 i ∧ m'.1 62 i = m.1 62 i) → CST m' s
  | [], _, _ => trivial
  | x :: r, ⟨h1, h2, h3⟩, e => ⟨by rw [(e r.length (by rw [List.length_cons]; omega)).1]; exact h1, by rw [(e r.length (by rw [List.length_cons]; omega)).2]; exact h2, CST.cg h3 (fun i hi => e i (by rw [List.length_cons]; omega))⟩
def DED (m : jm_M) (A : List pD) (W : Int) : Prop := ∀ (k : Nat) (x : pD), k < 60 → A[k]? = some x → jm_deed (m.1 57 k) (m.1 58 k) (m.1 59 k) (m.1 60 k) x.1 x.2.1 x.2.2.1 x.2.2.2 W
/-- the drafts of a plan in both -/
def DP (l : Launch) (gR : jm_G) (d : Nat) (P S : Int → Int) (W : Int) (m n : jm_M) : Prop := ∃ (s : List pF) (cur : List pD), PST l gR d (n.1 18) s (n.1 0 38) cur ∧ CST m s ∧ m.1 56 0 = (ALL s cur).length ∧ m.1 56 7 = s.length ∧ n.1 0 28 = s.length ∧ DED m (ALL s cur) W ∧ 0 ≤ n.1 0 38 ∧ 4 * n.1 0 38 + 3 * (s.length : Int) ≤ eB P S (m.1 1 8)
theorem DP.o (h : DP l gR d P S W m n) : n.1 0 28 = m.1 56 7 ∧ 0 ≤ n.1 0 38 ∧ 4 * n.1 0 38 + 3 * n.1 0 28 ≤ eB P S (m.1 1 8) ∧ 0 ≤ n.1 0 28 := by
  obtain ⟨s, cur, h1, h2, h3, h4, h5, h6, h7, h8⟩ := h
  exact ⟨by omega, h7, by omega, by omega⟩
/-- a deed more -/
theorem DP.add (hR : jm_HR gR) (h : DP l gR d P S W m n) (c0 : m'.1 56 0 = m.1 56 0 + 1) (c7 : m'.1 56 7 = m.1 56 7) (cy : ∀ y, y = 61 ∨ y = 62 → m'.1 y = m.1 y) (cx : ∀ x, ¬ x = m.1 56 0 → m'.1 57 x = m.1 57 x ∧ m'.1 58 x = m.1 58 x ∧ m'.1 59 x = m.1 59 x ∧ m'.1 60 x = m.1 60 x) (r38 : n'.1 0 38 = n.1 0 38 + 1) (r28 : n'.1 0 28 = n.1 0 28) (rl : ∀ x, x < 4 * n.1 0 38 → n'.1 18 x = n.1 18 x) (k3 : ¬ n'.1 18 (4 * n.1 0 38) = 3) (k4 : ¬ n'.1 18 (4 * n.1 0 38) = 4) (hd : m.1 56 0 < 60 → jm_deed (m'.1 57 (m.1 56 0)) (m'.1 58 (m.1 56 0)) (m'.1 59 (m.1 56 0)) (m'.1 60 (m.1 56 0)) (n'.1 18 (4 * n.1 0 38)) (n'.1 18 (4 * n.1 0 38 + 1)) (n'.1 18 (4 * n.1 0 38 + 2)) (n'.1 18 (4 * n.1 0 38 + 3)) W) (hb : eB P S (m.1 1 8) + 4 ≤ eB P S (m'.1 1 8)) : DP l gR d P S W m' n' := by
  obtain ⟨s, cur, h1, h2, h3, h4, h5, h6, h7, h8⟩ := h
  obtain ⟨x, ex⟩ : ∃ x : pD, x = (n'.1 18 (4 * n.1 0 38), n'.1 18 (4 * n.1 0 38 + 1), n'.1 18 (4 * n.1 0 38 + 2), n'.1 18 (4 * n.1 0 38 + 3)) := ⟨_, rfl⟩
  refine ⟨s, cur ++ [x], ?_, h2.cg (fun i hi => ⟨by rw [cy 61 (Or.inl rfl)], by rw [cy 62 (Or.inr rfl)]⟩), ?_, by omega, by omega, ?_, by omega, by omega⟩
  · rw [r38, ex]
    exact (h1.cg rl).snoc (SEGv.one hR h7 k3 k4)
  · rw [ALL_app, List.length_append, c0, h3]
    rfl
  · rw [ALL_app]
    intro k y k60 hy
    by_cases hk : k < (ALL s cur).length
    · rw [List.getElem?_append_left hk] at hy
      obtain ⟨a1, a2, a3, a4⟩ := cx k (by omega)
      rw [a1, a2, a3, a4]
      exact h6 k y k60 hy
    · rw [List.getElem?_append_right (by omega)] at hy
      have hk0 : k - (ALL s cur).length = 0 := by
        have := (List.getElem?_eq_some_iff.mp hy).1
        simp at this
        omega
      rw [hk0] at hy
      have hy := Option.some.inj hy
      have ek : (k : Int) = m.1 56 0 := by omega
      rw [ek, ← hy, ex]
      exact hd (by omega)
/-- an again that opens -/
theorem DP.open_ (h : DP l gR d P S W m n) {tm : Int} (t1 : 1 ≤ tm) (t9 : tm ≤ 9) (c0 : m'.1 56 0 = m.1 56 0) (c7 : m'.1 56 7 = m.1 56 7 + 1) (c61 : ∀ x, ¬ x = m.1 56 7 → m'.1 61 x = m.1 61 x) (c62 : ∀ x, ¬ x = m.1 56 7 → m'.1 62 x = m.1 62 x) (d61 : m'.1 61 (m.1 56 7) = m.1 56 0) (d62 : m'.1 62 (m.1 56 7) = tm) (cy : ∀ y, 57 ≤ y → y ≤ 60 → m'.1 y = m.1 y) (r38 : n'.1 0 38 = n.1 0 38 + 1) (r28 : n'.1 0 28 = n.1 0 28 + 1) (rl : ∀ x, x < 4 * n.1 0 38 → n'.1 18 x = n.1 18 x) (k3 : n'.1 18 (4 * n.1 0 38) = 3) (k4 : n'.1 18 (4 * n.1 0 38 + 1) = tm) (hb : eB P S (m.1 1 8) + 7 ≤ eB P S (m'.1 1 8)) : DP l gR d P S W m' n' := by
  obtain ⟨s, cur, h1, h2, h3, h4, h5, h6, h7, h8⟩ := h
  have e : ALL ((n.1 0 38, tm, cur) :: s) [] = ALL s cur := List.append_nil _
  refine ⟨(n.1 0 38, tm, cur) :: s, [], ⟨⟨h7, by omega, k3, k4, t1, t9⟩, ?_, h1.cg rl⟩, ⟨?_, ?_, h2.cg (fun i hi => ⟨c61 _ (by omega), c62 _ (by omega)⟩)⟩, by rw [e, c0, h3], by rw [List.length_cons]; omega, by rw [List.length_cons]; omega, ?_, by omega, by rw [List.length_cons]; omega⟩
  · show SEGv l gR d (n'.1 18) (n.1 0 38 + 1) (n'.1 0 38) [] _
    rw [r38]
    exact SEGv.nil (by omega)
  · rw [← h4, d61, h3]
  · rw [← h4, d62]
  · rw [e]
    intro k x k60 hx
    rw [cy 57 (by decide) (by decide), cy 58 (by decide) (by decide), cy 59 (by decide) (by decide), cy 60 (by decide) (by decide)]
    exact h6 k x k60 hx
theorem prep_comm (L : List pD) : ∀ r : Nat, prep (r + 1) L = prep r L ++ L
  | 0 => by
    show L ++ [] = [] ++ L
    rw [List.append_nil, List.nil_append]
  | r + 1 => by
    show L ++ prep (r + 1) L = (L ++ prep r L) ++ L
    rw [prep_comm L r, List.append_assoc]
theorem prep_per (A L : List pD) (r k : Nat) (h1 : A.length + L.length ≤ k) (h2 : k < A.length + (prep (r + 1) L).length) : (A ++ prep (r + 1) L)[k]? = (A ++ prep (r + 1) L)[k - L.length]? := by
  have hl : (prep (r + 1) L).length = (prep r L).length + L.length := by rw [prep_comm, List.length_append]
  have e1 : (A ++ prep (r + 1) L)[k]? = (prep r L)[k - A.length - L.length]? := by
    rw [List.getElem?_append_right (by omega)]
    show (L ++ prep r L)[k - A.length]? = _
    rw [List.getElem?_append_right (by omega)]
  have e2 : (A ++ prep (r + 1) L)[k - L.length]? = (prep r L)[k - L.length - A.length]? := by
    rw [List.getElem?_append_right (by omega), prep_comm, List.getElem?_append_left (by omega)]
  rw [e1, e2, show k - A.length - L.length = k - L.length - A.length by omega]
/-- an again that ends -/
theorem DP.close_ (hR : jm_HR gR) (h : DP l gR d P S W m n) (o1 : 1 ≤ m.1 56 7) (o4 : m.1 56 7 ≤ 4) {s0 u tm : Int} (e61 : m.1 61 (m.1 56 7 - 1) = m.1 56 0 - s0) (e62 : m.1 62 (m.1 56 7 - 1) = tm) (eu : u = m.1 56 0 - s0 + s0 * tm) (c0 : m'.1 56 0 = u) (c7 : m'.1 56 7 = m.1 56 7 - 1) (cy : ∀ y, y = 61 ∨ y = 62 → m'.1 y = m.1 y) (cl : ∀ x, x < m.1 56 0 → m'.1 57 x = m.1 57 x ∧ m'.1 58 x = m.1 58 x ∧ m'.1 59 x = m.1 59 x ∧ m'.1 60 x = m.1 60 x) (cr : ∀ x, m.1 56 0 ≤ x → x < u → x < 60 → m'.1 57 x = m'.1 57 (x - s0) ∧ m'.1 58 x = m'.1 58 (x - s0) ∧ m'.1 59 x = m'.1 59 (x - s0) ∧ m'.1 60 x = m'.1 60 (x - s0)) (r38 : n'.1 0 38 = n.1 0 38 + 1) (r28 : n'.1 0 28 = n.1 0 28 - 1) (rl : ∀ x, x < 4 * n.1 0 38 → n'.1 18 x = n.1 18 x) (k4 : n'.1 18 (4 * n.1 0 38) = 4) (hb : eB P S (m.1 1 8) + 1 ≤ eB P S (m'.1 1 8)) : DP l gR d P S W m' n' := by
  obtain ⟨s, cur, h1, h2, h3, h4, h5, h6, h7, h8⟩ := h
  cases s with
  | nil => rw [List.length_nil] at h4; omega
  | cons x r =>
    obtain ⟨p1, p2, p3⟩ := h1
    obtain ⟨q1, q2, q3⟩ := h2
    rw [List.length_cons] at h4 h5 h8
    have eA : ALL (x :: r) cur = ALL r x.2.2 ++ cur := rfl
    have lA : ((ALL (x :: r) cur).length : Int) = (ALL r x.2.2).length + cur.length := by rw [eA, List.length_append]; omega
    rw [show m.1 56 7 - 1 = (r.length : Int) by omega] at e61 e62
    have es : s0 = cur.length := by omega
    have et : x.2.1 = tm := by omega
    obtain ⟨k, ek⟩ : ∃ k : Nat, tm.toNat = k + 1 := ⟨tm.toNat - 1, by omega⟩
    have lp : ((prep (k + 1) cur).length : Int) = s0 * tm := by
      rw [prep_len, Int.natCast_mul, ← ek, Int.toNat_of_nonneg (by omega), es, Int.mul_comm]
    have lN : ((ALL r x.2.2 ++ prep (k + 1) cur).length : Int) = u := by
      rw [List.length_append, Int.natCast_add, lp]
      omega
    refine ⟨r, x.2.2 ++ prep (k + 1) cur, ?_, q3.cg (fun i hi => ⟨by rw [cy 61 (Or.inl rfl)], by rw [cy 62 (Or.inr rfl)]⟩), ?_, by omega, by omega, ?_, by omega, by omega⟩
    · rw [r38]
      refine (p3.cg (fun y hy => rl y (by have := p1.2.1; omega))).snoc ?_
      have sg := SEGv.again (l := l) (d := d) hR (st := n'.1 18) (i := x.1) (j := n.1 0 38) (tm := tm) (L := cur) (h := 4 - (r.length + 1)) p1.1 (by rw [rl _ (by have := p1.2.1; omega)]; exact p1.2.2.1) (by rw [rl _ (by have := p1.2.1; omega), ← et]; exact p1.2.2.2.1) (by omega) (by omega) (p2.cg (fun y _ y1 => rl y y1)) k4
      rw [ek] at sg
      exact sg.up (by omega)
    · rw [ALL_app, lN, c0]
    · rw [ALL_app]
      intro i
      induction i using Nat.strongRecOn with
      | ind i ih =>
        intro y i60 hy
        by_cases hi : (i : Int) < m.1 56 0
        · obtain ⟨a1, a2, a3, a4⟩ := cl i hi
          rw [a1, a2, a3, a4]
          refine h6 i y i60 ?_
          rw [← hy, eA]
          show (ALL r x.2.2 ++ cur)[i]? = (ALL r x.2.2 ++ (cur ++ prep k cur))[i]?
          rw [← List.append_assoc]
          exact (List.getElem?_append_left (by rw [List.length_append]; omega)).symm
        · have il := (List.getElem?_eq_some_iff.mp hy).1
          have hlen : (prep (k + 1) cur).length = (prep k cur).length + cur.length := by rw [prep_comm, List.length_append]
          rw [List.length_append] at il
          have cp : 0 < cur.length := by
            apply Decidable.byContradiction
            intro z
            have z0 : cur.length = 0 := by omega
            have : (prep (k + 1) cur).length = 0 := by rw [prep_len, z0, Nat.mul_zero]
            omega
          obtain ⟨a1, a2, a3, a4⟩ := cr i (by omega) (by rw [← lN, List.length_append]; omega) (by omega)
          rw [a1, a2, a3, a4, show (i : Int) - s0 = ((i - cur.length : Nat) : Int) by omega]
          refine ih (i - cur.length) (by omega) y (by omega) ?_
          rw [← hy]
          exact (prep_per (ALL r x.2.2) cur k i (by omega) il).symm
/-- the reference writes a step -/
theorem sX12_emits (hR : jm_HR gR) {q : Int} (e38 : n.1 0 38 = q) (q0 : 0 ≤ q) (q1 : q < 200) (r1 : jm_rg v1) (r2 : jm_rg v2) (r3 : jm_rg v3) (r4 : jm_rg v4) (h : ∀ n', n'.1 0 38 = q + 1 → (∀ x, x < 4 * q → n'.1 18 x = n.1 18 x) → n'.1 18 (4 * q) = v1 → n'.1 18 (4 * q + 1) = v2 → n'.1 18 (4 * q + 2) = v3 → n'.1 18 (4 * q + 3) = v4 → n'.1 0 28 = n.1 0 28 → (∀ a, PN B N P S t a n → PN B N P S t a n') → (jm_ag frx n0 n → jm_ag frx n0 n') → Q none n') : jm_R l gR (d + 1) iX12_emitsStep [.ref 0, jm_i v1, jm_i v2, jm_i v3, jm_i v4] n Q := by
  refine eX12_emitsStep hR (fun x1 ex => ?_)
  rw [e38] at ex
  rw [ex]
  refine ⟨⟨by omega, by omega⟩, r1, fun m4 e4 => ⟨⟨by omega, by omega⟩, r2, fun m8 e8 => ⟨⟨by omega, by omega⟩, r3, fun m12 e12 => ⟨⟨by omega, by omega⟩, r4, fun m16 e16 => ?_⟩⟩⟩⟩
  have g38 : m16.1 0 38 = q := by rw [e16, jm_wrO (by decide), e12, jm_wrO (by decide), e8, jm_wrO (by decide), e4, jm_wrO (by decide), e38]
  refine ⟨⟨by omega, by omega⟩, fun m19 e19 => ?_⟩
  rw [g38] at e19
  rw [e19, e16, e12, e8, e4]
  refine h _ jm_wrS (fun x hx => ?_) ?_ ?_ ?_ ?_ ?_ (fun a hp => ((((hp.wr (Or.inl (by decide))).wr (Or.inl (by decide))).wr (Or.inl (by decide))).wr (Or.inl (by decide))).wr (Or.inr (by decide))) (fun ha => ((((ha.wr rfl).wr rfl).wr rfl).wr rfl).wr rfl)
  · rw [jm_wrO (by decide), jm_wrI (by omega), jm_wrI (by omega), jm_wrI (by omega), jm_wrI (by omega)]
  · rw [jm_wrO (by decide), jm_wrI (by omega), jm_wrI (by omega), jm_wrI (by omega), jm_wrS]
  · rw [jm_wrO (by decide), jm_wrI (by omega), jm_wrI (by omega), jm_wrS]
  · rw [jm_wrO (by decide), jm_wrI (by omega), jm_wrS]
  · rw [jm_wrO (by decide), jm_wrS]
  · rw [jm_wrI (by decide), jm_wrO (by decide), jm_wrO (by decide), jm_wrO (by decide), jm_wrO (by decide)]
/-- the reference reads a keyword and a number -/
theorem sX12_told {k w : Nat} (hR : jm_HR gR) (hp : PHS k B N K P S t) (h : PN B N P S t a n) (a0 : 0 ≤ a) (a1 : a ≤ t) (hw : w < wc k) {lo hi v : Int} (ev : v = ((wb k + w : Nat) : Int)) (rv : jm_rg v) (rl : jm_rg lo) (rh : jm_rg hi) (h1 : K a = ((300 + w : Nat) : Int) → a + 1 < t → K (a + 1) = 256 → lo ≤ nva B P S (a + 1) → nva B P S (a + 1) ≤ hi → ∀ n', jm_ag frd n n' → PN B N P S t (a + 1 + 1) n' → Q (some (jm_i (nva B P S (a + 1)))) n') (h2 : K a = ((300 + w : Nat) : Int) → K (a + 1) = 256 → ¬ (lo ≤ nva B P S (a + 1) ∧ nva B P S (a + 1) ≤ hi) → ∀ n', jm_ag frd n n' → Q (some (jm_i (-1))) (RR P (a + 1) 2 n')) (h3 : K a = ((300 + w : Nat) : Int) → ¬ K (a + 1) = 256 → ∀ n', jm_ag frd n n' → Q (some (jm_i (-1))) (RR P (a + 1) 1 n')) (h0 : ¬ K a = ((300 + w : Nat) : Int) → Q (some (jm_i (-1))) (RR P a 1 n)) : jm_R l gR (d + 5) iX12_readTold [.ref 0, jm_i v, jm_i lo, jm_i hi] n Q := by
  have eW := hp.eW h.2.2.2 a0 a1 hw
  rw [← ev] at eW
  refine eX12_readTold hR ⟨rv, fun q => ?_, fun q m10 e10 => ?_⟩
  · have hk := eW.1 q
    have at1 : a < t := by
      apply Decidable.byContradiction
      intro z
      have := (hp.end_ a0 a1).2 (by omega)
      omega
    have tb := hp.T
    refine sX12_next (d := d + 1) hR hp h a0 at1 (fun n2 a2 p2 => jm_qvI ?_)
    refine sX12_readNumber (d := d) hR hp p2 (by omega) (by omega) rl rh (fun k1 at2 l1 l2 n3 a3 p3 => ?_) (fun k1 ng => ?_) (fun k1 => ?_)
    · have nb := hp.nv (a := a + 1) (by omega) at2 k1
      exact jm_qiI ⟨by omega, by omega⟩ (h1 hk at2 k1 l1 l2 n3 (a2.tr a3) p3)
    · exact jm_qiI ⟨by decide, by decide⟩ (h2 hk k1 ng n2 a2)
    · exact jm_qiI ⟨by decide, by decide⟩ (h3 hk k1 n2 a2)
  · rw [RR_e h] at e10
    rw [e10]
    exact h0 (fun z => q (eW.2 z))
/-- how many bytes a token takes -/
theorem tok_b {k : Nat} (hp : PHS k B N K P S t) (a0 : 0 ≤ a) (a1 : a < t) : eB P S a + S a ≤ eB P S (a + 1) ∧ 1 ≤ S a ∧ eB P S (a + 1) ≤ N := by
  have h := hp.1.1.2.1 a a0 a1
  rw [eB_s P S a0]
  omega
theorem tok_w {k w : Nat} (hp : PHS k B N K P S t) (a0 : 0 ≤ a) (a1 : a < t) (hw : w < wc k) (q : K a = ((300 + w : Nat) : Int)) : S a = ((wE (wb k + w) - wS (wb k + w) : Nat) : Int) := by
  have hk := hp.1.2.2.2 a a0 a1
  have tk := hp.1.1.2.1 a a0 a1
  have pn := hp.1.1.pn a0 a1
  have b := hp.2.2.1 (P a) pn (by omega)
  rcases hk with ⟨z, hk⟩ | ⟨z, hk⟩ | ⟨z, hk⟩
  · rcases hk with ⟨w', hw', hm, ek⟩ | ⟨-, ek⟩
    · have : w' = w := by omega
      rw [← this]
      exact hm.1.symm
    · omega
  · split at hk <;> omega
  · omega
end PS
