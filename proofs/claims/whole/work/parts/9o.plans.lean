section PE
variable {l : Launch} {gC gR : jm_G} {d e : Nat} {mu nu m n m0 n0 m' n' : jm_M} {v1 v2 v3 v4 v5 v6 : Int} {Q : Option Value → jm_M → Prop} {B B' K P S : Int → Int} {N t a W : Int} {st st' f g : Int → Int}
theorem fld_x (h : jm_ag (fld 0 0) m n) : jm_ag frx m n := fun c i q => h c i (fld_iff.2 (by
  unfold frx at q
  simp only [Bool.not_eq_true', Bool.or_eq_false_iff, Bool.and_eq_false_iff, decide_eq_false_iff_not, beq_eq_false_iff_ne, ne_eq] at q
  obtain ⟨⟨⟨⟨⟨⟨⟨⟨-, -⟩, -⟩, h20⟩, h21⟩, -⟩, -⟩, -⟩, h19⟩ := q
  omega))
/-- the plan that both have read -/
def DPF (W : Int) (m n : jm_M) : Prop := ∀ k, 0 ≤ k → k < m.1 56 0 → jm_deed (m.1 57 k) (m.1 58 k) (m.1 59 k) (m.1 60 k) (n.1 19 (240 + 4 * k)) (n.1 19 (240 + 4 * k + 1)) (n.1 19 (240 + 4 * k + 2)) (n.1 19 (240 + 4 * k + 3)) W
def pKQ (l : Launch) (gR : jm_G) (d : Nat) (Q' : Option Value → jm_M → Prop) : Option Value → jm_M → Prop := jm_qi fun z13 m12 => (¬ z13 = (-1) → jm_R l gR (d + 8) iX12_laysDeeds [.ref 0] m12 (jm_qi fun z17 m16 => Q' (some (jm_i z17)) m16)) ∧ (z13 = (-1) → Q' (some (jm_i (-1))) m12)
def PH (l : Launch) (gR : jm_G) (d : Nat) (m0 n0 : jm_M) (B : Int → Int) (N : Int) (P S : Int → Int) (t W : Int) (m : jm_M) (Q : Option Value → jm_M → Prop) : Prop := ∀ m' z, (z = 0 ∨ z = 1) → jm_ag (fcz z) m0 m' → (z = 1 → 0 ≤ m'.1 56 0 ∧ m'.1 56 0 ≤ 60) → (∀ n, RN (DP l gR (d + 6) P S W) n0 B N P S t m n → ∀ Q' : Option Value → jm_M → Prop, (z = 1 → ∀ n', jm_ag frx n0 n' → DPF W m' n' → Q' (some (jm_i (m'.1 56 0))) n') → (z = 0 → ∀ n', EN n0 m' n' → Q' (some (jm_i (-1))) n') → jm_V l gR (d + 8) iX12_readSteps 5 [(0, .ref 0)] [] n (pKQ l gR d Q')) → Q (some (jm_i z)) m'
theorem pl_end (hC : jm_HC gC) (hR : jm_HR gR) (hp : PHS 2 B N K P S t) (hs : CS m0 B K P S t m) (ci : CPI m) (hk : K (m.1 1 8) = 257) (h : PH l gR d m0 n0 B N P S t W m Q) : jm_R l gC (d + 8) iX6_readEnd [.ref 56, .ref 1] m (jm_qi fun z8 m7 => (z8 = 0 ∨ z8 = 1) ∧ Q (some (jm_i z8)) m7) := by
  have tb := hp.T
  obtain ⟨g2, g3, g4, g5, g7, -, g9, g10⟩ := hs.1
  have cb := ci.b (by omega)
  have co := ci.1
  have eb4 : eB P S (m.1 1 8) ≤ 400 := by
    have := hp.1.1.up hp.1.2.1 g9 g10
    have := hp.2.1
    omega
  -- the reference goes through the steps
  have lay : ∀ n, RN (DP l gR (d + 6) P S W) n0 B N P S t m n → m.1 56 7 = 0 → ∀ Q' : Option Value → jm_M → Prop, (m.1 56 0 ≤ 60 → ∀ n', jm_ag frx n0 n' → DPF W m n' → Q' (some (jm_i (m.1 56 0))) n') → (60 < m.1 56 0 → ∀ n', EN n0 (RF P (m.1 1 8) 4 m) n' → Q' (some (jm_i (-1))) n') → jm_V l gR (d + 8) iX12_readSteps 5 [(0, .ref 0)] [] n (pKQ l gR d Q') := by
    intro n hn o0 Q' h1 h0
    have s := sees_ hp g9 g10 hn.1
    have do_ := hn.2.2.o
    refine at120 hR s ⟨by omega, by omega, by omega, by omega, Or.inl (by omega)⟩ (bX12_readSteps_120 hR ⟨fun r => by omega, fun _ => ⟨fun r => absurd (s.2.2.2.2.2.2 hk) r, fun _ => jm_qiI ⟨by decide, by decide⟩ ⟨fun _ => ?_, fun r => absurd r (by decide)⟩⟩⟩)
    obtain ⟨s', cur, p1, p2, p3, p4, p5, p6, p7, p8⟩ := hn.2.2
    cases s' with
    | cons x r => rw [List.length_cons] at p4; omega
    | nil =>
      have p1 : SEGv l gR (d + 6) (n.1 18) 0 (n.1 0 38) cur 4 := p1
      have p3 : m.1 56 0 = (cur.length : Int) := p3
      have p6 : DED m cur W := p6
      refine eX12_laysDeeds hR (p1.2 n 0 0 _ (fun _ _ _ => rfl) (Int.le_refl _) (by rw [List.length_nil] at p8; omega) (Int.le_refl 0) (by decide) (Int.le_refl 0) (by decide) (fun n1 l1 a1 w1 => ?_) (fun n1 l1 a1 => ?_))
      · have e38 : n1.1 0 38 = n.1 0 38 := a1 0 38 (fld_iff.2 (by omega))
        refine bX12_laysDeeds_6 hR ⟨⟨by omega, by rw [List.length_nil] at p8; omega⟩, fun _ => jm_qiI ⟨by omega, by omega⟩ ?_, fun r => by omega⟩
        rw [show (0 : Int) + (cur.length : Int) = m.1 56 0 by omega]
        refine h1 (by omega) n1 (hn.2.1.tr (fld_x a1)) (fun k k0 k1 => ?_)
        obtain ⟨j, ej⟩ : ∃ j : Nat, k = j := ⟨k.toNat, by omega⟩
        rw [ej] at k1 ⊢
        have hj : j < cur.length := by omega
        have hx : cur[j]? = some cur[j] := List.getElem?_eq_getElem hj
        have wj := w1 j _ hx
        have dj := p6 j _ (by omega) hx
        rw [Int.zero_add] at wj
        rw [wj.1, wj.2.1, wj.2.2.1, wj.2.2.2]
        exact dj
      · refine jm_qiI ⟨by decide, by decide⟩ (h0 (by omega) _ ?_)
        have e15 : (jm_wr n1 0 31 4).1 0 15 = P (m.1 1 8) := by
          rw [jm_wrI (by decide), a1 0 15 (fld_iff.2 (by omega))]
          exact hn.1.2.2.2.1
        rw [e15]
        exact EN_rf (hn.2.1.tr (fld_x a1)) _ _
  refine eX6_readEnd hC ⟨fun o0 => ⟨fun b60 => ?_, fun b60 => ⟨by rw [RF_8 hs.1 4]; exact ⟨by omega, by omega⟩, fun m2 e2 => ?_⟩⟩, fun o0 => ⟨by rw [RF_8 hs.1 1]; exact ⟨by omega, by omega⟩, fun m5 e5 => ?_⟩⟩
  · exact jm_qiI ⟨by decide, by decide⟩ ⟨Or.inr rfl, h m 1 (Or.inr rfl) hs.2 (fun _ => ⟨cb.1, b60⟩) (fun n hn Q' h1 h0 => lay n hn (by omega) Q' (fun _ => h1 rfl) (fun r => by omega))⟩
  · rw [RF_e hs.1] at e2
    rw [e2]
    exact jm_qiI ⟨by decide, by decide⟩ ⟨Or.inl rfl, h _ 0 (Or.inl rfl) (hs.rf _ _) (fun r => absurd r (by decide)) (fun n hn Q' h1 h0 => lay n hn (by omega) Q' (fun r => by omega) (fun _ => h0 rfl))⟩
  · rw [RF_e hs.1] at e5
    rw [e5]
    refine jm_qiI ⟨by decide, by decide⟩ ⟨Or.inl rfl, h _ 0 (Or.inl rfl) (hs.rf _ _) (fun r => absurd r (by decide)) (fun n hn Q' h1 h0 => ?_)⟩
    have s := sees_ hp g9 g10 hn.1
    have do_ := hn.2.2.o
    refine at120 hR s ⟨by omega, by omega, by omega, by omega, Or.inl (by omega)⟩ (bX12_readSteps_120 hR ⟨fun _ m1 e1 => ?_, fun r => by omega⟩)
    rw [RR_e hn.1] at e1
    rw [e1]
    exact jm_qiI ⟨by decide, by decide⟩ ⟨fun r => absurd rfl r, fun _ => h0 rfl _ (EN_rf hn.2.1 _ _)⟩
theorem pl_lines (hC : jm_HC gC) (hR : jm_HR gR) (hp : PHS 2 B N K P S t) (hW : n0.1 0 4 = W) (W0 : 0 ≤ W) (W8 : W ≤ 8) (j : Nat) : ∀ (i : Nat) (m : jm_M) (Q : Option Value → jm_M → Prop), (t - m.1 1 8).toNat ≤ j → (i : Int) + (t - m.1 1 8) ≤ 400 → CS m0 B K P S t m → CPI m → PH l gR d m0 n0 B N P S t W m Q → jm_V l gC (d + 9) iX6_readFrom 12 [(0, .ref 56), (1, .ref 1), (2, jm_i W), (3, jm_i i)] [] m Q := by
  have tb := hp.T
  induction j with
  | zero =>
    intro i m Q hj hi hs ci h
    obtain ⟨g2, g3, g4, g5, g7, -, g9, g10⟩ := hs.1
    have kt : K (m.1 1 8) = 257 := (hp.end_ g9 g10).2 (by omega)
    refine bX6_readFrom_12 hC ⟨⟨by omega, by omega⟩, fun r => by omega, fun _ => ⟨⟨by omega, by omega⟩, ?_⟩⟩
    rw [g3]
    exact ⟨fun r => absurd kt r, fun _ => pl_end hC hR hp hs ci kt h⟩
  | succ j ih =>
    intro i m Q hj hi hs ci h
    obtain ⟨g2, g3, g4, g5, g7, -, g9, g10⟩ := hs.1
    refine bX6_readFrom_12 hC ⟨⟨by omega, by omega⟩, fun r => by omega, fun _ => ⟨⟨by omega, by omega⟩, ?_⟩⟩
    rw [g3]
    refine ⟨fun ne => ?_, fun kt => pl_end hC hR hp hs ci kt h⟩
    refine pl_deed (d := d) (e := d + 6) (n0 := n0) hC hR hp hW W0 W8 hs ci ne (fun m1 z z01 ag1 c1 ct1 => jm_qiI (by rcases z01 with e | e <;> rw [e] <;> exact ⟨by decide, by decide⟩) ⟨fun r => ?_, fun r => ?_⟩)
    · have z1 : z = 1 := by omega
      subst z1
      obtain ⟨cs1, ci1, lt⟩ := c1 rfl
      have t1 := cs1.1.2.2.2.2.2.2.2
      have nx := ih (i + 1) m1 Q (by omega) (by omega) cs1 ci1 (fun m' z' z01' ag' c' ct' => h m' z' z01' ag' c' (fun n hn Q' h1 h0 => ct1 n hn _ (fun _ n' hn' => ct' n' hn' Q' h1 h0) (fun r => absurd r (by decide))))
      rw [show ((i + 1 : Nat) : Int) = (i : Int) + 1 by omega] at nx
      exact nx
    · subst r
      exact h m1 0 z01 ag1 (fun r => absurd r (by decide)) (fun n hn Q' h1 h0 => ct1 n hn _ (fun r => absurd r (by decide)) (fun _ n' en' => jm_qiI ⟨by decide, by decide⟩ ⟨fun r => absurd rfl r, fun _ => h0 rfl n' en'⟩))
theorem pl_plan (hC : jm_HC gC) (hR : jm_HR gR) (hp : PHS 2 B N K P S t) (hW : n0.1 0 4 = W) (W0 : 0 ≤ W) (W8 : W ≤ 8) (hs : CS m0 B K P S t m) (a0 : m.1 1 8 = 0) (h : ∀ m' z, (z = 0 ∨ z = 1) → jm_ag (fcz z) m0 m' → (z = 1 → 0 ≤ m'.1 56 0 ∧ m'.1 56 0 ≤ 60) → (∀ n, PN B N P S t 0 n → jm_ag frx n0 n → n.1 0 28 = 0 → ∀ Q' : Option Value → jm_M → Prop, (z = 1 → ∀ n', jm_ag frx n0 n' → DPF W m' n' → Q' (some (jm_i (m'.1 56 0))) n') → (z = 0 → ∀ n', EN n0 m' n' → Q' (some (jm_i (-1))) n') → jm_R l gR (d + 8) iX12_readSteps [.ref 0] n (pKQ l gR d Q')) → Q (some (jm_i z)) m') : jm_R l gC (d + 9) iX6_readFrom [.ref 56, .ref 1, jm_i W] m Q := by
  have tb := hp.T
  refine eX6_readFrom hC (fun m1 e1 m3 e3 => ?_)
  have cs3 : CS m0 B K P S t m3 := by rw [e3, e1]; exact (hs.wr (by decide)).wr (by decide)
  have z0 : m3.1 56 0 = 0 := by rw [e3, jm_wrI (by decide), e1, jm_wrS]
  have z7 : m3.1 56 7 = 0 := by rw [e3, jm_wrS]
  have z8 : m3.1 1 8 = 0 := by rw [e3, jm_wrO (by decide), e1, jm_wrO (by decide), a0]
  have ci : CPI m3 := by
    refine ⟨by omega, ?_, ?_, fun k k0 k1 => by omega⟩
    · rw [z7, z0]
      exact Int.le_refl 0
    · rw [z7, z0, z8]
      exact Int.le_refl 0
  refine pl_lines (d := d) (n0 := n0) hC hR hp hW W0 W8 (t - m3.1 1 8).toNat 0 m3 Q (Nat.le_refl _) (by omega) cs3 ci (fun m' z z01 ag c ct => h m' z z01 ag c (fun n pn an e28 Q' h1 h0 => eX12_readSteps hR (fun n1 en1 => ?_)))
  refine ct n1 ⟨by rw [z8, en1]; exact pn.wr (Or.inr ⟨rfl, by decide⟩), by rw [en1]; exact an.wr rfl, ?_⟩ Q' h1 h0
  have y38 : n1.1 0 38 = 0 := by rw [en1, jm_wrS]
  have y28 : n1.1 0 28 = 0 := by rw [en1, jm_wrI (by decide), e28]
  refine ⟨[], [], ?_, trivial, z0, z7, y28, fun k x _ hx => by simp [ALL] at hx, by omega, ?_⟩
  · rw [y38]
    exact SEGv.nil (Int.le_refl 0)
  · rw [y38, z8, eB_0]
    decide
end PE
