section TL
variable {l : Launch} {gC gR : jm_G} {d : Nat} {mu nu : jm_M} {v1 v2 v3 v4 v5 : Int} {Q : Option Value → jm_M → Prop}
theorem jm_o.tr {c : Nat} {a b e : jm_M} (h : jm_o c a b) (k : jm_o c b e) : jm_o c a e := fun x hx => (k x hx).trans (h x hx)
/-- the law of both -/
def lwA (mu nu : jm_M) (p : Int → Int) : Prop := (0 ≤ mu.1 15 0 ∧ mu.1 15 0 ≤ 16 ∧ nu.1 9 1 = mu.1 15 0) ∧ mu.1 15 1 ≤ 400 ∧ lwK (mu.1 16) (fun i => nu.1 14 (400 + i)) (fun i => nu.1 15 (400 + i)) p (mu.1 15 1) ∧ ∀ k, 0 ≤ k → k < mu.1 15 0 → (0 ≤ mu.1 18 k ∧ mu.1 18 k ≤ mu.1 19 k ∧ mu.1 19 k ≤ mu.1 20 k ∧ mu.1 20 k ≤ mu.1 15 1) ∧ (0 ≤ mu.1 17 k ∧ mu.1 17 k ≤ 2) ∧ nu.1 10 (16 + k) = mu.1 17 k ∧ nu.1 11 (16 + k) = p (mu.1 18 k) ∧ nu.1 12 (16 + k) = p (mu.1 19 k) ∧ nu.1 13 (16 + k) = p (mu.1 20 k) ∧ (∃ s, sgK (mu.1 16) s (mu.1 18 k) (mu.1 19 k) ∧ s (mu.1 19 k) = [false]) ∧ (mu.1 19 k = mu.1 20 k ∨ ∃ s, sgK (mu.1 16) s (mu.1 19 k) (mu.1 20 k) ∧ s (mu.1 20 k) = [true])
theorem IL.lw (h : IL mu nu) : ∃ p, lwA mu nu p := by
  obtain ⟨h1, ⟨h2, h3⟩, p, p0, pn, hp, hl⟩ := h
  have hK : lwK (mu.1 16) (fun i => nu.1 14 (400 + i)) (fun i => nu.1 15 (400 + i)) p (mu.1 15 1) := ⟨p0, pn, hp⟩
  refine ⟨p, h1, h3, hK, fun k k0 k1 => ?_⟩
  obtain ⟨a1, a2, a3, a4, a5, a6, a7, a8, a9, a10, a11, a12⟩ := hl k k0 k1
  refine ⟨⟨a4, a5, a6, a7⟩, ⟨a1, a2⟩, a3, a8, a9, a10, sgK_of hK a4 (by omega) a11, ?_⟩
  rcases a12 with q | q
  · exact Or.inl q
  · exact Or.inr (sgK_of hK (by omega) a7 q)
/-- the first line that tells, and what it tells -/
def tlN (mu : jm_M) (T : Int → Int) (w : Int) : Nat → Int → Int
  | 0, _ => -1
  | n + 1, k => if mu.1 17 k = w ∧ (mu.1 19 k = mu.1 20 k ∨ ¬ ev (mu.1 16) T (mu.1 19 k) (mu.1 20 k) = 0) then k else tlN mu T w n (k + 1)
def tlV (mu : jm_M) (T : Int → Int) (o k : Int) : Int := if k = -1 then o else ev (mu.1 16) T (mu.1 18 k) (mu.1 19 k)
def tld (mu : jm_M) (T : Int → Int) (w o : Int) : Int := tlV mu T o (tlN mu T w (mu.1 15 0).toNat 0)
theorem tlN_bd (mu : jm_M) (T : Int → Int) (w : Int) : ∀ (n : Nat) (k : Int), 0 ≤ k → tlN mu T w n k = -1 ∨ (k ≤ tlN mu T w n k ∧ tlN mu T w n k < k + n)
  | 0, k, _ => Or.inl rfl
  | n + 1, k, h => by
    unfold tlN
    split
    · exact Or.inr ⟨Int.le_refl _, by omega⟩
    · rcases tlN_bd mu T w n (k + 1) (by omega) with q | q
      · exact Or.inl q
      · exact Or.inr ⟨by omega, by omega⟩
theorem lX3_tell (hC : jm_HC gC) {p : Int → Int} (hL : lwA mu nu p) (hT : ∀ i, jm_rg (mu.1 36 i)) (r1 : jm_rg v1) (n : Nat) : ∀ (k : Int) (m : jm_M), 0 ≤ k → k + n = mu.1 15 0 → jm_o 21 mu m → (∀ m, jm_o 21 mu m → Q (some (jm_i (tlV mu (mu.1 36) v3 (tlN mu (mu.1 36) v1 n k)))) m) → jm_V l gC (d + 3) iX3_tell 3 [(0, .ref 15), (1, jm_i v1), (2, .ref 36), (3, jm_i v3), (4, jm_i k)] [] m Q := by
  obtain ⟨hl1, hn4, hK, hl⟩ := hL
  induction n with
  | zero =>
    intro k m k0 hk ho hQ
    have e15 : m.1 15 = mu.1 15 := ho 15 (by decide)
    refine bX3_tell_3 hC ⟨⟨by omega, by omega⟩, ?_⟩
    rw [e15]
    exact ⟨fun _ => hQ m ho, fun r => by omega⟩
  | succ n ih =>
    intro k m k0 hk ho hQ
    have e15 : m.1 15 = mu.1 15 := ho 15 (by decide)
    have e16 : m.1 16 = mu.1 16 := ho 16 (by decide)
    have e17 : m.1 17 = mu.1 17 := ho 17 (by decide)
    have e18 : m.1 18 = mu.1 18 := ho 18 (by decide)
    have e19 : m.1 19 = mu.1 19 := ho 19 (by decide)
    have e20 : m.1 20 = mu.1 20 := ho 20 (by decide)
    have e36 : m.1 36 = mu.1 36 := ho 36 (by decide)
    obtain ⟨⟨b1, b2, b3, b4⟩, -, -, -, -, -, ⟨s, s1, s2⟩, hc⟩ := hl k k0 (by omega)
    have take : (mu.1 17 k = v1 ∧ (mu.1 19 k = mu.1 20 k ∨ ¬ ev (mu.1 16) (mu.1 36) (mu.1 19 k) (mu.1 20 k) = 0)) → ∀ m2, jm_o 21 mu m2 → jm_V l gC (d + 3) iX3_tell 81 [(0, .ref 15), (2, .ref 36), (4, jm_i k)] [] m2 Q := by
      intro hy m2 o2
      have f16 : m2.1 16 = mu.1 16 := o2 16 (by decide)
      have f36 : m2.1 36 = mu.1 36 := o2 36 (by decide)
      refine bX3_tell_81 hC ⟨⟨k0, by omega⟩, ?_⟩
      rw [o2 18 (by decide), o2 19 (by decide)]
      refine sX3_worth hC b1 b2 (by omega) (by rw [f36]; exact hT) (by rw [f16]; exact s1) s2 (fun m3 o3 => ?_)
      rw [f16, f36]
      have rg := (ev_one hT s1 b2 s2).2.1
      refine jm_qiI rg ?_
      have := hQ m3 (o2.tr o3)
      unfold tlN at this
      rw [if_pos hy] at this
      unfold tlV at this
      rw [if_neg (by omega)] at this
      exact this
    have skip : ¬ (mu.1 17 k = v1 ∧ (mu.1 19 k = mu.1 20 k ∨ ¬ ev (mu.1 16) (mu.1 36) (mu.1 19 k) (mu.1 20 k) = 0)) → ∀ m2, jm_o 21 mu m2 → jm_V l gC (d + 3) iX3_tell 3 [(0, .ref 15), (1, jm_i v1), (2, .ref 36), (3, jm_i v3), (4, jm_i (k + 1))] [] m2 Q := by
      intro hy m2 o2
      refine ih (k + 1) m2 (by omega) (by omega) o2 (fun m3 o3 => ?_)
      have := hQ m3 o3
      unfold tlN at this
      rw [if_neg hy] at this
      exact this
    refine bX3_tell_3 hC ⟨⟨by omega, by omega⟩, ?_⟩
    rw [e15, e19, e20]
    refine ⟨fun r => by omega, fun _ => ⟨fun r => by omega, fun _ => ⟨⟨k0, by omega⟩, fun q => ?_, fun q => ?_⟩⟩⟩
    · refine bX3_tell_41 hC ⟨⟨k0, by omega⟩, r1, ?_⟩
      rw [e17]
      refine ⟨fun r => skip (fun z => r z.1) m ho, fun r => ⟨⟨by decide, by decide⟩, fun z => absurd rfl z, fun _ => ?_⟩⟩
      rcases hc with hc | ⟨s', t1, t2⟩
      · exact absurd hc q
      · rw [e19, e20]
        refine sX3_worth hC (by omega) b3 (by omega) (by rw [e36]; exact hT) (by rw [e16]; exact t1) t2 (fun m3 o3 => ?_)
        rw [e16, e36]
        have rg := (ev_one hT t1 b3 t2).2.1
        exact jm_qiI rg ⟨fun z => skip (fun y => y.2.elim q (fun y2 => y2 z)) m3 (ho.tr o3), fun z => take ⟨r, Or.inr z⟩ m3 (ho.tr o3)⟩
    · refine bX3_tell_41 hC ⟨⟨k0, by omega⟩, r1, ?_⟩
      rw [e17]
      exact ⟨fun r => skip (fun z => r z.1) m ho, fun r => ⟨⟨by decide, by decide⟩, fun _ => take ⟨r, Or.inl q⟩ m ho, fun z => absurd z (by decide)⟩⟩
theorem sX3_tell (hC : jm_HC gC) {p : Int → Int} (hL : lwA mu nu p) (hT : ∀ i, jm_rg (mu.1 36 i)) (r1 : jm_rg v1) (hQ : ∀ m, jm_o 21 mu m → Q (some (jm_i (tld mu (mu.1 36) v1 v3))) m) : jm_R l gC (d + 3) iX3_tell [.ref 15, jm_i v1, .ref 36, jm_i v3] mu Q := by
  have := hL.1
  exact eX3_tell hC (lX3_tell hC hL hT r1 (mu.1 15 0).toNat 0 mu (by decide) (by omega) jm_o.rf hQ)
theorem tld_rg {p : Int → Int} (hL : lwA mu nu p) {T : Int → Int} (hT : ∀ i, jm_rg (T i)) {w o : Int} (ho : jm_rg o) : jm_rg (tld mu T w o) := by
  unfold tld tlV
  by_cases q : tlN mu T w (mu.1 15 0).toNat 0 = -1
  · rw [if_pos q]; exact ho
  · rw [if_neg q]
    obtain ⟨hl1, -, -, hl⟩ := hL
    rcases tlN_bd mu T w (mu.1 15 0).toNat 0 (by decide) with r | r
    · exact absurd r q
    · obtain ⟨⟨b1, b2, b3, b4⟩, -, -, -, -, -, ⟨s, s1, s2⟩, -⟩ := hl _ r.1 (by omega)
      exact (ev_one hT s1 b2 s2).2.1
/-! the reference's -/
theorem lX12_lineOf (hR : jm_HR gR) {p : Int → Int} (hL : lwA mu nu p) {T : Int → Int} (hT : ∀ i, jm_rg (T i)) (hA : ∀ i, 0 ≤ i → i ≤ 10 → nu.1 22 i = T i) (r1 : jm_rg v1) (n : Nat) : ∀ (k : Int) (m : jm_M), 0 ≤ k → k + n = mu.1 15 0 → jm_o 23 nu m → (∀ m, jm_o 23 nu m → Q (some (jm_i (if tlN mu T v1 n k = -1 then -1 else 16 + tlN mu T v1 n k))) m) → jm_V l gR (d + 3) iX12_lineOf 2 [(0, .ref 0), (1, jm_i v1), (2, jm_i k)] [] m Q := by
  obtain ⟨hl1, hn4, hK, hl⟩ := hL
  induction n with
  | zero =>
    intro k m k0 hk ho hQ
    refine bX12_lineOf_2 hR ⟨⟨by omega, by omega⟩, ?_⟩
    rw [ho 9 (by decide), hl1.2.2]
    exact ⟨fun _ => hQ m ho, fun r => by omega⟩
  | succ n ih =>
    intro k m k0 hk ho hQ
    obtain ⟨⟨b1, b2, b3, b4⟩, -, c1, c2, c3, c4, -, hc⟩ := hl k k0 (by omega)
    have skip : ¬ (mu.1 17 k = v1 ∧ (mu.1 19 k = mu.1 20 k ∨ ¬ ev (mu.1 16) T (mu.1 19 k) (mu.1 20 k) = 0)) → ∀ m2, jm_o 23 nu m2 → jm_V l gR (d + 3) iX12_lineOf 2 [(0, .ref 0), (1, jm_i v1), (2, jm_i (k + 1))] [] m2 Q := by
      intro hy m2 o2
      refine ih (k + 1) m2 (by omega) (by omega) o2 (fun m3 o3 => ?_)
      have := hQ m3 o3
      unfold tlN at this
      rw [if_neg hy] at this
      exact this
    have take : (mu.1 17 k = v1 ∧ (mu.1 19 k = mu.1 20 k ∨ ¬ ev (mu.1 16) T (mu.1 19 k) (mu.1 20 k) = 0)) → ∀ m2, jm_o 23 nu m2 → Q (some (jm_i (16 + k))) m2 := by
      intro hy m2 o2
      have := hQ m2 o2
      unfold tlN at this
      rw [if_pos hy, if_neg (by omega)] at this
      exact this
    refine bX12_lineOf_2 hR ⟨⟨by omega, by omega⟩, ?_⟩
    rw [ho 9 (by decide), hl1.2.2, ho 10 (by decide), ho 12 (by decide), ho 13 (by decide)]
    refine ⟨fun r => by omega, fun _ x2 e2 => ?_⟩
    subst e2
    rw [c1, c3, c4]
    refine ⟨⟨by omega, by omega⟩, r1, fun r => skip (fun z => r z.1) m ho, fun r => ⟨fun q => ?_, fun q => ?_⟩⟩
    · have mo := lwK_mono hK (mu.1 20 k - mu.1 19 k).toNat (mu.1 19 k) (by omega) (by omega)
      rw [show mu.1 19 k + ((mu.1 20 k - mu.1 19 k).toNat : Int) = mu.1 20 k by omega] at mo
      exact take ⟨r, Or.inl (by omega)⟩ m ho
    · rcases hc with hc | ⟨s', t1, t2⟩
      · exact absurd (by rw [hc]) q
      · have hK2 : lwK (mu.1 16) (fun i => m.1 14 (400 + i)) (fun i => m.1 15 (400 + i)) p (mu.1 15 1) := by
          rw [ho 14 (by decide), ho 15 (by decide)]
          exact hK
        refine sX12_runs hR hK2 hT (by rw [ho 22 (by decide)]; exact hA) (by omega) b3 b4 t1 t2 (fun m3 o3 => ?_)
        have rg := (ev_one hT t1 b3 t2).2.1
        have nb : ¬ mu.1 19 k = mu.1 20 k := fun z => q (by rw [z])
        exact jm_qiI rg ⟨fun z => skip (fun y => y.2.elim nb (fun y2 => y2 z)) m3 (ho.tr o3), fun z => take ⟨r, Or.inr z⟩ m3 (ho.tr o3)⟩
theorem sX12_lawTells (hR : jm_HR gR) {p : Int → Int} (hL : lwA mu nu p) {T : Int → Int} (hT : ∀ i, jm_rg (T i)) (hA : ∀ i, 0 ≤ i → i ≤ 10 → nu.1 22 i = T i) (r1 : jm_rg v1) (r2 : jm_rg v2) (r3 : 0 ≤ v3 ∧ v3 ≤ 100000) (hQ : ∀ m, jm_o 23 nu m → Q (some (jm_i (max 0 (min v3 (tld mu T v1 v2))))) m) : jm_R l gR (d + 5) iX12_lawTells [.ref 0, jm_i v1, jm_i v2, jm_i v3] nu Q := by
  have rgt := tld_rg hL hT (w := v1) r2
  have hl1 := hL.1
  refine eX12_lawTells hR (eX12_lineOf hR (lX12_lineOf hR hL hT hA r1 (mu.1 15 0).toNat 0 nu (by decide) (by omega) jm_o.rf (fun m ho => ?_)))
  have td : tld mu T v1 v2 = tlV mu T v2 (tlN mu T v1 (mu.1 15 0).toNat 0) := rfl
  have bd := tlN_bd mu T v1 (mu.1 15 0).toNat 0 (by decide)
  generalize tlN mu T v1 (mu.1 15 0).toNat 0 = K at td bd ⊢
  by_cases q : K = -1
  · rw [if_pos q]
    refine jm_qiI ⟨by decide, by decide⟩ ⟨fun r => absurd rfl r, fun _ => ?_⟩
    have e : tld mu T v1 v2 = v2 := by rw [td]; unfold tlV; rw [if_pos q]
    refine sX12_held hR r2 ⟨by decide, by decide⟩ ⟨by omega, by omega⟩ r3.1 (jm_qiI ⟨by omega, by omega⟩ ?_)
    rw [← e]
    exact hQ m ho
  · rw [if_neg q]
    refine jm_qiI ⟨by omega, by omega⟩ ⟨fun _ => ⟨⟨by omega, by omega⟩, ?_⟩, fun r => by omega⟩
    obtain ⟨-, hn4, hK, hl⟩ := hL
    obtain ⟨⟨b1, b2, b3, b4⟩, -, c1, c2, c3, c4, ⟨s, s1, s2⟩, -⟩ := hl K (by omega) (by omega)
    have hK2 : lwK (mu.1 16) (fun i => m.1 14 (400 + i)) (fun i => m.1 15 (400 + i)) p (mu.1 15 1) := by
      rw [ho 14 (by decide), ho 15 (by decide)]
      exact hK
    rw [ho 11 (by decide), ho 12 (by decide), c2, c3]
    refine sX12_runs hR hK2 hT (by rw [ho 22 (by decide)]; exact hA) b1 b2 (by omega) s1 s2 (fun m3 o3 => ?_)
    have e : tld mu T v1 v2 = ev (mu.1 16) T (mu.1 18 K) (mu.1 19 K) := by rw [td]; unfold tlV; rw [if_neg q]
    rw [← e]
    refine jm_qiI rgt (sX12_held hR rgt ⟨by decide, by decide⟩ ⟨by omega, by omega⟩ r3.1 (jm_qiI ⟨by omega, by omega⟩ ?_))
    exact hQ m3 (ho.tr o3)
/-! terms -/
theorem evS_T {ord T T' : Int → Int} {a e : Int} (h : ∀ i, a ≤ i → i < e → odK (ord i)) (hT : ∀ j, 0 ≤ j → j ≤ 10 → T j = T' j) : ∀ n : Nat, a + n ≤ e → evS ord T a n = evS ord T' a n
  | 0, _ => rfl
  | n + 1, hn => by
    have ih := evS_T h hT n (by omega)
    have o := h (a + n) (by omega) (by omega)
    show stp _ _ T (evS ord T a n) = stp _ _ T' (evS ord T' a n)
    rw [ih]
    unfold stp
    by_cases k1 : ord (a + n) / 16384 = 1
    · have m1 := Int.emod_nonneg (ord (a + n)) (by decide : (16384 : Int) ≠ 0)
      rw [k1, if_neg (by decide), if_pos rfl, if_neg (by decide), if_pos rfl, hT _ m1 (o.2.2.2.1 k1)]
    · rw [if_neg k1, if_neg k1]
theorem ev_T {ord T T' : Int → Int} {s : Int → List Bool} {a e : Int} (h : sgK ord s a e) (ae : a ≤ e) (hT : ∀ j, 0 ≤ j → j ≤ 10 → T j = T' j) : ev ord T a e = ev ord T' a e := by
  unfold ev
  rw [evS_T (fun i i0 i1 => (h.2 i i0 i1).1) hT (e - a).toNat (by omega)]
theorem tlN_T {p : Int → Int} (hL : lwA mu nu p) {T T' : Int → Int} (hT : ∀ j, 0 ≤ j → j ≤ 10 → T j = T' j) (w : Int) : ∀ (n : Nat) (k : Int), 0 ≤ k → k + n = mu.1 15 0 → tlN mu T w n k = tlN mu T' w n k
  | 0, _, _, _ => rfl
  | n + 1, k, k0, hk => by
    have ih := tlN_T hL hT w n (k + 1) (by omega) (by omega)
    obtain ⟨⟨b1, b2, b3, b4⟩, -, -, -, -, -, -, hc⟩ := hL.2.2.2 k k0 (by omega)
    unfold tlN
    rw [ih]
    rcases hc with hc | ⟨s, s1, s2⟩
    · by_cases q : mu.1 17 k = w
      · rw [if_pos ⟨q, Or.inl hc⟩, if_pos ⟨q, Or.inl hc⟩]
      · rw [if_neg (fun z => q z.1), if_neg (fun z => q z.1)]
    · rw [ev_T s1 b3 hT]
theorem tld_T {p : Int → Int} (hL : lwA mu nu p) {T T' : Int → Int} (hT : ∀ j, 0 ≤ j → j ≤ 10 → T j = T' j) (w o : Int) : tld mu T w o = tld mu T' w o := by
  have hl1 := hL.1
  unfold tld
  rw [tlN_T hL hT w (mu.1 15 0).toNat 0 (by decide) (by omega)]
  have bd := tlN_bd mu T' w (mu.1 15 0).toNat 0 (by decide)
  generalize tlN mu T' w (mu.1 15 0).toNat 0 = K at bd ⊢
  unfold tlV
  by_cases q : K = -1
  · rw [if_pos q, if_pos q]
  · rw [if_neg q, if_neg q]
    obtain ⟨⟨b1, b2, b3, b4⟩, -, -, -, -, -, ⟨s, s1, s2⟩, -⟩ := hL.2.2.2 K (by omega) (by omega)
    exact ev_T s1 b2 hT
theorem tld_m {m : jm_M} (h : ∀ c, 15 ≤ c → c ≤ 20 → m.1 c = mu.1 c) (T : Int → Int) (w o : Int) : tld m T w o = tld mu T w o := by
  have e : ∀ (n : Nat) (k : Int), tlN m T w n k = tlN mu T w n k := by
    intro n
    induction n with
    | zero => intro k; rfl
    | succ n ih =>
      intro k
      unfold tlN
      rw [ih, h 17 (by decide) (by decide), h 19 (by decide) (by decide), h 20 (by decide) (by decide), h 16 (by decide) (by decide)]
  unfold tld tlV
  rw [e, h 15 (by decide) (by decide), h 16 (by decide) (by decide), h 18 (by decide) (by decide), h 19 (by decide) (by decide)]
end TL
