section LW
variable {l : Launch} {gC gR : jm_G} {d : Nat} {mu nu m n m0 n0 : jm_M} {v1 v2 v3 v4 v5 v6 : Int} {Q : Option Value → jm_M → Prop} {B B' K P S : Int → Int} {N t a : Int} {k : Nat}
/-- at which code an order begins -/
def cpo (ord : Int → Int) : Nat → Int
  | 0 => 0
  | k + 1 => cpo ord k + (if ord k / 16384 = 2 then 2 else 1)
theorem cpo_cg {f g : Int → Int} : ∀ k : Nat, (∀ i : Int, i < k → g i = f i) → cpo g k = cpo f k
  | 0, _ => rfl
  | k + 1, h => by
    show cpo g k + _ = cpo f k + _
    rw [cpo_cg k (fun i hi => h i (by omega)), h k (by omega)]
theorem ord_n {kk v p q : Int} {op arg : Int → Int} (h : jm_ord kk v op arg p q) : q = if kk = 2 then 2 else 1 := by
  unfold jm_ord at h
  split <;> omega
theorem DL.p {b : Int} (h : DL t b m n) : n.1 0 27 = cpo (m.1 50) (m.1 49 1).toNat ∧ ∃ p : Int → Int, p 0 = 0 ∧ (∀ x, 0 ≤ x → x ≤ m.1 49 1 → p x = cpo (m.1 50) x.toNat) ∧ (∀ i, 0 ≤ i → i < m.1 49 1 → 0 ≤ m.1 50 i ∧ jm_ord (m.1 50 i / 16384) (m.1 50 i % 16384) (fun x => n.1 14 (800 + x)) (fun x => n.1 15 (800 + x)) (p i) (p (i + 1) - p i)) ∧ ∀ x, 0 ≤ x → x < m.1 49 0 → n.1 10 (32 + x) = m.1 51 x ∧ (0 ≤ m.1 52 x ∧ m.1 52 x ≤ m.1 53 x ∧ m.1 53 x ≤ m.1 54 x ∧ m.1 54 x ≤ m.1 49 1) ∧ n.1 11 (32 + x) = p (m.1 52 x) ∧ n.1 12 (32 + x) = p (m.1 53 x) ∧ n.1 13 (32 + x) = p (m.1 54 x) := by
  obtain ⟨⟨h1, h2, h3⟩, p, p0, p1, p2, p3, p4⟩ := h
  have key : ∀ k : Nat, (k : Int) ≤ m.1 49 1 → p k = cpo (m.1 50) k := by
    intro k
    induction k with
    | zero => intro _; exact p0
    | succ k ih =>
      intro hk
      have e := ih (by omega)
      have o := ord_n (p3 k (by omega) (by omega)).2
      show p ((k : Int) + 1) = cpo (m.1 50) k + _
      rw [← e, ← o]
      omega
  have key2 : ∀ x, 0 ≤ x → x ≤ m.1 49 1 → p x = cpo (m.1 50) x.toNat := fun x x0 x1 => by
    have := key x.toNat (by omega)
    rw [Int.toNat_of_nonneg x0] at this
    exact this
  exact ⟨by rw [← p1]; exact key2 _ h1 (Int.le_refl _), p, p0, key2, p3, p4⟩
theorem DL.ln {b : Int} (h : DL t b m n) {m' n' : jm_M} (e49 : m'.1 49 = m.1 49) (e50 : m'.1 50 = m.1 50) (ec : ∀ c, 51 ≤ c → c ≤ 54 → ∀ x, x < m.1 49 0 → m'.1 c x = m.1 c x) (e8 : m'.1 1 8 = m.1 1 8) (fc : ∀ c, 10 ≤ c → c ≤ 13 → ∀ x, x < m.1 49 0 → n'.1 c (32 + x) = n.1 c (32 + x)) (f14 : n'.1 14 = n.1 14) (f15 : n'.1 15 = n.1 15) (f27 : n'.1 0 27 = n.1 0 27) : DL t b m' n' := by
  obtain ⟨⟨h1, h2, h3⟩, p, p0, p1, p2, p3, p4⟩ := h
  refine ⟨⟨by rw [e49]; exact h1, by rw [f27]; exact h2, by rw [f27, e8]; exact h3⟩, p, p0, by rw [e49, f27]; exact p1, by rw [e49, f27]; exact p2, by rw [e49, e50, f14, f15]; exact p3, fun x x0 x1 => ?_⟩
  rw [e49] at x1 ⊢
  rw [ec 51 (by decide) (by decide) x x1, ec 52 (by decide) (by decide) x x1, ec 53 (by decide) (by decide) x x1, ec 54 (by decide) (by decide) x x1, fc 10 (by decide) (by decide) x x1, fc 11 (by decide) (by decide) x x1, fc 12 (by decide) (by decide) x x1, fc 13 (by decide) (by decide) x x1]
  exact p4 x x0 x1
theorem DL.close {b i : Int} (h : DL t b m n) (ei : m.1 49 0 = i) (i0 : 0 ≤ i) (f1 : n.1 10 (32 + i) = m.1 51 i) (f2 : 0 ≤ m.1 52 i ∧ m.1 52 i ≤ m.1 53 i ∧ m.1 53 i ≤ m.1 54 i ∧ m.1 54 i ≤ m.1 49 1) (f3 : n.1 11 (32 + i) = cpo (m.1 50) (m.1 52 i).toNat) (f4 : n.1 12 (32 + i) = cpo (m.1 50) (m.1 53 i).toNat) (f5 : n.1 13 (32 + i) = cpo (m.1 50) (m.1 54 i).toNat) : DL t b (jm_wr m 49 0 (i + 1)) n := by
  have h1 := h.1
  obtain ⟨e27, p, p0, pc, p3, p4⟩ := h.p
  have q : ∀ c, c ≠ 49 → (jm_wr m 49 0 (i + 1)).1 c = m.1 c := fun c hc => by funext y; exact jm_wrO hc
  have q1 : (jm_wr m 49 0 (i + 1)).1 49 1 = m.1 49 1 := jm_wrI (by decide)
  have q0 : (jm_wr m 49 0 (i + 1)).1 49 0 = i + 1 := jm_wrS
  obtain ⟨-, p', p0', p1', p2', p3', p4'⟩ := h
  have same : ∀ x, 0 ≤ x → x ≤ m.1 49 1 → p' x = cpo (m.1 50) x.toNat := by
    have key : ∀ k : Nat, (k : Int) ≤ m.1 49 1 → p' k = cpo (m.1 50) k := by
      intro k
      induction k with
      | zero => intro _; exact p0'
      | succ k ih =>
        intro hk
        have e := ih (by omega)
        have o := ord_n (p3' k (by omega) (by omega)).2
        show p' ((k : Int) + 1) = cpo (m.1 50) k + _
        rw [← e, ← o]
        omega
    intro x x0 x1
    have := key x.toNat (by omega)
    rw [Int.toNat_of_nonneg x0] at this
    exact this
  refine ⟨⟨by rw [q1]; exact h1.1, h1.2.1, by rw [q 1 (by decide)]; exact h1.2.2⟩, p', p0', by rw [q1]; exact p1', by rw [q1]; exact p2', by rw [q1, q 50 (by decide)]; exact p3', fun x x0 x1 => ?_⟩
  rw [q0] at x1
  rw [q 51 (by decide), q 52 (by decide), q 53 (by decide), q 54 (by decide), q1]
  by_cases e : x = i
  · rw [e, same _ (by omega) (by omega), same _ (by omega) (by omega), same _ (by omega) (by omega)]
    exact ⟨f1, f2, f3, f4, f5⟩
  · exact p4' x x0 (by omega)
def CI (m : jm_M) : Prop := ∀ x, 0 ≤ x → x < m.1 49 0 → (0 ≤ m.1 51 x ∧ m.1 51 x ≤ 2) ∧ (0 ≤ m.1 52 x ∧ m.1 52 x ≤ m.1 53 x ∧ m.1 53 x ≤ m.1 54 x ∧ m.1 54 x ≤ m.1 49 1) ∧ jm_seg (m.1 50) (m.1 52 x) (m.1 53 x) false ∧ (m.1 53 x = m.1 54 x ∨ jm_seg (m.1 50) (m.1 53 x) (m.1 54 x) true)
theorem SG.seg {f : Int → Int} {a e : Int} {b : Bool} (h : SG f a e [] [b]) : jm_seg f a e b := h.2
theorem CI.cg (h : CI m) {m' : jm_M} (e0 : m'.1 49 0 = m.1 49 0) (e1 : m.1 49 1 ≤ m'.1 49 1) (e50 : ∀ i, i < m.1 49 1 → m'.1 50 i = m.1 50 i) (ec : ∀ c, 51 ≤ c → c ≤ 54 → ∀ x, x < m.1 49 0 → m'.1 c x = m.1 c x) : CI m' := by
  intro x x0 x1
  rw [e0] at x1
  obtain ⟨h1, h2, h3, h4⟩ := h x x0 x1
  rw [ec 51 (by decide) (by decide) x x1, ec 52 (by decide) (by decide) x x1, ec 53 (by decide) (by decide) x x1, ec 54 (by decide) (by decide) x x1]
  refine ⟨h1, by omega, h3.cg (fun i _ i1 => e50 i (by omega)), ?_⟩
  rcases h4 with h4 | h4
  · exact Or.inl h4
  · exact Or.inr (h4.cg (fun i _ i1 => e50 i (by omega)))
def LLH (l : Launch) (gR : jm_G) (d : Nat) (m0 n0 : jm_M) (B : Int → Int) (N : Int) (P S : Int → Int) (t i : Int) (pc : Nat) (lv : List (Nat × Value)) (F : jm_M → Prop) (m : jm_M) (Q : Option Value → jm_M → Prop) : Prop := ∀ m' z, (z = 0 ∨ z = 1) → jm_ag (fcz z) m0 m' → (z = 1 → CI m' ∧ (0 ≤ m'.1 49 0 ∧ m'.1 49 0 ≤ 16) ∧ 0 ≤ m'.1 49 1 ∧ m'.1 49 1 ≤ 400 ∧ m'.1 1 8 ≤ t) → (∀ n, RN (DL t 400) n0 B N P S t m n → n.1 0 28 = 0 → F n → ∀ Q' : Option Value → jm_M → Prop, (z = 1 → ∀ n', jm_ag frx n0 n' → DL t 400 m' n' → Q' (some (jm_i (m'.1 49 0))) n') → (z = 0 → ∀ n', EN n0 m' n' → Q' (some (jm_i (-1))) n') → jm_V l gR (d + 25) iX12_readLaw pc ((0, .ref 0) :: (1, jm_i i) :: lv) [] n Q') → Q (some (jm_i z)) m'
def LLV (l : Launch) (gC gR : jm_G) (d : Nat) (m0 n0 : jm_M) (B : Int → Int) (N : Int) (K P S : Int → Int) (t i : Int) : Prop := ∀ (m : jm_M) (Q : Option Value → jm_M → Prop), CS m0 B K P S t m → m.1 49 0 = i → 0 ≤ m.1 49 1 → m.1 49 1 + (t - m.1 1 8) ≤ 400 → CI m → LLH l gR d m0 n0 B N P S t i 2 [] (fun _ => True) m Q → jm_V l gC (d + 25) iX4_readLines 9 [(0, .ref 63), (1, jm_i i)] [] m Q
/-- the end of a line -/
theorem d_ltail (hC : jm_HC gC) (hR : jm_HR gR) (hp : PHS 1 B N K P S t) {i : Int} (i0 : 0 ≤ i) (i1 : i < 16) (ih : LLV l gC gR d m0 n0 B N K P S t (i + 1)) (hs : CS m0 B K P S t m) (e0 : m.1 49 0 = i) (o1 : m.1 49 1 + (t - m.1 1 8) ≤ 400) (ci : CI m) (c1 : 0 ≤ m.1 51 i ∧ m.1 51 i ≤ 2) (c2 : 0 ≤ m.1 52 i ∧ m.1 52 i ≤ m.1 53 i ∧ m.1 53 i ≤ m.1 49 1) (c3 : jm_seg (m.1 50) (m.1 52 i) (m.1 53 i) false) (c4 : m.1 53 i = m.1 49 1 ∨ jm_seg (m.1 50) (m.1 53 i) (m.1 49 1) true) (h : LLH l gR d m0 n0 B N P S t i 92 [(2, jm_i (32 + i))] (fun n => n.1 10 (32 + i) = m.1 51 i ∧ n.1 11 (32 + i) = cpo (m.1 50) (m.1 52 i).toNat ∧ n.1 12 (32 + i) = cpo (m.1 50) (m.1 53 i).toNat) m Q) : jm_V l gC (d + 25) iX4_readLines 127 [(0, .ref 63), (1, jm_i i)] [] m Q := by
  have tb := hp.T
  obtain ⟨g2, g3, g4, g5, g7, -, g9, g10⟩ := hs.1
  refine bX4_readLines_127 hC (eX3_closeLine hC ⟨fun r => by omega, fun _ => ⟨⟨by omega, by omega⟩, fun m10 e10 => ?_⟩⟩)
  have q10 : m10.1 49 0 = i := by rw [e10, jm_wrO (by decide), e0]
  refine ⟨⟨by omega, by omega⟩, fun m11 e11 => jm_qvI ?_⟩
  rw [q10] at e11
  rw [e0] at e10
  have cs10 : CS m0 B K P S t m10 := by rw [e10]; exact hs.wr (by decide)
  have cs11 : CS m0 B K P S t m11 := by rw [e11]; exact cs10.wr (by decide)
  have d10 : ∀ c, c ≠ 54 → m10.1 c = m.1 c := fun c hc => by rw [e10]; funext y; exact jm_wrO hc
  have d11 : ∀ c, c ≠ 49 → m11.1 c = m10.1 c := fun c hc => by rw [e11]; funext y; exact jm_wrO hc
  have f8 : m11.1 1 8 = m.1 1 8 := by rw [d11 1 (by decide), d10 1 (by decide)]
  have x54 : ∀ x, ¬ x = i → m11.1 54 x = m.1 54 x := fun x hx => by rw [d11 54 (by decide), e10, jm_wrI hx]
  have y54 : m11.1 54 i = m.1 49 1 := by rw [d11 54 (by decide), e10, jm_wrS]
  have dd : ∀ c, c ≠ 49 → c ≠ 54 → m11.1 c = m.1 c := fun c h1 h2 => by rw [d11 c h1, d10 c h2]
  have z0 : m11.1 49 0 = i + 1 := by rw [e11, jm_wrS]
  have z1 : m11.1 49 1 = m.1 49 1 := by rw [e11, jm_wrI (by decide), d10 49 (by decide)]
  have ci11 : CI m11 := by
    intro x x0 x1
    rw [z0] at x1
    rw [dd 51 (by decide) (by decide), dd 52 (by decide) (by decide), dd 53 (by decide) (by decide), dd 50 (by decide) (by decide), z1]
    by_cases e : x = i
    · rw [e, y54]
      exact ⟨c1, by omega, c3, c4⟩
    · rw [x54 x e]
      exact ci x x0 (by omega)
  -- the reference closes the line
  have rline : ∀ n, RN (DL t 400) n0 B N P S t m n → n.1 10 (32 + i) = m.1 51 i ∧ n.1 11 (32 + i) = cpo (m.1 50) (m.1 52 i).toNat ∧ n.1 12 (32 + i) = cpo (m.1 50) (m.1 53 i).toNat → RN (DL t 400) n0 B N P S t m11 (jm_wr n 13 (32 + i) (n.1 0 27)) := by
    intro n hn hF
    refine ⟨by rw [f8]; exact hn.1.wr (Or.inl (by decide)), hn.2.1.wr ?_, ?_⟩
    · unfold frx
      simp only [Bool.not_eq_false']
      have : (32 : Int) ≤ 32 + i := by omega
      simp [this]
    · have h10 : DL t 400 m10 (jm_wr n 13 (32 + i) (n.1 0 27)) := hn.2.2.ln (d10 49 (by decide)) (d10 50 (by decide)) (fun c _ _ x hx => by
        by_cases e : c = 54
        · rw [e, e10, jm_wrI (by omega)]
        · rw [d10 c e]) (by rw [d10 1 (by decide)]) (fun c _ _ x hx => jm_wrI (by omega)) (by funext y; exact jm_wrO (by decide)) (by funext y; exact jm_wrO (by decide)) (jm_wrO (by decide))
      have cl := h10.close (i := i) q10 i0 (by rw [jm_wrO (by decide), d10 51 (by decide)]; exact hF.1) (by rw [d10 52 (by decide), d10 53 (by decide), d10 49 (by decide), e10, jm_wrS]; omega) (by rw [jm_wrO (by decide), d10 50 (by decide), d10 52 (by decide)]; exact hF.2.1) (by rw [jm_wrO (by decide), d10 50 (by decide), d10 53 (by decide)]; exact hF.2.2) (by rw [jm_wrS, d10 50 (by decide), e10, jm_wrS]; exact hn.2.2.p.1)
      rw [← e11] at cl
      exact cl
  have s59 : ∀ n, PN B N P S t (m11.1 1 8) n → ((n.1 0 16 = 4 ∧ n.1 0 17 = 59) ↔ K (m11.1 1 8) = 59) := fun n hn => by
    rw [f8] at hn ⊢
    exact hp.eS hn.2.2.2 g9 g10 (x := 59) (by unfold isM; omega)
  refine sX7_take (d := d + 22) hC hp cs11.1 ⟨by decide, by decide⟩ (by decide) (fun q at1 => jm_qiI ⟨by decide, by decide⟩ ⟨fun _ => ?_, fun r => absurd r (by decide)⟩) (fun q => jm_qiI ⟨by decide, by decide⟩ ⟨fun r => absurd rfl r, fun _ => ?_⟩)
  · have hsk := cs11.skip at1
    obtain ⟨m12, em⟩ : ∃ m12, m12 = jm_wr m11 1 8 (m11.1 1 8 + 1) := ⟨_, rfl⟩
    rw [← em] at hsk ⊢
    have o12 : ∀ c, c ≠ 1 → m12.1 c = m11.1 c := fun c hc => by rw [em]; exact sk_o hc
    have h8 : m12.1 1 8 = m11.1 1 8 + 1 := by rw [em, jm_wrS]
    refine ih m12 Q hsk (by rw [o12 49 (by decide), z0]) (by rw [o12 49 (by decide)]; omega) (by rw [o12 49 (by decide)]; omega) (ci11.cg (by rw [o12 49 (by decide)]) (by rw [o12 49 (by decide)]; exact Int.le_refl _) (fun i _ => by rw [o12 50 (by decide)]) (fun c _ _ x _ => by rw [o12 c (by omega)])) (fun m' z z01 ag' c' ct' => h m' z z01 ag' c' (fun n hn e28 hF Q' h1 h0 => ?_))
    have r11 := rline n hn hF
    refine bX12_readLaw_92 hR ⟨⟨by omega, by omega⟩, fun m2 e2 => ?_⟩
    rw [← e2] at r11
    have g28 : m2.1 0 28 = 0 := by rw [e2, jm_wrO (by decide)]; exact e28
    refine ⟨fun _ => sX12_next (d := d + 21) hR hp r11.1 (by omega) at1 (fun n4 a4 p4 => jm_qvI (fun x8 e8 => ?_)), fun w => absurd ((s59 m2 r11.1).2 q) w⟩
    rw [e8]
    exact ct' n4 ⟨by rw [h8]; exact p4, r11.2.1.tr (frd_x a4), (RN.next r11.2.2 em a4).le (by decide)⟩ (by rw [frd_27 a4 (by decide)]; exact g28) trivial Q' h1 h0
  · refine h _ 0 (Or.inl rfl) (cs11.rf _ _) (fun r => absurd r (by decide)) (fun n hn e28 hF Q' h1 h0 => ?_)
    have r11 := rline n hn hF
    refine bX12_readLaw_92 hR ⟨⟨by omega, by omega⟩, fun m2 e2 => ?_⟩
    rw [← e2] at r11
    refine ⟨fun w => absurd ((s59 m2 r11.1).1 w) q, fun _ m9 e9 => ?_⟩
    rw [RR_e r11.1] at e9
    rw [e9]
    exact h0 rfl _ (EN_rf r11.2.1 _ _)
end LW
