section AP
variable {l : Launch} {gC gR : jm_G} {d : Nat} {mu nu m n m0 n0 m' n' : jm_M} {v1 v2 v3 v4 v5 v6 : Int} {Q : Option Value → jm_M → Prop} {t W : Int}
theorem jm_cpS {a b : Nat} {sp dp k i : Int} (h1 : dp ≤ i) (h2 : i < dp + k) : (jm_cp m a sp b dp k).1 b i = m.1 a (sp + (i - dp)) := by simp [jm_cp, h1, h2]
theorem jm_cpO {a b c : Nat} {sp dp k i : Int} (h : c ≠ b) : (jm_cp m a sp b dp k).1 c i = m.1 c i := by simp [jm_cp, h]
theorem IK.zero (a : m.1 0 15 = 0) (b : m.1 0 16 = 0) (c : n.1 0 3 = 0) : IK m n := ⟨⟨by omega, by omega, by omega⟩, ⟨by omega, by omega⟩, fun j j0 j1 => by omega, fun i j i0 ij j1 => by omega⟩
/-- what telling a text leaves as it was until it is taken -/
def fcq (c : Nat) (i : Int) : Bool := !(c == 1 || (3 ≤ c && c ≤ 5) || (46 ≤ c && c ≤ 62))
def frq (c : Nat) (i : Int) : Bool := frx c i && !(c == 0 && (i == 0 || i == 13 || i == 26 || i == 33 || i == 34))
theorem fcq_t {c : Nat} {i : Int} (h : ¬ c = 1 ∧ ¬ (3 ≤ c ∧ c ≤ 5) ∧ ¬ (46 ≤ c ∧ c ≤ 62)) : fcq c i = true := by
  unfold fcq
  simp only [Bool.not_eq_true', Bool.or_eq_false_iff, Bool.and_eq_false_iff, decide_eq_false_iff_not, beq_eq_false_iff_ne, ne_eq]
  omega
theorem fCA_q (c : Nat) (i : Int) (h : fCA c i = true) : fcq c i = true := by
  unfold fCA at h
  simp only [Bool.and_eq_true, Bool.or_eq_true, beq_iff_eq, decide_eq_true_eq] at h
  exact fcq_t (by omega)
theorem fCM_q (c : Nat) (i : Int) (h : fCM c i = true) : fcq c i = true := by
  unfold fCM at h
  simp only [Bool.and_eq_true, Bool.or_eq_true, beq_iff_eq, decide_eq_true_eq] at h
  exact fcq_t (by omega)
theorem fCP_q (c : Nat) (i : Int) (h : fCP c i = true) : fcq c i = true := by
  unfold fCP at h
  simp only [Bool.and_eq_true, Bool.or_eq_true, beq_iff_eq, decide_eq_true_eq] at h
  exact fcq_t (by omega)
theorem fCL_q (c : Nat) (i : Int) (h : fCL c i = true) : fcq c i = true := by
  unfold fCL at h
  simp only [Bool.and_eq_true, Bool.or_eq_true, beq_iff_eq, decide_eq_true_eq] at h
  exact fcq_t (by omega)
theorem fCC_q (c : Nat) (i : Int) (h : fCC c i = true) : fcq c i = true := by
  unfold fCC at h
  simp only [Bool.and_eq_true, Bool.or_eq_true, beq_iff_eq, decide_eq_true_eq] at h
  exact fcq_t (by omega)
theorem fCK_q (c : Nat) (i : Int) (h : fCK c i = true) : fcq c i = true := by
  unfold fCK at h
  simp only [Bool.and_eq_true, Bool.or_eq_true, beq_iff_eq, decide_eq_true_eq] at h
  exact fcq_t (by omega)
theorem fCI_q (c : Nat) (i : Int) (h : fCI c i = true) : fcq c i = true := by
  unfold fCI at h
  simp only [Bool.and_eq_true, Bool.or_eq_true, beq_iff_eq, decide_eq_true_eq] at h
  exact fcq_t (by omega)
theorem frq_t {c : Nat} {i : Int} (h : (c = 0 ∧ (i = 3 ∨ i = 4 ∨ i = 9 ∨ i = 10 ∨ i = 11 ∨ i = 52 ∨ i = 56 ∨ i = 35 ∨ i = 39)) ∨ (1 ≤ c ∧ c ≤ 9) ∨ (24 ≤ c ∧ c ≤ 30)) : frq c i = true := by
  unfold frq frx
  simp only [Bool.and_eq_true, Bool.not_eq_true', Bool.or_eq_false_iff, Bool.and_eq_false_iff, decide_eq_false_iff_not, beq_eq_false_iff_ne, ne_eq]
  omega
theorem fRA_q (c : Nat) (i : Int) (h : fRA c i = true) : frq c i = true := by
  unfold fRA at h
  simp only [Bool.and_eq_true, Bool.or_eq_true, beq_iff_eq, decide_eq_true_eq] at h
  exact frq_t (by omega)
theorem fRC_q (c : Nat) (i : Int) (h : fRC c i = true) : frq c i = true := by
  unfold fRC at h
  simp only [Bool.and_eq_true, Bool.or_eq_true, beq_iff_eq, decide_eq_true_eq] at h
  exact frq_t (by omega)
theorem fRK_q (c : Nat) (i : Int) (h : fRK c i = true) : frq c i = true := by
  unfold fRK at h
  simp only [Bool.and_eq_true, Bool.or_eq_true, beq_iff_eq, decide_eq_true_eq] at h
  exact frq_t (by omega)
theorem fRI_q (c : Nat) (i : Int) (h : fRI c i = true) : frq c i = true := by
  unfold fRI at h
  simp only [Bool.and_eq_true, Bool.or_eq_true, beq_iff_eq, decide_eq_true_eq] at h
  exact frq_t (by omega)
theorem frq_x {c : Nat} {i : Int} (hc : c ≠ 0) (h : frx c i = true) : frq c i = true := by
  unfold frq
  simp [h, hc]
theorem Iv.tx (hI : Iv mu nu) (a : jm_ag fcq mu m) (b : jm_ag frq nu n) (t1 : m.1 1 1 = 0) (t13 : n.1 0 13 = 0) (t33 : n.1 0 33 = m.1 1 2) (t34 : n.1 0 34 = m.1 1 3) : Iv m n := by
  obtain ⟨i1, i2, i3, i4, i5, i6, i7, i8⟩ := hI
  refine ⟨i1.ag (a.sub fCA_q) (b.sub fRA_q), i2.tx (a.sub fCM_q) (fun x hx => b 17 x (frq_x (by decide) (frx_17 hx))) (b 0 35 (frq_t (by omega))), i3.tx (a.sub fCP_q) (fun x hx => b 19 x (frq_x (by decide) (frx_19 hx))) (b 0 39 (frq_t (by omega))), i4.tx (a.sub fCL_q) (b 9 1 (frq_t (by omega))) (fun c c1 c2 x hx => b c x (frq_x (by omega) (frx_10 c1 c2 hx))) (fun c hc x hx => b c x (frq_x (by omega) (frx_14 hc hx))), i5.ag (a.sub fCC_q) (b.sub fRC_q), i6.ag (a.sub fCK_q) (b.sub fRK_q), i7.ag (a.sub fCI_q) (b.sub fRI_q), ⟨by omega, by omega, by omega⟩, t33, t34, fun k k0 k1 => by omega, fun k hk => ?_⟩
  rw [b 8 k (frq_t (by omega))]
  exact i8.2.2.2.2 k hk
theorem ag_t {S : Nat → Int → Bool} {y : Nat} {z : Int} (xc : ∀ c, c ≠ y → c ≠ 0 → n'.1 c = n.1 c) (xi : ∀ i, ¬ i = z → ¬ i = 3 → n'.1 0 i = n.1 0 i) (s1 : y ≠ 0) (s2 : ∀ i, S y i = false) (s3 : S 0 z = false) (s4 : S 0 3 = false) : jm_ag S n n' := by
  intro c i h
  by_cases e : c = y
  · rw [e, s2 i] at h
    cases h
  · by_cases e0 : c = 0
    · rw [e0] at h ⊢
      by_cases e1 : i = z
      · rw [e1, s3] at h
        cases h
      · by_cases e2 : i = 3
        · rw [e2, s4] at h
          cases h
        · exact xi i e1 e2
    · rw [xc c e e0]
theorem ad_motives (hI : Iv m n) (dm : DM m n) (b0 : 0 ≤ m.1 46 0) (b1 : m.1 46 0 ≤ 16) (x17 : ∀ x, 0 ≤ x → x < 192 → n'.1 17 x = n.1 17 (192 + x)) (xc : ∀ c, c ≠ 17 → c ≠ 0 → n'.1 c = n.1 c) (x35 : n'.1 0 35 = m.1 46 0) (x3 : n'.1 0 3 = 0) (xi : ∀ i, ¬ i = 35 → ¬ i = 3 → n'.1 0 i = n.1 0 i) (em : m' = jm_wr (jm_wr (jm_cp (jm_cp (jm_wr m 12 0 (m.1 46 0)) 47 0 13 0 24) 48 0 14 0 168) 0 15 0) 0 16 0) : Iv m' n' := by
  obtain ⟨i1, i2, i3, i4, i5, i6, i7, i8⟩ := hI
  have gc : ∀ {S : Nat → Int → Bool}, S 12 0 = false → (∀ i, S 13 i = false) → (∀ i, S 14 i = false) → S 0 15 = false → S 0 16 = false → jm_ag S m m' := fun h1 h2 h3 h4 h5 => by
    rw [em]
    exact ((((jm_ag.rf.wr h1).cp h2).cp h3).wr h4).wr h5
  have gr : ∀ {S : Nat → Int → Bool}, (∀ i, S 17 i = false) → S 0 35 = false → S 0 3 = false → jm_ag S n n' := fun h1 h2 h3 => ag_t xc xi (by decide) h1 h2 h3
  have e12 : m'.1 12 0 = m.1 46 0 := by rw [em, jm_wrO (by decide), jm_wrO (by decide), jm_cpO (by decide), jm_cpO (by decide), jm_wrS]
  have e13 : ∀ x, 0 ≤ x → x < 24 → m'.1 13 x = m.1 47 x := fun x x0 x1 => by
    rw [em, jm_wrO (by decide), jm_wrO (by decide), jm_cpO (by decide), jm_cpS x0 (by omega), jm_wrO (by decide), show (0 : Int) + (x - 0) = x by omega]
  have e14 : ∀ x, 0 ≤ x → x < 168 → m'.1 14 x = m.1 48 x := fun x x0 x1 => by
    rw [em, jm_wrO (by decide), jm_wrO (by decide), jm_cpS x0 (by omega), jm_cpO (by decide), jm_wrO (by decide), show (0 : Int) + (x - 0) = x by omega]
  refine ⟨i1.ag (gc rfl (fun _ => rfl) (fun _ => rfl) rfl rfl) (gr (fun _ => rfl) rfl rfl), ⟨by omega, fun k k0 k1 => ?_, fun k i k0 k1 i0 i1 => ?_⟩, i3.ag (gc rfl (fun _ => rfl) (fun _ => rfl) rfl rfl) (gr (fun _ => rfl) rfl rfl), i4.ag (gc rfl (fun _ => rfl) (fun _ => rfl) rfl rfl) (gr (fun _ => rfl) rfl rfl), i5.ag (gc rfl (fun _ => rfl) (fun _ => rfl) rfl rfl) (gr (fun _ => rfl) rfl rfl), IK.zero ?_ ?_ x3, i7.ag (gc rfl (fun _ => rfl) (fun _ => rfl) rfl rfl) (gr (fun _ => rfl) rfl rfl), i8.ag (gc rfl (fun _ => rfl) (fun _ => rfl) rfl rfl) (gr (fun _ => rfl) rfl rfl)⟩
  · rw [e13 k k0 k1, x17 _ (by omega) (by omega)]
    exact dm.1 k k0 k1
  · rw [e13 k k0 k1] at i1
    have := dm.1 k k0 k1
    rw [e14 _ (by omega) (by omega), x17 _ (by omega) (by omega)]
    exact dm.2 k i k0 k1 i0 i1
  · rw [em, jm_wrI (by decide), jm_wrS]
  · rw [em, jm_wrS]
theorem ad_plan (hI : Iv m n) (hW : m.1 6 0 = W) (dp : DPF W m n) (b0 : 0 ≤ m.1 56 0) (b1 : m.1 56 0 ≤ 60) (x19 : ∀ x, 0 ≤ x → x < 4 * m.1 56 0 → n'.1 19 x = n.1 19 (240 + x)) (xc : ∀ c, c ≠ 19 → c ≠ 0 → n'.1 c = n.1 c) (x39 : n'.1 0 39 = m.1 56 0) (x3 : n'.1 0 3 = 0) (xi : ∀ i, ¬ i = 39 → ¬ i = 3 → n'.1 0 i = n.1 0 i) (em : m' = jm_wr (jm_wr (jm_cp (jm_cp (jm_cp (jm_cp (jm_wr m 22 0 (m.1 56 0)) 57 0 23 0 60) 58 0 24 0 60) 59 0 25 0 60) 60 0 26 0 60) 0 15 0) 0 16 0) : Iv m' n' := by
  obtain ⟨i1, i2, i3, i4, i5, i6, i7, i8⟩ := hI
  have gc : ∀ {S : Nat → Int → Bool}, S 22 0 = false → (∀ i, S 23 i = false) → (∀ i, S 24 i = false) → (∀ i, S 25 i = false) → (∀ i, S 26 i = false) → S 0 15 = false → S 0 16 = false → jm_ag S m m' := fun h1 h2 h3 h4 h5 h6 h7 => by
    rw [em]
    exact ((((((jm_ag.rf.wr h1).cp h2).cp h3).cp h4).cp h5).wr h6).wr h7
  have gr : ∀ {S : Nat → Int → Bool}, (∀ i, S 19 i = false) → S 0 39 = false → S 0 3 = false → jm_ag S n n' := fun h1 h2 h3 => ag_t xc xi (by decide) h1 h2 h3
  have e22 : m'.1 22 0 = m.1 56 0 := by rw [em, jm_wrO (by decide), jm_wrO (by decide), jm_cpO (by decide), jm_cpO (by decide), jm_cpO (by decide), jm_cpO (by decide), jm_wrS]
  have e6 : m'.1 6 0 = W := by rw [em, jm_wrO (by decide), jm_wrO (by decide), jm_cpO (by decide), jm_cpO (by decide), jm_cpO (by decide), jm_cpO (by decide), jm_wrO (by decide), hW]
  have e23 : ∀ x, 0 ≤ x → x < 60 → m'.1 23 x = m.1 57 x := fun x x0 x1 => by
    rw [em, jm_wrO (by decide), jm_wrO (by decide), jm_cpO (by decide), jm_cpO (by decide), jm_cpO (by decide), jm_cpS x0 (by omega), jm_wrO (by decide), show (0 : Int) + (x - 0) = x by omega]
  have e24 : ∀ x, 0 ≤ x → x < 60 → m'.1 24 x = m.1 58 x := fun x x0 x1 => by
    rw [em, jm_wrO (by decide), jm_wrO (by decide), jm_cpO (by decide), jm_cpO (by decide), jm_cpS x0 (by omega), jm_cpO (by decide), jm_wrO (by decide), show (0 : Int) + (x - 0) = x by omega]
  have e25 : ∀ x, 0 ≤ x → x < 60 → m'.1 25 x = m.1 59 x := fun x x0 x1 => by
    rw [em, jm_wrO (by decide), jm_wrO (by decide), jm_cpO (by decide), jm_cpS x0 (by omega), jm_cpO (by decide), jm_cpO (by decide), jm_wrO (by decide), show (0 : Int) + (x - 0) = x by omega]
  have e26 : ∀ x, 0 ≤ x → x < 60 → m'.1 26 x = m.1 60 x := fun x x0 x1 => by
    rw [em, jm_wrO (by decide), jm_wrO (by decide), jm_cpS x0 (by omega), jm_cpO (by decide), jm_cpO (by decide), jm_cpO (by decide), jm_wrO (by decide), show (0 : Int) + (x - 0) = x by omega]
  refine ⟨i1.ag (gc rfl (fun _ => rfl) (fun _ => rfl) (fun _ => rfl) (fun _ => rfl) rfl rfl) (gr (fun _ => rfl) rfl rfl), i2.ag (gc rfl (fun _ => rfl) (fun _ => rfl) (fun _ => rfl) (fun _ => rfl) rfl rfl) (gr (fun _ => rfl) rfl rfl), ⟨by omega, fun k k0 k1 => ?_⟩, i4.ag (gc rfl (fun _ => rfl) (fun _ => rfl) (fun _ => rfl) (fun _ => rfl) rfl rfl) (gr (fun _ => rfl) rfl rfl), i5.ag (gc rfl (fun _ => rfl) (fun _ => rfl) (fun _ => rfl) (fun _ => rfl) rfl rfl) (gr (fun _ => rfl) rfl rfl), IK.zero ?_ ?_ x3, i7.ag (gc rfl (fun _ => rfl) (fun _ => rfl) (fun _ => rfl) (fun _ => rfl) rfl rfl) (gr (fun _ => rfl) rfl rfl), i8.ag (gc rfl (fun _ => rfl) (fun _ => rfl) (fun _ => rfl) (fun _ => rfl) rfl rfl) (gr (fun _ => rfl) rfl rfl)⟩
  · rw [e22] at k1
    rw [e23 k k0 (by omega), e24 k k0 (by omega), e25 k k0 (by omega), e26 k k0 (by omega), e6, x19 _ (by omega) (by omega), x19 _ (by omega) (by omega), x19 _ (by omega) (by omega), x19 _ (by omega) (by omega), show 240 + (4 * k + 1) = 240 + 4 * k + 1 by omega, show 240 + (4 * k + 2) = 240 + 4 * k + 2 by omega, show 240 + (4 * k + 3) = 240 + 4 * k + 3 by omega]
    exact dp k k0 k1
  · rw [em, jm_wrI (by decide), jm_wrS]
  · rw [em, jm_wrS]
theorem ad_law (hI : Iv m n) (dl : DL t 400 m n) (ci : CI m) (l0 : 0 ≤ m.1 49 0) (l1 : m.1 49 0 ≤ 16) (o0 : 0 ≤ m.1 49 1) (o1 : m.1 49 1 ≤ 400) (c4 : n.1 0 27 ≤ 400) (x10 : ∀ c, 10 ≤ c → c ≤ 13 → ∀ x, 0 ≤ x → x < m.1 49 0 → n'.1 c (16 + x) = n.1 c (32 + x)) (x14 : ∀ c, c = 14 ∨ c = 15 → ∀ x, 0 ≤ x → x < n.1 0 27 → n'.1 c (400 + x) = n.1 c (800 + x)) (x9 : n'.1 9 1 = m.1 49 0) (xc : ∀ c, ¬ (9 ≤ c ∧ c ≤ 15) → n'.1 c = n.1 c) (em : m' = jm_cp (jm_cp (jm_cp (jm_cp (jm_cp (jm_wr (jm_wr m 15 0 (m.1 49 0)) 15 1 (m.1 49 1)) 50 0 16 0 400) 51 0 17 0 16) 52 0 18 0 16) 53 0 19 0 16) 54 0 20 0 16) : Iv m' n' := by
  obtain ⟨i1, i2, i3, i4, i5, i6, i7, i8⟩ := hI
  have gc : ∀ {S : Nat → Int → Bool}, (∀ c i, 15 ≤ c → c ≤ 20 → S c i = false) → jm_ag S m m' := fun h => by
    rw [em]
    exact ((((((jm_ag.rf.wr (h _ _ (by decide) (by decide))).wr (h _ _ (by decide) (by decide))).cp (fun i => h _ i (by decide) (by decide))).cp (fun i => h _ i (by decide) (by decide))).cp (fun i => h _ i (by decide) (by decide))).cp (fun i => h _ i (by decide) (by decide))).cp (fun i => h _ i (by decide) (by decide))
  have gr : ∀ {S : Nat → Int → Bool}, (∀ c i, 9 ≤ c → c ≤ 15 → S c i = false) → jm_ag S n n' := fun h c i q => by
    by_cases e : 9 ≤ c ∧ c ≤ 15
    · rw [h c i e.1 e.2] at q
      cases q
    · rw [xc c e]
  have k15 : ∀ (S : Nat → Int → Bool), (∀ i, S 15 i = false ∧ S 16 i = false ∧ S 17 i = false ∧ S 18 i = false ∧ S 19 i = false ∧ S 20 i = false) → ∀ c i, 15 ≤ c → c ≤ 20 → S c i = false := fun S h c i c1 c2 => by
    have : c = 15 ∨ c = 16 ∨ c = 17 ∨ c = 18 ∨ c = 19 ∨ c = 20 := by omega
    rcases this with rfl | rfl | rfl | rfl | rfl | rfl
    · exact (h i).1
    · exact (h i).2.1
    · exact (h i).2.2.1
    · exact (h i).2.2.2.1
    · exact (h i).2.2.2.2.1
    · exact (h i).2.2.2.2.2
  have k9 : ∀ (S : Nat → Int → Bool), (∀ i, S 9 i = false ∧ S 10 i = false ∧ S 11 i = false ∧ S 12 i = false ∧ S 13 i = false ∧ S 14 i = false ∧ S 15 i = false) → ∀ c i, 9 ≤ c → c ≤ 15 → S c i = false := fun S h c i c1 c2 => by
    have : c = 9 ∨ c = 10 ∨ c = 11 ∨ c = 12 ∨ c = 13 ∨ c = 14 ∨ c = 15 := by omega
    rcases this with rfl | rfl | rfl | rfl | rfl | rfl | rfl
    · exact (h i).1
    · exact (h i).2.1
    · exact (h i).2.2.1
    · exact (h i).2.2.2.1
    · exact (h i).2.2.2.2.1
    · exact (h i).2.2.2.2.2.1
    · exact (h i).2.2.2.2.2.2
  have e0 : m'.1 15 0 = m.1 49 0 := by rw [em, jm_cpO (by decide), jm_cpO (by decide), jm_cpO (by decide), jm_cpO (by decide), jm_cpO (by decide), jm_wrI (by decide), jm_wrS]
  have e1 : m'.1 15 1 = m.1 49 1 := by rw [em, jm_cpO (by decide), jm_cpO (by decide), jm_cpO (by decide), jm_cpO (by decide), jm_cpO (by decide), jm_wrS]
  have e16 : ∀ x, 0 ≤ x → x < 400 → m'.1 16 x = m.1 50 x := fun x x0 x1 => by
    rw [em, jm_cpO (by decide), jm_cpO (by decide), jm_cpO (by decide), jm_cpO (by decide), jm_cpS x0 (by omega), jm_wrO (by decide), jm_wrO (by decide), show (0 : Int) + (x - 0) = x by omega]
  have e17 : ∀ x, 0 ≤ x → x < 16 → m'.1 17 x = m.1 51 x := fun x x0 x1 => by
    rw [em, jm_cpO (by decide), jm_cpO (by decide), jm_cpO (by decide), jm_cpS x0 (by omega), jm_cpO (by decide), jm_wrO (by decide), jm_wrO (by decide), show (0 : Int) + (x - 0) = x by omega]
  have e18 : ∀ x, 0 ≤ x → x < 16 → m'.1 18 x = m.1 52 x := fun x x0 x1 => by
    rw [em, jm_cpO (by decide), jm_cpO (by decide), jm_cpS x0 (by omega), jm_cpO (by decide), jm_cpO (by decide), jm_wrO (by decide), jm_wrO (by decide), show (0 : Int) + (x - 0) = x by omega]
  have e19 : ∀ x, 0 ≤ x → x < 16 → m'.1 19 x = m.1 53 x := fun x x0 x1 => by
    rw [em, jm_cpO (by decide), jm_cpS x0 (by omega), jm_cpO (by decide), jm_cpO (by decide), jm_cpO (by decide), jm_wrO (by decide), jm_wrO (by decide), show (0 : Int) + (x - 0) = x by omega]
  have e20 : ∀ x, 0 ≤ x → x < 16 → m'.1 20 x = m.1 54 x := fun x x0 x1 => by
    rw [em, jm_cpS x0 (by omega), jm_cpO (by decide), jm_cpO (by decide), jm_cpO (by decide), jm_cpO (by decide), jm_wrO (by decide), jm_wrO (by decide), show (0 : Int) + (x - 0) = x by omega]
  refine ⟨i1.ag (gc (k15 _ (fun _ => ⟨rfl, rfl, rfl, rfl, rfl, rfl⟩))) (gr (k9 _ (fun _ => ⟨rfl, rfl, rfl, rfl, rfl, rfl, rfl⟩))), i2.ag (gc (k15 _ (fun _ => ⟨rfl, rfl, rfl, rfl, rfl, rfl⟩))) (gr (k9 _ (fun _ => ⟨rfl, rfl, rfl, rfl, rfl, rfl, rfl⟩))), i3.ag (gc (k15 _ (fun _ => ⟨rfl, rfl, rfl, rfl, rfl, rfl⟩))) (gr (k9 _ (fun _ => ⟨rfl, rfl, rfl, rfl, rfl, rfl, rfl⟩))), ⟨by omega, ?_⟩, i5.ag (gc (k15 _ (fun _ => ⟨rfl, rfl, rfl, rfl, rfl, rfl⟩))) (gr (k9 _ (fun _ => ⟨rfl, rfl, rfl, rfl, rfl, rfl, rfl⟩))), i6.ag (gc (k15 _ (fun _ => ⟨rfl, rfl, rfl, rfl, rfl, rfl⟩))) (gr (k9 _ (fun _ => ⟨rfl, rfl, rfl, rfl, rfl, rfl, rfl⟩))), i7.ag (gc (k15 _ (fun _ => ⟨rfl, rfl, rfl, rfl, rfl, rfl⟩))) (gr (k9 _ (fun _ => ⟨rfl, rfl, rfl, rfl, rfl, rfl, rfl⟩))), i8.ag (gc (k15 _ (fun _ => ⟨rfl, rfl, rfl, rfl, rfl, rfl⟩))) (gr (k9 _ (fun _ => ⟨rfl, rfl, rfl, rfl, rfl, rfl, rfl⟩)))⟩
  obtain ⟨⟨d1, d2, d3⟩, p, p0, p1, p2, p3, p4⟩ := dl
  rw [e0, e1]
  refine ⟨⟨o0, o1⟩, p, p0, by omega, fun i i0 i1 => ?_, fun x x0 x1 => ?_⟩
  · have q := p3 i i0 i1
    have a1 := jm_ordN q.2
    have b1 := p2 i i0 (by omega)
    have b2 := p2 (i + 1) (by omega) (by omega)
    rw [e16 i i0 (by omega)]
    refine ⟨q.1, q.2.cg ?_ (fun z => ?_) ?_⟩
    · exact x14 14 (Or.inl rfl) _ (by omega) (by omega)
    · exact x14 14 (Or.inl rfl) _ (by omega) (by omega)
    · exact x14 15 (Or.inr rfl) _ (by omega) (by omega)
  · obtain ⟨y1, y2, y3, y4, y5⟩ := p4 x x0 x1
    obtain ⟨z1, z2, z3, z4⟩ := ci x x0 x1
    rw [e17 x x0 (by omega), e18 x x0 (by omega), e19 x x0 (by omega), e20 x x0 (by omega)]
    refine ⟨z1.1, z1.2, ?_, z2.1, z2.2.1, z2.2.2.1, z2.2.2.2, ?_, ?_, ?_, z3.cg (fun i i0 i1 => e16 i (by omega) (by omega)), ?_⟩
    · show n'.1 10 (16 + x) = _
      rw [x10 10 (by decide) (by decide) x x0 x1, y1]
    · show n'.1 11 (16 + x) = _
      rw [x10 11 (by decide) (by decide) x x0 x1, y3]
    · show n'.1 12 (16 + x) = _
      rw [x10 12 (by decide) (by decide) x x0 x1, y4]
    · show n'.1 13 (16 + x) = _
      rw [x10 13 (by decide) (by decide) x x0 x1, y5]
    · rcases z4 with z4 | z4
      · exact Or.inl z4
      · exact Or.inr (z4.cg (fun i i0 i1 => e16 i (by omega) (by omega)))
end AP
