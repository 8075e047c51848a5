section TO
variable {l : Launch} {gC gR : jm_G} {d : Nat} {mu nu m n : jm_M} {v1 v2 v3 v4 v5 v6 : Int} {Q : Option Value → jm_M → Prop} {B K P S P' S' : Int → Int}
theorem CUT.cg {i t : Int} (h : CUT B P S i t) (hP : ∀ x, x < t → P' x = P x) (hS : ∀ x, x < t → S' x = S x) : CUT B P' S' i t := by
  obtain ⟨h0, h1, h2, h3, h4, h5, h6⟩ := h
  have ek : ∀ k, k ≤ t → eB P' S' k = eB P S k := fun k hk => eB_c (fun x hx => hP x (by omega)) (fun x hx => hS x (by omega))
  refine ⟨by rw [ek t (Int.le_refl t)]; exact h0, fun k a b => ?_, fun k x a b c e => ?_, fun x a b => ?_, fun k x a b c e => ?_, fun k a b => ?_, fun k a b c => ?_⟩
  · rw [ek k (by omega), hP k b, hS k b]
    exact h1 k a b
  · rw [ek k (by omega)] at c
    rw [hP k b] at e
    exact h2 k x a b c e
  · rw [ek t (Int.le_refl t)] at a
    exact h3 x a b
  · rw [hP k b] at c e ⊢
    rw [hS k b] at e
    exact h4 k x a b c e
  · rw [hP k b, hS k b]
    exact h5 k a b
  · rw [hP k (by omega)] at c ⊢
    rw [hS k (by omega)]
    exact h6 k a b c
/-- the kind of a token of the k-th text -/
def KD (k : Nat) (B : Int → Int) (p s kd : Int) : Prop := (srt (B p) = 1 ∧ ((∃ w : Nat, w < wc k ∧ mt B p s (wb k + w) ∧ kd = ((300 + w : Nat) : Int)) ∨ ((∀ w : Nat, w < wc k → ¬ mt B p s (wb k + w)) ∧ kd = 258))) ∨ (srt (B p) = 2 ∧ kd = if s ≤ 4 then 256 else 258) ∨ (srt (B p) = 4 ∧ kd = B p)
def TOK (B : Int → Int) (N : Int) (K P S : Int → Int) (t : Int) (k : Nat) : Prop := CUT B P S N t ∧ P t = N ∧ K t = 257 ∧ ∀ a, 0 ≤ a → a < t → KD k B (P a) (S a) (K a)
theorem srt_ne3 {b : Int} (h : ¬ srt b = 3) : ¬ b = 32 := by
  intro q
  subst q
  exact h (by decide)
theorem sX7_cut (hC : jm_HC gC) (hJ : jm_JS l gC) {N : Nat} (hN : N ≤ 400) (e1 : mu.1 1 1 = N) (b255 : ∀ x : Int, 0 ≤ x → x < N → 0 ≤ mu.1 2 x ∧ mu.1 2 x ≤ 255) {k : Nat} (hk : k < 3) (ek : v1 = 0 ∧ k = 0 ∨ v1 = 1 ∧ k = 1 ∨ (¬ v1 = 0 ∧ ¬ v1 = 1) ∧ k = 2) (r1 : jm_rg v1) (h : ∀ m t, jm_ag fcu mu m → m.1 1 7 = t → m.1 1 8 = 0 → TOK (mu.1 2) N (m.1 3) (m.1 4) (m.1 5) t k → Q none m) : jm_R l gC (d + 16) iX7_cutIntoTokens [.ref 1, jm_i v1] mu Q := by
  refine jm_RmrI (fun hm => ?_)
  have fin : ∀ m t, jm_ag fcu mu m → m.1 1 7 = t → m.1 1 8 = 0 → CUT (mu.1 2) (m.1 4) (m.1 5) N t → jm_V l gC (d + 16) iX7_cutIntoTokens 118 [(0, .ref 1), (2, .ref (1000 + k)), (4, jm_i 0)] [] m Q := by
    intro m t a e7 e8 hc
    have tb := hc.1
    have lp : ∀ (j i : Nat) (m' : jm_M), (i : Int) + j = t → jm_ag fcu mu m' → m'.1 1 7 = t → m'.1 1 8 = 0 → m'.1 4 = m.1 4 → m'.1 5 = m.1 5 → (∀ x, 0 ≤ x → x < (i : Int) → KD k (mu.1 2) (m.1 4 x) (m.1 5 x) (m'.1 3 x)) → jm_V l gC (d + 16) iX7_cutIntoTokens 118 [(0, .ref 1), (2, .ref (1000 + k)), (4, jm_i i)] [] m' Q := by
      intro j
      induction j with
      | zero =>
        intro i m' hi a' f7 f8 f4 f5 hK
        refine bX7_cutIntoTokens_118 hC ⟨⟨by omega, by omega⟩, fun _ => ?_, fun r => by omega⟩
        rw [f7]
        refine ⟨⟨by omega, by omega⟩, fun m3 g3 => ?_⟩
        have h7 : m3.1 1 7 = t := by rw [g3, jm_wrO (by decide)]; exact f7
        have h11 : m3.1 1 1 = N := by rw [g3, jm_wrO (by decide), a' 1 1 rfl]; exact e1
        rw [h7, h11]
        refine ⟨⟨by omega, by omega⟩, fun m6 g6 => ?_⟩
        have i7 : m6.1 1 7 = t := by rw [g6, jm_wrO (by decide)]; exact h7
        rw [i7]
        refine ⟨⟨by omega, by omega⟩, fun m9 g9 => ?_⟩
        have n3 : ∀ x, m9.1 3 x = if x = t then 257 else m'.1 3 x := fun x => by
          rw [g9, jm_wrO (by decide), g6, jm_wrO (by decide), g3]
          split
          · rename_i z; rw [z, jm_wrS]
          · rename_i z; rw [jm_wrI z]
        have n4 : ∀ x, m9.1 4 x = if x = t then (N : Int) else m.1 4 x := fun x => by
          rw [g9, jm_wrO (by decide), g6]
          split
          · rename_i z; rw [z, jm_wrS]
          · rename_i z; rw [jm_wrI z, g3, jm_wrO (by decide), f4]
        have n5 : ∀ x, m9.1 5 x = if x = t then 0 else m.1 5 x := fun x => by
          rw [g9]
          split
          · rename_i z; rw [z, jm_wrS]
          · rename_i z; rw [jm_wrI z, g6, jm_wrO (by decide), g3, jm_wrO (by decide), f5]
        refine h m9 t (by rw [g9, g6, g3]; exact ((a'.wr rfl).wr rfl).wr rfl) (by rw [g9, jm_wrO (by decide)]; exact i7) (by rw [g9, jm_wrO (by decide), g6, jm_wrO (by decide), g3, jm_wrO (by decide)]; exact f8) ⟨hc.cg (fun x hx => by rw [n4, if_neg (by omega)]) (fun x hx => by rw [n5, if_neg (by omega)]), by rw [n4, if_pos rfl], by rw [n3, if_pos rfl], fun x x0 x1 => ?_⟩
        rw [n3, n4, n5, if_neg (by omega), if_neg (by omega), if_neg (by omega)]
        exact hK x x0 (by omega)
      | succ j ih =>
        intro i m' hi a' f7 f8 f4 f5 hK
        have e2 : m'.1 2 = mu.1 2 := a'.cell (c := 2) (fun _ => rfl)
        have pn := hc.pn (k := i) (by omega) (by omega)
        have tk := hc.2.1 i (by omega) (by omega)
        have k5 := hc.2.2.2.2.2.1 i (by omega) (by omega)
        have by1 := b255 (m.1 4 i) pn (by omega)
        have fin1 : ∀ kd : Int, jm_rg kd → KD k (mu.1 2) (m.1 4 i) (m.1 5 i) kd → (0 ≤ (i : Int) ∧ (i : Int) < 401) ∧ ∀ m16, m16 = jm_wr m' 3 i kd → jm_V l gC (d + 16) iX7_cutIntoTokens 118 [(0, .ref 1), (2, .ref (1000 + k)), (4, jm_i ((i : Int) + 1))] [] m16 Q := by
          intro kd _ hkd
          refine ⟨⟨by omega, by omega⟩, fun m16 g => ?_⟩
          have nx := ih (i + 1) m16 (by omega) (by rw [g]; exact a'.wr rfl) (by rw [g, jm_wrO (by decide)]; exact f7) (by rw [g, jm_wrO (by decide)]; exact f8) (by rw [g, ← f4]; funext x; rw [jm_wrO (by decide)]) (by rw [g, ← f5]; funext x; rw [jm_wrO (by decide)]) (fun x x0 x1 => by
            rw [g]
            by_cases z : x = i
            · rw [z, jm_wrS]; exact hkd
            · rw [jm_wrI z]; exact hK x x0 (by omega))
          rw [show ((i + 1 : Nat) : Int) = (i : Int) + 1 by omega] at nx
          exact nx
        refine bX7_cutIntoTokens_118 hC ⟨⟨by omega, by omega⟩, fun r => by omega, fun _ => ?_⟩
        refine eX7_kindOf hC ⟨⟨by omega, by omega⟩, by rw [f4]; exact ⟨by omega, by omega⟩, fun x3 g3 => ?_⟩
        rw [f4, e2] at g3
        have sb := srt_b x3
        refine sX7_sortOf hC ⟨by omega, by omega⟩ (jm_qiI ⟨by omega, by omega⟩ ⟨fun q => ⟨fun q2 => ?_, fun q2 => ⟨fun q3 => ?_, fun q3 => ?_⟩⟩, fun q => ?_⟩)
        · rw [g3] at q q2 sb ⊢
          exact jm_qiI ⟨by omega, by omega⟩ (fin1 _ ⟨by omega, by omega⟩ (Or.inr (Or.inr ⟨by have := k5.1; omega, rfl⟩)))
        · rw [g3] at q2
          rw [f5] at q3
          exact jm_qiI ⟨by decide, by decide⟩ (fin1 258 ⟨by decide, by decide⟩ (Or.inr (Or.inl ⟨q2, by rw [if_neg (by omega)]⟩)))
        · rw [g3] at q2
          rw [f5] at q3
          exact jm_qiI ⟨by decide, by decide⟩ (fin1 256 ⟨by decide, by decide⟩ (Or.inr (Or.inl ⟨q2, by rw [if_pos q3]⟩)))
        · rw [g3] at q
          have wl : wc k ≤ 18 := by unfold wc; split <;> (try split) <;> omega
          refine sX7_wordOf (d := d) hC hJ hk (by omega) (by omega) (by rw [f4]; exact pn) (by rw [f5]; omega) (by rw [f4, f5]; omega) (fun w hw hz => ?_) (fun hz => ?_)
          · rw [f4, f5, e2] at hz
            exact jm_qiI ⟨by omega, by omega⟩ (jm_qiI ⟨by omega, by omega⟩ (fin1 _ ⟨by omega, by omega⟩ (Or.inl ⟨q, Or.inl ⟨w, hw, hz, rfl⟩⟩)))
          · rw [f4, f5, e2] at hz
            exact jm_qiI ⟨by decide, by decide⟩ (jm_qiI ⟨by decide, by decide⟩ (fin1 _ ⟨by decide, by decide⟩ (Or.inl ⟨q, Or.inr ⟨hz, rfl⟩⟩)))
    exact lp t.toNat 0 m (by omega) a e7 e8 rfl rfl (fun x x0 x1 => by omega)
  have go : jm_V l gC (d + 16) iX7_cutIntoTokens 21 [(0, .ref 1)] [.ref (1000 + k)] mu Q := by
    refine bX7_cutIntoTokens_21 hC (fun m1 g1 m3 g3 => ?_)
    have a3 : jm_ag fcu mu m3 := by rw [g3, g1]; exact ((jm_ag.rf).wr rfl).wr rfl
    refine lX7_cut (d := d + 13) hC hN e1 hm fin N 0 m3 0 3 (by omega) a3 (by rw [g3, jm_wrI (by decide), g1, jm_wrS]) (by rw [g3, jm_wrS]) ?_ (fun _ => rfl) (fun r => by omega)
    refine ⟨⟨Int.le_refl 0, by omega, by rw [eB_0]; omega⟩, fun k a b => by omega, fun k x a b => by omega, fun x a b => ?_, fun k x a b => by omega, fun k a b => by omega, fun k a b => by omega⟩
    rw [eB_0] at a
    omega
  refine eX7_cutIntoTokens hC ⟨r1, fun q => ⟨fun q2 => ?_, fun q2 => ?_⟩, fun q => ?_⟩
  · have e : k = 2 := by omega
    subst e
    exact go
  · have e : k = 1 := by omega
    subst e
    exact go
  · have e : k = 0 := by omega
    subst e
    exact go
/-- the number that a row of digits tells -/
def nvN (B : Int → Int) (p : Int) : Nat → Int
  | 0 => 0
  | n + 1 => nvN B p n * 10 + B (p + n) - 48
theorem srt_2 {b : Int} (h : srt b = 2) : 48 ≤ b ∧ b ≤ 57 := by
  unfold srt at h
  split at h
  · omega
  · split at h
    · omega
    · split at h
      · assumption
      · split at h <;> omega
theorem nv_b {p : Int} : ∀ k : Nat, k ≤ 4 → (∀ x : Nat, x < k → 48 ≤ B (p + x) ∧ B (p + x) ≤ 57) → 0 ≤ nvN B p k ∧ nvN B p k < 10 ^ k
  | 0, _, _ => by
    show (0 : Int) ≤ 0 ∧ (0 : Int) < 10 ^ 0
    decide
  | k + 1, h, hd => by
    have ih := nv_b k (by omega) (fun x hx => hd x (by omega))
    have b := hd k (by omega)
    show 0 ≤ nvN B p k * 10 + B (p + k) - 48 ∧ nvN B p k * 10 + B (p + k) - 48 < 10 ^ (k + 1)
    rw [Int.pow_succ]
    omega
theorem TOK.dig {N t a : Int} {k : Nat} (h : TOK B N K P S t k) (a0 : 0 ≤ a) (a1 : a < t) (q : K a = 256) (b255 : ∀ x, 0 ≤ x → x < N → 0 ≤ B x ∧ B x ≤ 255) : srt (B (P a)) = 2 ∧ 1 ≤ S a ∧ S a ≤ 4 ∧ (∀ x : Nat, (x : Int) < S a → 48 ≤ B (P a + x) ∧ B (P a + x) ≤ 57) := by
  have hk := h.2.2.2 a a0 a1
  have tk := h.1.2.1 a a0 a1
  have pn := h.1.pn a0 a1
  have s2 : srt (B (P a)) = 2 ∧ S a ≤ 4 := by
    rcases hk with ⟨z, w⟩ | ⟨z, w⟩ | ⟨z, w⟩
    · rcases w with ⟨w, -, -, e⟩ | ⟨-, e⟩ <;> omega
    · split at w
      · rename_i c
        exact ⟨z, c⟩
      · omega
    · have := b255 (P a) pn (by omega)
      omega
  refine ⟨s2.1, tk.2.1, s2.2, fun x hx => ?_⟩
  have run := h.1.2.2.2.2.1 a (P a + x) a0 a1 (by omega) (by omega)
  exact srt_2 (by rw [run]; exact s2.1)
theorem sX7_number (hC : jm_HC gC) {N t a : Int} {k : Nat} (hT : TOK B N (m.1 3) (m.1 4) (m.1 5) t k) (b255 : ∀ x, 0 ≤ x → x < N → 0 ≤ B x ∧ B x ≤ 255) (N4 : N ≤ 400) (eB2 : m.1 2 = B) (e8 : m.1 1 8 = a) (a0 : 0 ≤ a) (a1 : a < t) (q : m.1 3 a = 256) (h : Q (some (jm_i (nvN B (m.1 4 a) (m.1 5 a).toNat))) m) : jm_R l gC (d + 1) iX7_number [.ref 1] m Q := by
  obtain ⟨s2, s1, s4, dg⟩ := hT.dig a0 a1 q b255
  have tk := hT.1.2.1 a a0 a1
  have tb := hT.1.1
  have pn := hT.1.pn a0 a1
  have lp : ∀ (j i : Nat), (i : Int) + j = m.1 5 a → jm_V l gC (d + 1) iX7_number 4 [(0, .ref 1), (1, jm_i (nvN B (m.1 4 a) i)), (2, jm_i i)] [] m Q := by
    intro j
    induction j with
    | zero =>
      intro i hi
      refine bX7_number_4 hC ?_
      rw [e8]
      refine ⟨⟨by omega, by omega⟩, ⟨by omega, by omega⟩, fun _ => ?_, fun r => by omega⟩
      rw [show (m.1 5 a).toNat = i by omega] at h
      exact h
    | succ j ih =>
      intro i hi
      refine bX7_number_4 hC ?_
      rw [e8, eB2]
      refine ⟨⟨by omega, by omega⟩, ⟨by omega, by omega⟩, fun r => by omega, fun _ => ⟨fun r => by omega, fun _ => ⟨⟨by omega, by omega⟩, fun r => by omega, fun _ => ⟨⟨by omega, by omega⟩, fun x5 e5 => ?_⟩⟩⟩⟩
      have nx := ih (i + 1) (by omega)
      rw [show ((i + 1 : Nat) : Int) = (i : Int) + 1 by omega] at nx
      rw [e5]
      exact nx
  exact eX7_number hC (lp (m.1 5 a).toNat 0 (by omega))
end TO
