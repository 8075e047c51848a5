section LW
variable {l : Launch} {gC gR : jm_G} {d : Nat} {mu nu : jm_M} {v1 v2 v3 v4 v5 : Int} {Q : Option Value → jm_M → Prop}
/-! what orders tell, as a stack of numbers -/
def jn (k x y : Int) : Int := if k = 4 then jm_nm (x * y) else if k = 5 then jm_nm (x + y) else if k = 6 then jm_nm (x - y) else if k = 7 then (if x < y then 1 else 0) else if k = 8 then (if x = y then 1 else 0) else if k = 9 then (if y < x then 1 else 0) else if k = 10 then (if x = 1 ∧ y = 1 then 1 else 0) else (if x = 1 ∨ y = 1 then 1 else 0)
def stp (k a : Int) (T : Int → Int) (s : List Int) : List Int := if k = 0 then a :: s else if k = 1 then T a :: s else if k = 2 then (match s with | x :: r => x.tdiv a :: r | [] => []) else if k = 3 then (match s with | x :: r => (1 - x) :: r | [] => []) else (match s with | y :: x :: r => jn k x y :: r | _ => [])
def evS (ord T : Int → Int) (a : Int) : Nat → List Int
  | 0 => []
  | n + 1 => stp (ord (a + n) / 16384) (ord (a + n) % 16384) T (evS ord T a n)
def ev (ord T : Int → Int) (a e : Int) : Int := (evS ord T a (e - a).toNat).headD 0
def okS : List Bool → List Int → Prop
  | [], [] => True
  | b :: t, v :: s => (jm_rg v ∧ (b = true → v = 0 ∨ v = 1)) ∧ okS t s
  | _, _ => False
def rep (c : Nat) (m : jm_M) : List Int → Prop
  | [] => True
  | x :: r => m.1 c r.length = x ∧ rep c m r
theorem okS_len : ∀ (t : List Bool) (s : List Int), okS t s → s.length = t.length
  | [], [], _ => rfl
  | b :: t, v :: s, h => by
    show s.length + 1 = t.length + 1
    rw [okS_len t s h.2]
  | [], _ :: _, h => h.elim
  | _ :: _, [], h => h.elim
theorem rep_wr {c : Nat} {m : jm_M} {i x : Int} : ∀ s : List Int, rep c m s → (s.length : Int) ≤ i → rep c (jm_wr m c i x) s
  | [], _, _ => trivial
  | y :: r, h, hi => by
    have hl : ((y :: r).length : Int) = r.length + 1 := by simp
    refine ⟨?_, rep_wr r h.2 (by omega)⟩
    rw [jm_wrI (by omega)]
    exact h.1
theorem rep_ext {c : Nat} {m n : jm_M} (e : n.1 c = m.1 c) : ∀ s : List Int, rep c m s → rep c n s
  | [], _ => trivial
  | y :: r, h => ⟨by rw [e]; exact h.1, rep_ext e r h.2⟩
/-- all but cell c as it was -/
def jm_o (c : Nat) (m n : jm_M) : Prop := ∀ k, k ≠ c → n.1 k = m.1 k
theorem jm_o.rf {c : Nat} {m : jm_M} : jm_o c m m := fun _ _ => rfl
theorem jm_o.wr {c : Nat} {m n : jm_M} (h : jm_o c m n) {i x : Int} : jm_o c m (jm_wr n c i x) := fun k hk => by
  funext b
  rw [jm_wrO hk, h k hk]
theorem jm_o.aC {c : Nat} {m n : jm_M} (h : jm_o c m n) (hc : jm_cC c = false) (hf : ∀ i, jm_fC c i = false) : jm_aC m n := ⟨fun k hk => h k (fun e => by rw [e, hc] at hk; cases hk), fun k i hk => by rw [h k (fun e => by rw [e, hf i] at hk; cases hk)]⟩
theorem jm_o.aR {c : Nat} {m n : jm_M} (h : jm_o c m n) (hc : jm_cR c = false) (h0 : c ≠ 0) : jm_aR m n := ⟨fun k hk => h k (fun e => by rw [e, hc] at hk; cases hk), fun i _ => by rw [h 0 (fun e => h0 e.symm)]⟩
theorem jm_tdB {x a : Int} (hx : jm_rg x) (ha : 1 ≤ a) : jm_rg (x.tdiv a) := by
  obtain ⟨x0, x1⟩ := hx
  by_cases h : 0 ≤ x
  · rw [Int.tdiv_eq_ediv_of_nonneg h]
    have h1 := Int.ediv_nonneg h (by omega : 0 ≤ a)
    have h2 := Int.ediv_le_self a h
    exact ⟨by omega, by omega⟩
  · have e : x.tdiv a = -((-x).tdiv a) := by rw [Int.neg_tdiv, Int.neg_neg]
    rw [e, Int.tdiv_eq_ediv_of_nonneg (by omega)]
    have h1 := Int.ediv_nonneg (by omega : 0 ≤ -x) (by omega : 0 ≤ a)
    have h2 := Int.ediv_le_self a (by omega : 0 ≤ -x)
    exact ⟨by omega, by omega⟩
/-- an order that can stand -/
def odK (o : Int) : Prop := (0 ≤ o ∧ o < 2147483648) ∧ (0 ≤ o / 16384 ∧ o / 16384 ≤ 11) ∧ (o / 16384 = 0 → o % 16384 ≤ 9999) ∧ (o / 16384 = 1 → o % 16384 ≤ 10) ∧ (o / 16384 = 2 → 1 ≤ o % 16384)
theorem odK_of {o p n : Int} {op arg : Int → Int} (h0 : 0 ≤ o) (h : jm_ord (o / 16384) (o % 16384) op arg p n) : odK o := by
  unfold jm_ord at h
  have m1 := Int.emod_nonneg o (by decide : (16384 : Int) ≠ 0)
  have m2 := Int.emod_lt_of_pos o (by decide : (0 : Int) < 16384)
  unfold odK
  omega
theorem okS_stp {k a : Int} {T : Int → Int} {t t' : List Bool} {s : List Int} (hT : ∀ i, jm_rg (T i)) (h : okS t s) (ht : jm_typ k t t') (ha : 0 ≤ a ∧ a ≤ 16383) (h2 : k = 2 → 1 ≤ a) : okS t' (stp k a T s) := by
  unfold jm_typ at ht
  rcases ht with ⟨hk, rfl⟩ | ⟨hk, r, rfl, rfl⟩ | ⟨hk, r, rfl, rfl⟩ | ⟨hk, r, rfl, rfl⟩ | ⟨hk, r, rfl, rfl⟩ | ⟨hk, r, rfl, rfl⟩
  · rcases hk with rfl | rfl
    · exact ⟨⟨⟨by omega, by omega⟩, fun q => by cases q⟩, h⟩
    · exact ⟨⟨hT _, fun q => by cases q⟩, h⟩
  · subst hk
    cases s with
    | nil => exact h.elim
    | cons x s => exact ⟨⟨jm_tdB h.1.1 (h2 rfl), fun q => by cases q⟩, h.2⟩
  · subst hk
    cases s with
    | nil => exact h.elim
    | cons x s =>
      have := h.1.2 rfl
      exact ⟨⟨⟨by omega, by omega⟩, fun _ => by omega⟩, h.2⟩
  · cases s with
    | nil => exact h.elim
    | cons y s =>
      cases s with
      | nil => exact h.2.elim
      | cons x s =>
        rcases hk with rfl | rfl | rfl <;> exact ⟨⟨jm_rgT _, fun q => by cases q⟩, h.2.2⟩
  · cases s with
    | nil => exact h.elim
    | cons y s =>
      cases s with
      | nil => exact h.2.elim
      | cons x s =>
        have z : ∀ c : Prop, [Decidable c] → jm_rg (if c then (1 : Int) else 0) ∧ (true = true → (if c then (1 : Int) else 0) = 0 ∨ (if c then (1 : Int) else 0) = 1) := fun c _ => by
          by_cases hc : c
          · rw [if_pos hc]; exact ⟨⟨by decide, by decide⟩, fun _ => Or.inr rfl⟩
          · rw [if_neg hc]; exact ⟨⟨by decide, by decide⟩, fun _ => Or.inl rfl⟩
        rcases hk with rfl | rfl | rfl
        · exact ⟨z (x < y), h.2.2⟩
        · exact ⟨z (x = y), h.2.2⟩
        · exact ⟨z (y < x), h.2.2⟩
  · cases s with
    | nil => exact h.elim
    | cons y s =>
      cases s with
      | nil => exact h.2.elim
      | cons x s =>
        have z : ∀ c : Prop, [Decidable c] → jm_rg (if c then (1 : Int) else 0) ∧ (true = true → (if c then (1 : Int) else 0) = 0 ∨ (if c then (1 : Int) else 0) = 1) := fun c _ => by
          by_cases hc : c
          · rw [if_pos hc]; exact ⟨⟨by decide, by decide⟩, fun _ => Or.inr rfl⟩
          · rw [if_neg hc]; exact ⟨⟨by decide, by decide⟩, fun _ => Or.inl rfl⟩
        rcases hk with rfl | rfl
        · exact ⟨z (x = 1 ∧ y = 1), h.2.2⟩
        · exact ⟨z (x = 1 ∨ y = 1), h.2.2⟩
theorem jm_sh14 {o : Int} (h : odK o) : jm_shr o 14 = o / 16384 := by
  have := jm_shrB (a := o) ⟨by have := h.1; omega, by have := h.1; omega⟩ 14 (by decide)
  exact this
theorem jm_an14 {o : Int} (h : odK o) : jm_and o 16383 = o % 16384 := jm_andM h.1.1 h.1.2 14 (by decide)
/-- a stretch of orders: where it can be run -/
def sgK (ord : Int → Int) (s : Int → List Bool) (a e : Int) : Prop := s a = [] ∧ ∀ i, a ≤ i → i < e → odK (ord i) ∧ jm_typ (ord i / 16384) (s i) (s (i + 1)) ∧ (s i).length ≤ 40
theorem okS_ev {ord T : Int → Int} {s : Int → List Bool} {a e : Int} (hT : ∀ i, jm_rg (T i)) (h : sgK ord s a e) : ∀ n : Nat, a + n ≤ e → okS (s (a + n)) (evS ord T a n)
  | 0, _ => by
    rw [show a + ((0 : Nat) : Int) = a by omega, h.1]
    trivial
  | n + 1, hn => by
    have ih := okS_ev hT h n (by omega)
    obtain ⟨h1, h2, h3⟩ := h.2 (a + n) (by omega) (by omega)
    rw [show a + ((n + 1 : Nat) : Int) = a + n + 1 by omega]
    have m1 := Int.emod_nonneg (ord (a + n)) (by decide : (16384 : Int) ≠ 0)
    have m2 := Int.emod_lt_of_pos (ord (a + n)) (by decide : (0 : Int) < 16384)
    exact okS_stp hT ih h2 ⟨m1, by omega⟩ (fun q => h1.2.2.2.2 q)
theorem sX3_joined (hC : jm_HC gC) {F : Int → jm_M → Prop} (r1 : jm_rg v1) (r2 : jm_rg v2) (r3 : jm_rg v3) (h4 : 4 ≤ v1 ∧ v1 ≤ 11) (hb : 10 ≤ v1 → (v2 = 0 ∨ v2 = 1) ∧ (v3 = 0 ∨ v3 = 1)) (h : F (jn v1 v2 v3) mu) : jm_R l gC (d + 1) iX3_joined [jm_i v1, jm_i v2, jm_i v3] mu (jm_qi F) := by
  have nm : ∀ z : Int, F (jm_nm z) mu → jm_qi F (some (jm_i z)) mu := fun z hz => ⟨jm_nm z, by rw [jm_iN], jm_rgT _, hz⟩
  refine eX3_joined hC ⟨r1, fun q => ?_, fun q => ?_, fun q => ?_, fun q => ⟨r2, r3, fun r => ?_, fun r => ?_⟩, fun q => ⟨r2, r3, fun r => ?_, fun r => ?_⟩, fun q => ⟨r2, r3, fun r => ?_, fun r => ?_⟩, fun q => ?_, fun q => ?_⟩
  · subst q; exact nm _ h
  · subst q; exact nm _ h
  · subst q; exact nm _ h
  · subst q
    have e : jn 7 v2 v3 = 0 := by show (if v2 < v3 then (1 : Int) else 0) = 0; rw [if_neg (by omega)]
    rw [e] at h
    exact jm_qiI ⟨by decide, by decide⟩ h
  · subst q
    have e : jn 7 v2 v3 = 1 := by show (if v2 < v3 then (1 : Int) else 0) = 1; rw [if_pos (by omega)]
    rw [e] at h
    exact jm_qiI ⟨by decide, by decide⟩ h
  · subst q
    have e : jn 8 v2 v3 = 0 := by show (if v2 = v3 then (1 : Int) else 0) = 0; rw [if_neg r]
    rw [e] at h
    exact jm_qiI ⟨by decide, by decide⟩ h
  · subst q
    have e : jn 8 v2 v3 = 1 := by show (if v2 = v3 then (1 : Int) else 0) = 1; rw [if_pos r]
    rw [e] at h
    exact jm_qiI ⟨by decide, by decide⟩ h
  · subst q
    have e : jn 9 v2 v3 = 0 := by show (if v3 < v2 then (1 : Int) else 0) = 0; rw [if_neg (by omega)]
    rw [e] at h
    exact jm_qiI ⟨by decide, by decide⟩ h
  · subst q
    have e : jn 9 v2 v3 = 1 := by show (if v3 < v2 then (1 : Int) else 0) = 1; rw [if_pos (by omega)]
    rw [e] at h
    exact jm_qiI ⟨by decide, by decide⟩ h
  · subst q
    have e : jn 10 v2 v3 = jm_and v2 v3 := by
      obtain ⟨b1, b2⟩ := hb (by decide)
      rcases b1 with rfl | rfl <;> rcases b2 with rfl | rfl <;> decide +kernel
    rw [e] at h
    exact jm_qiI (jm_rgT _) h
  · have q2 : v1 = 11 := by omega
    subst q2
    have e : jn 11 v2 v3 = jm_or v2 v3 := by
      obtain ⟨b1, b2⟩ := hb (by decide)
      rcases b1 with rfl | rfl <;> rcases b2 with rfl | rfl <;> decide +kernel
    rw [e] at h
    exact jm_qiI (jm_rgT _) h
/-- the class runs a stretch of orders -/
theorem lX3_worth (hC : jm_HC gC) {s : Int → List Bool} {a e : Int} (a0 : 0 ≤ a) (e4 : e ≤ 400) (hT : ∀ i, jm_rg (mu.1 36 i)) (h : sgK (mu.1 16) s a e) (hQ : ∀ m, jm_o 21 mu m → rep 21 m (evS (mu.1 16) (mu.1 36) a (e - a).toNat) → Q (some (jm_i (m.1 21 0))) m) (n : Nat) : ∀ (k : Nat) (m : jm_M), a + k + n = e → jm_o 21 mu m → rep 21 m (evS (mu.1 16) (mu.1 36) a k) → jm_V l gC (d + 2) iX3_worth 6 [(0, .ref 15), (2, jm_i e), (3, .ref 36), (4, jm_i ((evS (mu.1 16) (mu.1 36) a k).length : Int)), (5, jm_i (a + k))] [] m Q := by
  induction n with
  | zero =>
    intro k m hk ho hr
    refine bX3_worth_6 hC ⟨⟨by omega, by omega⟩, ⟨by omega, by omega⟩, fun _ => hQ m ho ?_, fun r => by omega⟩
    rw [show (e - a).toNat = k by omega]
    exact hr
  | succ n ih =>
    intro k m hk ho hr
    have ok := okS_ev hT h k (by omega)
    obtain ⟨h1, h2, h3⟩ := h.2 (a + k) (by omega) (by omega)
    have len := okS_len _ _ ok
    have e16 : m.1 16 (a + k) = mu.1 16 (a + k) := by rw [ho 16 (by decide)]
    have m1 := Int.emod_nonneg (mu.1 16 (a + k)) (by decide : (16384 : Int) ≠ 0)
    have m2 := Int.emod_lt_of_pos (mu.1 16 (a + k)) (by decide : (0 : Int) < 16384)
    have nx : ∀ m2 : jm_M, jm_o 21 mu m2 → rep 21 m2 (stp (mu.1 16 (a + k) / 16384) (mu.1 16 (a + k) % 16384) (mu.1 36) (evS (mu.1 16) (mu.1 36) a k)) → ∀ t : Int, t = ((stp (mu.1 16 (a + k) / 16384) (mu.1 16 (a + k) % 16384) (mu.1 36) (evS (mu.1 16) (mu.1 36) a k)).length : Int) → jm_V l gC (d + 2) iX3_worth 6 [(0, .ref 15), (2, jm_i e), (3, .ref 36), (4, jm_i t), (5, jm_i (a + k + 1))] [] m2 Q := by
      intro m2 o2 r2 t ht
      rw [ht, show a + (k : Int) + 1 = a + ((k + 1 : Nat) : Int) by omega]
      exact ih (k + 1) m2 (by omega) o2 r2
    generalize evS (mu.1 16) (mu.1 36) a k = S at ok len hr nx ⊢
    refine bX3_worth_6 hC ⟨⟨by omega, by omega⟩, ⟨by omega, by omega⟩, fun r => by omega, fun _ => ⟨fun r => by omega, fun _ => ⟨⟨by omega, by omega⟩, fun x4 x4e x5 x5e => ?_⟩⟩⟩
    rw [e16, jm_sh14 h1] at x4e
    rw [e16, jm_an14 h1] at x5e
    rw [← x4e, ← x5e] at nx
    rw [← x4e] at h2
    have k2 : x4 = 2 → 1 ≤ x5 := fun q => by rw [x5e]; exact h1.2.2.2.2 (by rw [← x4e]; exact q)
    have k1 : x4 = 1 → x5 ≤ 10 := fun q => by rw [x5e]; exact h1.2.2.2.1 (by rw [← x4e]; exact q)
    have kb : 0 ≤ x4 ∧ x4 ≤ 11 := by rw [x4e]; exact h1.2.1
    have x5b : 0 ≤ x5 ∧ x5 < 16384 := by rw [x5e]; exact ⟨m1, m2⟩
    have S4 : (S.length : Int) ≤ 40 := by omega
    have e36 : m.1 36 = mu.1 36 := ho 36 (by decide)
    unfold jm_typ at h2
    refine ⟨fun q0 => bX3_worth_72 hC ⟨⟨by omega, by omega⟩, fun q1 => bX3_worth_109 hC ⟨⟨by omega, by omega⟩, fun q2 => bX3_worth_149 hC ⟨⟨by omega, by omega⟩, fun q3 => ?_, fun q3 => ?_⟩, fun q2 => ?_⟩, fun q1 => ?_⟩, fun q0 => ?_⟩
    · -- two into one
      have two : ∃ y x r, S = y :: x :: r ∧ jm_rg y ∧ jm_rg x ∧ (10 ≤ x4 → (x = 0 ∨ x = 1) ∧ (y = 0 ∨ y = 1)) := by
        rcases h2 with ⟨hk, -⟩ | ⟨hk, -⟩ | ⟨hk, -⟩ | ⟨hk, r, hs, -⟩ | ⟨hk, r, hs, -⟩ | ⟨hk, r, hs, -⟩
        · omega
        · omega
        · omega
        · rw [hs] at ok
          cases S with
          | nil => exact ok.elim
          | cons y S => cases S with
            | nil => exact ok.2.elim
            | cons x S => exact ⟨y, x, S, rfl, ok.1.1, ok.2.1.1, fun q => by omega⟩
        · rw [hs] at ok
          cases S with
          | nil => exact ok.elim
          | cons y S => cases S with
            | nil => exact ok.2.elim
            | cons x S => exact ⟨y, x, S, rfl, ok.1.1, ok.2.1.1, fun q => by omega⟩
        · rw [hs] at ok
          cases S with
          | nil => exact ok.elim
          | cons y S => cases S with
            | nil => exact ok.2.elim
            | cons x S => exact ⟨y, x, S, rfl, ok.1.1, ok.2.1.1, fun q => ⟨ok.2.1.2 rfl, ok.1.2 rfl⟩⟩
      obtain ⟨y, x, r, rfl, ry, rx, hb⟩ := two
      have L2 : ((y :: x :: r).length : Int) = r.length + 2 := by simp; omega
      have i1 : ((y :: x :: r).length : Int) + -1 = ((x :: r).length : Int) := by simp; omega
      have i2 : ((y :: x :: r).length : Int) + -1 - 1 = (r.length : Int) := by simp; omega
      refine bX3_worth_183 hC ⟨⟨by omega, by omega⟩, fun q => by omega, fun _ => ⟨⟨by omega, by omega⟩, ⟨by omega, by omega⟩, ?_⟩⟩
      rw [i2, i1]
      rw [hr.1, hr.2.1]
      refine sX3_joined hC ⟨by omega, by omega⟩ rx ry (by omega) hb (fun m8 e8 => ?_)
      subst e8
      have es : stp x4 x5 (mu.1 36) (y :: x :: r) = jn x4 x y :: r := by
        unfold stp
        rw [if_neg q0, if_neg q1, if_neg q2, if_neg q3]
      rw [es] at nx
      exact nx _ ho.wr ⟨jm_wrS, rep_wr r hr.2.2 (Int.le_refl _)⟩ _ (by simp)
    · -- not
      subst q3
      cases S with
      | nil =>
        rcases h2 with ⟨hk, -⟩ | ⟨hk, -⟩ | ⟨-, r, hs, -⟩ | ⟨hk, -⟩ | ⟨hk, -⟩ | ⟨hk, -⟩
        · omega
        · omega
        · rw [hs] at ok; exact ok.elim
        · omega
        · omega
        · omega
      | cons x r =>
        have hx : x = 0 ∨ x = 1 := by
          rcases h2 with ⟨hk, -⟩ | ⟨hk, -⟩ | ⟨-, r, hs, -⟩ | ⟨hk, -⟩ | ⟨hk, -⟩ | ⟨hk, -⟩
          · omega
          · omega
          · rw [hs] at ok; exact ok.1.2 rfl
          · omega
          · omega
          · omega
        have L1 : ((x :: r).length : Int) - 1 = (r.length : Int) := by simp
        have L2 : ((x :: r).length : Int) = (r.length : Int) + 1 := by simp
        refine ⟨⟨by omega, by omega⟩, fun q => by omega, fun _ => ?_⟩
        rw [L1, hr.1]
        refine ⟨⟨by omega, by omega⟩, ⟨by omega, by omega⟩, fun m5 e5 => ?_⟩
        subst e5
        exact nx _ ho.wr ⟨jm_wrS, rep_wr r hr.2 (Int.le_refl _)⟩ _ (by show _ = (((1 - x) :: r).length : Int); simp)
    · -- part
      subst q2
      cases S with
      | nil =>
        rcases h2 with ⟨hk, -⟩ | ⟨-, r, hs, -⟩ | ⟨hk, -⟩ | ⟨hk, -⟩ | ⟨hk, -⟩ | ⟨hk, -⟩
        · omega
        · rw [hs] at ok; exact ok.elim
        · omega
        · omega
        · omega
        · omega
      | cons x r =>
        have hx : jm_rg x := by
          rcases h2 with ⟨hk, -⟩ | ⟨-, r, hs, -⟩ | ⟨hk, -⟩ | ⟨hk, -⟩ | ⟨hk, -⟩ | ⟨hk, -⟩
          · omega
          · rw [hs] at ok; exact ok.1.1
          · omega
          · omega
          · omega
          · omega
        have L1 : ((x :: r).length : Int) - 1 = (r.length : Int) := by simp
        have L2 : ((x :: r).length : Int) = (r.length : Int) + 1 := by simp
        have x51 := k2 rfl
        refine ⟨⟨by omega, by omega⟩, fun q => by omega, fun _ => ⟨⟨by omega, by omega⟩, fun q => by omega, fun _ => ?_⟩⟩
        rw [L1, hr.1]
        refine ⟨⟨by omega, by omega⟩, by omega, jm_tdB hx x51, fun m7 e7 => ?_⟩
        subst e7
        exact nx _ ho.wr ⟨jm_wrS, rep_wr r hr.2 (Int.le_refl _)⟩ _ (by show _ = ((x.tdiv x5 :: r).length : Int); simp)
    · -- a term
      subst q1
      have x51 := k1 rfl
      refine ⟨⟨by omega, by omega⟩, fun q => by omega, fun _ => ⟨⟨by omega, by omega⟩, fun q => by omega, fun _ => ⟨⟨by omega, by omega⟩, ⟨by omega, by omega⟩, fun m6 e6 => ?_⟩⟩⟩
      subst e6
      rw [e36]
      exact nx _ ho.wr ⟨jm_wrS, rep_wr S hr (Int.le_refl _)⟩ _ (by show _ = ((mu.1 36 x5 :: S).length : Int); simp)
    · -- a number
      subst q0
      refine ⟨⟨by omega, by omega⟩, fun q => by omega, fun _ => ⟨⟨by omega, by omega⟩, fun m8 e8 => ?_⟩⟩
      subst e8
      exact nx _ ho.wr ⟨jm_wrS, rep_wr S hr (Int.le_refl _)⟩ _ (by show _ = ((x5 :: S).length : Int); simp)
end LW
