section L2
variable {l : Launch} {gC gR : jm_G} {d : Nat} {mu nu : jm_M} {v1 v2 v3 v4 v5 : Int} {Q : Option Value → jm_M → Prop}
theorem ev_one {ord T : Int → Int} {s : Int → List Bool} {a e : Int} {b : Bool} (hT : ∀ i, jm_rg (T i)) (h : sgK ord s a e) (ae : a ≤ e) (hb : s e = [b]) : evS ord T a (e - a).toNat = [ev ord T a e] ∧ jm_rg (ev ord T a e) ∧ (b = true → ev ord T a e = 0 ∨ ev ord T a e = 1) := by
  have ok := okS_ev hT h (e - a).toNat (by omega)
  rw [show a + ((e - a).toNat : Int) = e by omega, hb] at ok
  unfold ev
  cases hS : evS ord T a (e - a).toNat with
  | nil => rw [hS] at ok; exact ok.elim
  | cons v r =>
    rw [hS] at ok
    cases r with
    | nil => exact ⟨rfl, ok.1.1, ok.1.2⟩
    | cons w r => exact ok.2.elim
theorem sX3_worth (hC : jm_HC gC) {s : Int → List Bool} {a e : Int} {b : Bool} (a0 : 0 ≤ a) (ae : a ≤ e) (e4 : e ≤ 400) (hT : ∀ i, jm_rg (mu.1 36 i)) (h : sgK (mu.1 16) s a e) (hb : s e = [b]) (hQ : ∀ m, jm_o 21 mu m → Q (some (jm_i (ev (mu.1 16) (mu.1 36) a e))) m) : jm_R l gC (d + 2) iX3_worth [.ref 15, jm_i a, jm_i e, .ref 36] mu Q := by
  obtain ⟨o1, o2, o3⟩ := ev_one hT h ae hb
  refine eX3_worth hC ?_
  have := lX3_worth (l := l) (d := d) (Q := Q) hC a0 e4 hT h (fun m ho hr => ?_) (e - a).toNat 0 mu (by omega) jm_o.rf trivial
  · rw [show a + ((0 : Nat) : Int) = a by omega] at this
    exact this
  · rw [o1] at hr
    have e1 : m.1 21 0 = ev (mu.1 16) (mu.1 36) a e := hr.1
    rw [e1]
    exact hQ m ho
/-- the reference's word for an order -/
def roK (k : Int) : Int := if k = 4 then 4 else if k = 5 then 2 else if k = 6 then 3 else if k = 7 then 6 else if k = 8 then 7 else if k = 9 then 8 else k
theorem sX12_twoOf (hR : jm_HR gR) {F : Int → jm_M → Prop} {k : Int} (hk : 4 ≤ k ∧ k ≤ 11) (r2 : jm_rg v2) (r3 : jm_rg v3) (hb : 10 ≤ k → (v2 = 0 ∨ v2 = 1) ∧ (v3 = 0 ∨ v3 = 1)) (h : F (jn k v2 v3) nu) : jm_R l gR (d + 1) iX12_twoOf [.ref 0, jm_i (roK k), jm_i v2, jm_i v3] nu (jm_qi F) := by
  have nm : ∀ z : Int, F (jm_nm z) nu → jm_qi F (some (jm_i z)) nu := fun z hz => ⟨jm_nm z, by rw [jm_iN], jm_rgT _, hz⟩
  have rr : jm_rg (roK k) := by unfold roK; exact ⟨by omega, by omega⟩
  have c : k = 4 ∨ k = 5 ∨ k = 6 ∨ k = 7 ∨ k = 8 ∨ k = 9 ∨ k = 10 ∨ k = 11 := by omega
  rcases c with rfl | rfl | rfl | rfl | rfl | rfl | rfl | rfl
  · exact eX12_twoOf hR ⟨rr, fun _ => ⟨fun _ => ⟨fun r => absurd rfl r, fun _ => nm _ h⟩, fun r => absurd r (by decide)⟩, fun r => absurd r (by decide)⟩
  · exact eX12_twoOf hR ⟨rr, fun r => absurd rfl r, fun _ => nm _ h⟩
  · exact eX12_twoOf hR ⟨rr, fun _ => ⟨fun r => absurd rfl r, fun _ => nm _ h⟩, fun r => absurd r (by decide)⟩
  · refine eX12_twoOf hR ⟨rr, fun _ => ⟨fun _ => ⟨fun _ => ⟨fun _ => ⟨fun r => absurd rfl r, fun _ => ⟨r2, r3, fun r => ?_, fun r => ?_⟩⟩, fun r => absurd r (by decide)⟩, fun r => absurd r (by decide)⟩, fun r => absurd r (by decide)⟩, fun r => absurd r (by decide)⟩
    · have e : jn 7 v2 v3 = 0 := by show (if v2 < v3 then (1 : Int) else 0) = 0; rw [if_neg (by omega)]
      rw [e] at h
      exact jm_qiI ⟨by decide, by decide⟩ h
    · have e : jn 7 v2 v3 = 1 := by show (if v2 < v3 then (1 : Int) else 0) = 1; rw [if_pos (by omega)]
      rw [e] at h
      exact jm_qiI ⟨by decide, by decide⟩ h
  · refine eX12_twoOf hR ⟨rr, fun _ => ⟨fun _ => ⟨fun _ => ⟨fun _ => ⟨fun _ => ⟨fun r => absurd rfl r, fun _ => ⟨r2, r3, fun r => ?_, fun r => ?_⟩⟩, fun r => absurd r (by decide)⟩, fun r => absurd r (by decide)⟩, fun r => absurd r (by decide)⟩, fun r => absurd r (by decide)⟩, fun r => absurd r (by decide)⟩
    · have e : jn 8 v2 v3 = 0 := by show (if v2 = v3 then (1 : Int) else 0) = 0; rw [if_neg r]
      rw [e] at h
      exact jm_qiI ⟨by decide, by decide⟩ h
    · have e : jn 8 v2 v3 = 1 := by show (if v2 = v3 then (1 : Int) else 0) = 1; rw [if_pos r]
      rw [e] at h
      exact jm_qiI ⟨by decide, by decide⟩ h
  · refine eX12_twoOf hR ⟨rr, fun _ => ⟨fun _ => ⟨fun _ => ⟨fun _ => ⟨fun _ => ⟨fun _ => ⟨fun r => absurd rfl r, fun _ => ⟨r2, r3, fun r => ?_, fun r => ?_⟩⟩, fun r => absurd r (by decide)⟩, fun r => absurd r (by decide)⟩, fun r => absurd r (by decide)⟩, fun r => absurd r (by decide)⟩, fun r => absurd r (by decide)⟩, fun r => absurd r (by decide)⟩
    · have e : jn 9 v2 v3 = 0 := by show (if v3 < v2 then (1 : Int) else 0) = 0; rw [if_neg (by omega)]
      rw [e] at h
      exact jm_qiI ⟨by decide, by decide⟩ h
    · have e : jn 9 v2 v3 = 1 := by show (if v3 < v2 then (1 : Int) else 0) = 1; rw [if_pos (by omega)]
      rw [e] at h
      exact jm_qiI ⟨by decide, by decide⟩ h
  · refine eX12_twoOf hR ⟨rr, fun _ => ⟨fun _ => ⟨fun _ => ⟨fun _ => ⟨fun _ => ⟨fun _ => ⟨fun _ => ⟨fun r => absurd rfl r, fun _ => ?_⟩, fun r => absurd r (by decide)⟩, fun r => absurd r (by decide)⟩, fun r => absurd r (by decide)⟩, fun r => absurd r (by decide)⟩, fun r => absurd r (by decide)⟩, fun r => absurd r (by decide)⟩, fun r => absurd r (by decide)⟩
    have e : jn 10 v2 v3 = v2 * v3 := by
      obtain ⟨b1, b2⟩ := hb (by decide)
      rcases b1 with rfl | rfl <;> rcases b2 with rfl | rfl <;> decide +kernel
    have rg : jm_rg (v2 * v3) := by
      obtain ⟨b1, b2⟩ := hb (by decide)
      rcases b1 with rfl | rfl <;> rcases b2 with rfl | rfl <;> exact ⟨by decide, by decide⟩
    rw [e] at h
    exact jm_qiI rg h
  · obtain ⟨b1, b2⟩ := hb (by decide)
    refine eX12_twoOf hR ⟨rr, fun _ => ⟨fun _ => ⟨fun _ => ⟨fun _ => ⟨fun _ => ⟨fun _ => ⟨fun _ => ⟨fun _ => ⟨⟨by omega, by omega⟩, fun r => ?_, fun r => ?_⟩, fun r => absurd r (by decide)⟩, fun r => absurd r (by decide)⟩, fun r => absurd r (by decide)⟩, fun r => absurd r (by decide)⟩, fun r => absurd r (by decide)⟩, fun r => absurd r (by decide)⟩, fun r => absurd r (by decide)⟩, fun r => absurd r (by decide)⟩
    · have e : jn 11 v2 v3 = 0 := by show (if v2 = 1 ∨ v3 = 1 then (1 : Int) else 0) = 0; rw [if_neg (by omega)]
      rw [e] at h
      exact jm_qiI ⟨by decide, by decide⟩ h
    · have e : jn 11 v2 v3 = 1 := by show (if v2 = 1 ∨ v3 = 1 then (1 : Int) else 0) = 1; rw [if_pos (by omega)]
      rw [e] at h
      exact jm_qiI ⟨by decide, by decide⟩ h
theorem sX12_part (hR : jm_HR gR) {F : Int → jm_M → Prop} (r2 : jm_rg v2) (h3 : 1 ≤ v3 ∧ v3 ≤ 9999) (h : F (v2.tdiv v3) nu) : jm_R l gR (d + 1) iX12_twoOf [.ref 0, jm_i 5, jm_i v2, jm_i v3] nu (jm_qi F) := by
  exact eX12_twoOf hR ⟨⟨by decide, by decide⟩, fun _ => ⟨fun _ => ⟨fun _ => ⟨fun r => absurd rfl r, fun _ => ⟨r2, ⟨by omega, by omega⟩, by omega, jm_qiI (jm_tdB r2 h3.1) h⟩⟩, fun r => absurd r (by decide)⟩, fun r => absurd r (by decide)⟩, fun r => absurd r (by decide)⟩
/-- the two codes of one law -/
def lwK (ord op arg p : Int → Int) (n : Int) : Prop := p 0 = 0 ∧ p n ≤ 400 ∧ ∀ i, 0 ≤ i → i < n → 0 ≤ ord i ∧ jm_ord (ord i / 16384) (ord i % 16384) op arg (p i) (p (i + 1) - p i)
theorem lwK_st {ord op arg p : Int → Int} {n : Int} (h : lwK ord op arg p n) {i : Int} (h0 : 0 ≤ i) (h1 : i < n) : 1 ≤ p (i + 1) - p i := by
  have := (h.2.2 i h0 h1).2
  unfold jm_ord at this
  omega
theorem lwK_mono {ord op arg p : Int → Int} {n : Int} (h : lwK ord op arg p n) : ∀ (m : Nat) (i : Int), 0 ≤ i → i + m ≤ n → p i + m ≤ p (i + m)
  | 0, i, _, _ => by
    rw [show i + ((0 : Nat) : Int) = i by omega]
    omega
  | m + 1, i, h0, h1 => by
    have h2 := lwK_mono h m i h0 (by omega)
    have h3 := lwK_st h (i := i + m) (by omega) (by omega)
    rw [show i + ((m + 1 : Nat) : Int) = i + m + 1 by omega]
    omega
theorem lwK_bd {ord op arg p : Int → Int} {n : Int} (h : lwK ord op arg p n) {i : Int} (h0 : 0 ≤ i) (h1 : i ≤ n) : 0 ≤ p i ∧ p i ≤ 400 := by
  have a := lwK_mono h i.toNat 0 (by omega) (by omega)
  have b := lwK_mono h (n - i).toNat i h0 (by omega)
  rw [show (0 : Int) + (i.toNat : Int) = i by omega, h.1] at a
  rw [show i + ((n - i).toNat : Int) = n by omega] at b
  have := h.2.1
  omega
theorem sgK_of {ord op arg p : Int → Int} {n : Int} (h : lwK ord op arg p n) {a e : Int} {b : Bool} (a0 : 0 ≤ a) (e1 : e ≤ n) (hs : jm_seg ord a e b) : ∃ s, sgK ord s a e ∧ s e = [b] := by
  obtain ⟨s, s1, s2, s3⟩ := hs
  refine ⟨s, ⟨s1, fun i i0 i1 => ⟨?_, s3 i i0 i1⟩⟩, s2⟩
  have := h.2.2 i (by omega) (by omega)
  exact odK_of this.1 this.2
/-- the reference runs a stretch of its codes -/
theorem lX12_runs (hR : jm_HR gR) {ord T p : Int → Int} {nn : Int} (hL : lwK ord (fun i => nu.1 14 (400 + i)) (fun i => nu.1 15 (400 + i)) p nn) (hT : ∀ i, jm_rg (T i)) (hA : ∀ i, 0 ≤ i → i ≤ 10 → nu.1 22 i = T i) {s : Int → List Bool} {a e : Int} (a0 : 0 ≤ a) (en : e ≤ nn) (h : sgK ord s a e) (hQ : ∀ m, jm_o 23 nu m → rep 23 m (evS ord T a (e - a).toNat) → Q (some (jm_i (m.1 23 0))) m) (n : Nat) : ∀ (k : Nat) (m : jm_M), a + k + n = e → jm_o 23 nu m → rep 23 m (evS ord T a k) → jm_V l gR (d + 2) iX12_runs 12 [(0, .ref 0), (1, jm_i 1), (3, jm_i (p e)), (4, jm_i ((evS ord T a k).length : Int)), (5, jm_i (400 + p (a + k)))] [] m Q := by
  induction n with
  | zero =>
    intro k m hk ho hr
    have pb := lwK_bd hL (i := e) (by omega) en
    rw [show a + (k : Int) = e by omega]
    refine bX12_runs_12 hR ⟨⟨by omega, by omega⟩, ⟨by omega, by omega⟩, fun _ => hQ m ho ?_, fun r => by omega⟩
    rw [show (e - a).toNat = k by omega]
    exact hr
  | succ n ih =>
    intro k m hk ho hr
    have ok := okS_ev hT h k (by omega)
    obtain ⟨h1, h2, h3⟩ := h.2 (a + k) (by omega) (by omega)
    have len := okS_len _ _ ok
    have pb := lwK_bd hL (i := e) (by omega) en
    have pa := lwK_bd hL (i := a + k) (by omega) (by omega)
    have pm := lwK_mono hL (n + 1) (a + k) (by omega) (by omega)
    rw [show a + (k : Int) + ((n + 1 : Nat) : Int) = e by omega] at pm
    have od := (hL.2.2 (a + k) (by omega) (by omega)).2
    have pm2 := lwK_mono hL n (a + k + 1) (by omega) (by omega)
    rw [show a + (k : Int) + 1 + (n : Int) = e by omega] at pm2
    have e14 : m.1 14 = nu.1 14 := ho 14 (by decide)
    have e15 : m.1 15 = nu.1 15 := ho 15 (by decide)
    have e22 : m.1 22 = nu.1 22 := ho 22 (by decide)
    have m1 := Int.emod_nonneg (ord (a + k)) (by decide : (16384 : Int) ≠ 0)
    have m2 := Int.emod_lt_of_pos (ord (a + k)) (by decide : (0 : Int) < 16384)
    have nx : ∀ m2 : jm_M, jm_o 23 nu m2 → rep 23 m2 (stp (ord (a + k) / 16384) (ord (a + k) % 16384) T (evS ord T a k)) → ∀ t q : Int, t = ((stp (ord (a + k) / 16384) (ord (a + k) % 16384) T (evS ord T a k)).length : Int) → q = 400 + p (a + k + 1) → jm_V l gR (d + 2) iX12_runs 12 [(0, .ref 0), (1, jm_i 1), (3, jm_i (p e)), (4, jm_i t), (5, jm_i q)] [] m2 Q := by
      intro m2 o2 r2 t q ht hq
      rw [ht, hq, show a + (k : Int) + 1 = a + ((k + 1 : Nat) : Int) by omega]
      exact ih (k + 1) m2 (by omega) o2 r2
    generalize evS ord T a k = S at ok len hr nx ⊢
    have S4 : (S.length : Int) ≤ 40 := by omega
    obtain ⟨x4, x4e⟩ : ∃ z, z = ord (a + k) / 16384 := ⟨_, rfl⟩
    obtain ⟨x5, x5e⟩ : ∃ z, z = ord (a + k) % 16384 := ⟨_, rfl⟩
    obtain ⟨P, Pe⟩ : ∃ z, z = p (a + k) := ⟨_, rfl⟩
    rw [← x4e, ← x5e, ← Pe] at od
    rw [← x4e, ← x5e] at nx
    rw [← x4e] at h2
    rw [← Pe] at pa pm ⊢
    have st : ∀ (m : jm_M) (t q : Int), q < 400 + p e → 400 ≤ q → (((m.1 14 q) = 0 → jm_V l gR (d + 2) iX12_runs 45 [(0, .ref 0), (1, jm_i 1), (3, jm_i (p e)), (4, jm_i t), (5, jm_i q)] [] m Q) ∧ (¬ (m.1 14 q) = 0 → (¬ (m.1 14 q) = 1 → (¬ (m.1 14 q) = 9 → ∀ x4, x4 = (t - 1) → (0 ≤ (x4 - 1) ∧ (x4 - 1) < 420) ∧ (0 ≤ x4 ∧ x4 < 420) ∧ jm_R l gR (d + 1) iX12_twoOf [.ref 0, jm_i (m.1 14 q), jm_i (m.1 23 (x4 - 1)), jm_i (m.1 23 x4)] m (jm_qi fun z8 m7 => ∀ m11, m11 = jm_wr m7 23 (x4 - 1) z8 → jm_V l gR (d + 2) iX12_runs 12 [(0, .ref 0), (1, jm_i 1), (3, jm_i (p e)), (4, jm_i x4), (5, jm_i (q + 1))] [] m11 Q)) ∧ ((m.1 14 q) = 9 → (0 ≤ (t - 1) ∧ (t - 1) < 420) ∧ jm_rg (1 - (m.1 23 (t - 1))) ∧ ∀ m15, m15 = jm_wr m 23 (t - 1) (1 - (m.1 23 (t - 1))) → jm_V l gR (d + 2) iX12_runs 12 [(0, .ref 0), (1, jm_i 1), (3, jm_i (p e)), (4, jm_i t), (5, jm_i (q + 1))] [] m15 Q)) ∧ ((m.1 14 q) = 1 → jm_V l gR (d + 2) iX12_runs 45 [(0, .ref 0), (1, jm_i 1), (3, jm_i (p e)), (4, jm_i t), (5, jm_i q)] [] m Q))) → jm_V l gR (d + 2) iX12_runs 12 [(0, .ref 0), (1, jm_i 1), (3, jm_i (p e)), (4, jm_i t), (5, jm_i q)] [] m Q := fun m t q q1 q2 hh => bX12_runs_12 hR ⟨⟨by omega, by omega⟩, ⟨by omega, by omega⟩, fun r => by omega, fun _ => ⟨⟨by omega, by omega⟩, hh⟩⟩
    have two : 4 ≤ x4 → ∃ y x r, S = y :: x :: r ∧ jm_rg y ∧ jm_rg x ∧ (10 ≤ x4 → (x = 0 ∨ x = 1) ∧ (y = 0 ∨ y = 1)) := by
      intro h4
      unfold jm_typ at h2
      rcases h2 with ⟨hk, -⟩ | ⟨hk, -⟩ | ⟨hk, -⟩ | ⟨hk, r, hs, -⟩ | ⟨hk, r, hs, -⟩ | ⟨hk, r, hs, -⟩
      · omega
      · omega
      · omega
      · rw [hs] at ok
        cases S with
        | nil => exact ok.elim
        | cons y S => cases S with
          | nil => exact ok.2.elim
          | cons x S => exact ⟨y, x, S, rfl, ok.1.1, ok.2.1.1, fun q => by omega⟩
      · rw [hs] at ok
        cases S with
        | nil => exact ok.elim
        | cons y S => cases S with
          | nil => exact ok.2.elim
          | cons x S => exact ⟨y, x, S, rfl, ok.1.1, ok.2.1.1, fun q => by omega⟩
      · rw [hs] at ok
        cases S with
        | nil => exact ok.elim
        | cons y S => cases S with
          | nil => exact ok.2.elim
          | cons x S => exact ⟨y, x, S, rfl, ok.1.1, ok.2.1.1, fun q => ⟨ok.2.1.2 rfl, ok.1.2 rfl⟩⟩
    have jnd : 4 ≤ x4 → x4 ≤ 11 → nu.1 14 (400 + P) = roK x4 → p (a + k + 1) - P = 1 → jm_V l gR (d + 2) iX12_runs 12 [(0, .ref 0), (1, jm_i 1), (3, jm_i (p e)), (4, jm_i (S.length : Int)), (5, jm_i (400 + P))] [] m Q := by
      intro h4 h11 ho4 hp1
      obtain ⟨y, x, r, rfl, ry, rx, hb⟩ := two h4
      have i1 : ((y :: x :: r).length : Int) - 1 = ((x :: r).length : Int) := by simp
      have i2 : ((x :: r).length : Int) - 1 = (r.length : Int) := by simp
      have i3 : ((x :: r).length : Int) = (r.length : Int) + 1 := by simp
      have o4 : m.1 14 (400 + P) = roK x4 := by rw [e14]; exact ho4
      have ro : roK x4 ≠ 0 ∧ roK x4 ≠ 1 ∧ roK x4 ≠ 9 := by unfold roK; omega
      refine st m _ _ (by omega) (by omega) ⟨fun q => absurd (o4.symm.trans q) ro.1, fun _ => ⟨fun _ => ⟨fun _ x6 e6 => ?_, fun q => absurd (o4.symm.trans q) ro.2.2⟩, fun q => absurd (o4.symm.trans q) ro.2.1⟩⟩
      rw [i1] at e6
      subst e6
      rw [i2]
      refine ⟨⟨by omega, by omega⟩, ⟨by omega, by omega⟩, ?_⟩
      rw [hr.1, hr.2.1, o4]
      refine sX12_twoOf hR ⟨h4, h11⟩ rx ry hb (fun m11 e11 => ?_)
      subst e11
      have es : stp x4 x5 T (y :: x :: r) = jn x4 x y :: r := by
        unfold stp
        rw [if_neg (by omega), if_neg (by omega), if_neg (by omega), if_neg (by omega)]
      rw [es] at nx
      exact nx _ ho.wr ⟨jm_wrS, rep_wr r hr.2.2 (Int.le_refl _)⟩ _ _ (by simp) (by omega)
    unfold jm_ord at od
    rcases od with ⟨c1, c2, c3, c4, c5, c6⟩ | ⟨c1, c2, c3, c4, c5, c6⟩ | ⟨c1, c2, c3, c4, c5, c6, c7⟩ | ⟨c1, c2, c3⟩ | ⟨c1, c2, c3⟩ | ⟨c1, c2, c3⟩ | ⟨c1, c2, c3⟩ | ⟨c1, c2, c3⟩ | ⟨c1, c2, c3⟩ | ⟨c1, c2, c3⟩ | ⟨c1, c2, c3⟩ | ⟨c1, c2, c3⟩
    · have o4 : m.1 14 (400 + P) = 0 := by rw [e14]; exact c3
      have a4 : m.1 15 (400 + P) = x5 := by rw [e15]; exact c4
      refine st m _ _ (by omega) (by omega) ⟨fun _ => bX12_runs_45 hR ⟨⟨by omega, by omega⟩, fun q => absurd o4 q, fun _ => ⟨⟨by omega, by omega⟩, fun m8 e8 x10 e10 => ?_⟩⟩, fun q => absurd o4 q⟩
      subst e8
      subst e10
      rw [a4]
      subst c1
      exact nx _ ho.wr ⟨jm_wrS, rep_wr S hr (Int.le_refl _)⟩ _ _ (by show _ = ((x5 :: S).length : Int); simp) (by omega)
    · have o4 : m.1 14 (400 + P) = 1 := by rw [e14]; exact c3
      have a4 : m.1 15 (400 + P) = x5 := by rw [e15]; exact c4
      have o5 : ¬ m.1 14 (400 + P) = 0 := by omega
      have t4 : m.1 22 x5 = T x5 := by rw [e22]; exact hA x5 c5 c6
      refine st m _ _ (by omega) (by omega) ⟨fun q => absurd q o5, fun _ => ⟨fun q => absurd o4 q, fun _ => bX12_runs_45 hR ⟨⟨by omega, by omega⟩, fun _ => ?_, fun q => absurd q o5⟩⟩⟩
      rw [a4]
      refine ⟨⟨by omega, by omega⟩, ⟨by omega, by omega⟩, fun m4 e4 x6 e6 => ?_⟩
      subst e4
      subst e6
      rw [t4]
      subst c1
      exact nx _ ho.wr ⟨jm_wrS, rep_wr S hr (Int.le_refl _)⟩ _ _ (by show _ = ((T x5 :: S).length : Int); simp) (by omega)
    · have o4 : m.1 14 (400 + P) = 0 := by rw [e14]; exact c3
      have a4 : m.1 15 (400 + P) = x5 := by rw [e15]; exact c4
      refine st m _ _ (by omega) (by omega) ⟨fun _ => bX12_runs_45 hR ⟨⟨by omega, by omega⟩, fun q => absurd o4 q, fun _ => ⟨⟨by omega, by omega⟩, fun m8 e8 x10 e10 => ?_⟩⟩, fun q => absurd o4 q⟩
      subst e8
      subst e10
      rw [a4]
      have c8 : nu.1 14 (400 + (P + 1)) = 5 := c7
      have o8 : (jm_wr m 23 (S.length : Int) x5).1 14 (400 + P + 1) = 5 := by
        rw [jm_wrO (by decide), e14, show 400 + P + 1 = 400 + (P + 1) by omega]
        exact c8
      have one : ∃ x r, S = x :: r ∧ jm_rg x := by
        unfold jm_typ at h2
        rcases h2 with ⟨hk, -⟩ | ⟨-, r, hs, -⟩ | ⟨hk, -⟩ | ⟨hk, -⟩ | ⟨hk, -⟩ | ⟨hk, -⟩
        · omega
        · rw [hs] at ok
          cases S with
          | nil => exact ok.elim
          | cons x S => exact ⟨x, S, rfl, ok.1.1⟩
        · omega
        · omega
        · omega
        · omega
      obtain ⟨x, r, rfl, rx⟩ := one
      have i1 : ((x :: r).length : Int) + 1 - 1 = ((x :: r).length : Int) := by omega
      have i2 : ((x :: r).length : Int) - 1 = (r.length : Int) := by simp
      have i3 : ((x :: r).length : Int) = (r.length : Int) + 1 := by simp
      refine st _ _ _ (by omega) (by omega) ⟨fun q => by omega, fun _ => ⟨fun _ => ⟨fun _ x6 e6 => ?_, fun q => by omega⟩, fun q => by omega⟩⟩
      rw [i1] at e6
      subst e6
      rw [i2]
      refine ⟨⟨by omega, by omega⟩, ⟨by omega, by omega⟩, ?_⟩
      rw [o8, jm_wrS, jm_wrI (by omega), hr.1]
      refine sX12_part hR rx ⟨c5, c6⟩ (fun m11 e11 => ?_)
      subst e11
      subst c1
      refine nx _ ho.wr.wr ⟨jm_wrS, rep_wr r (rep_wr r hr.2 (by omega)) (Int.le_refl _)⟩ _ _ ?_ (by omega)
      show _ = ((x.tdiv x5 :: r).length : Int)
      simp
    · have o4 : m.1 14 (400 + P) = 9 := by rw [e14]; exact c3
      have one : ∃ x r, S = x :: r ∧ (x = 0 ∨ x = 1) := by
        unfold jm_typ at h2
        rcases h2 with ⟨hk, -⟩ | ⟨hk, -⟩ | ⟨-, r, hs, -⟩ | ⟨hk, -⟩ | ⟨hk, -⟩ | ⟨hk, -⟩
        · omega
        · omega
        · rw [hs] at ok
          cases S with
          | nil => exact ok.elim
          | cons x S => exact ⟨x, S, rfl, ok.1.2 rfl⟩
        · omega
        · omega
        · omega
      obtain ⟨x, r, rfl, hx⟩ := one
      have i2 : ((x :: r).length : Int) - 1 = (r.length : Int) := by simp
      have i3 : ((x :: r).length : Int) = (r.length : Int) + 1 := by simp
      refine st m _ _ (by omega) (by omega) ⟨fun q => by omega, fun _ => ⟨fun _ => ⟨fun q => absurd o4 q, fun _ => ?_⟩, fun q => by omega⟩⟩
      rw [i2, hr.1]
      have rg1 : jm_rg (1 - x) := by rcases hx with rfl | rfl <;> exact ⟨by decide, by decide⟩
      refine ⟨⟨by omega, by omega⟩, rg1, fun m15 e15' => ?_⟩
      subst e15'
      subst c1
      refine nx _ ho.wr ⟨jm_wrS, rep_wr r hr.2 (Int.le_refl _)⟩ _ _ ?_ (by omega)
      show _ = (((1 - x) :: r).length : Int)
      simp
    · subst c1; exact jnd (by decide) (by decide) c3 c2
    · subst c1; exact jnd (by decide) (by decide) c3 c2
    · subst c1; exact jnd (by decide) (by decide) c3 c2
    · subst c1; exact jnd (by decide) (by decide) c3 c2
    · subst c1; exact jnd (by decide) (by decide) c3 c2
    · subst c1; exact jnd (by decide) (by decide) c3 c2
    · subst c1; exact jnd (by decide) (by decide) c3 c2
    · subst c1; exact jnd (by decide) (by decide) c3 c2
theorem sX12_runs (hR : jm_HR gR) {ord T p : Int → Int} {nn : Int} (hL : lwK ord (fun i => nu.1 14 (400 + i)) (fun i => nu.1 15 (400 + i)) p nn) (hT : ∀ i, jm_rg (T i)) (hA : ∀ i, 0 ≤ i → i ≤ 10 → nu.1 22 i = T i) {s : Int → List Bool} {a e : Int} {b : Bool} (a0 : 0 ≤ a) (ae : a ≤ e) (en : e ≤ nn) (h : sgK ord s a e) (hb : s e = [b]) (hQ : ∀ m, jm_o 23 nu m → Q (some (jm_i (ev ord T a e))) m) : jm_R l gR (d + 2) iX12_runs [.ref 0, jm_i 1, jm_i (p a), jm_i (p e)] nu Q := by
  obtain ⟨o1, o2, o3⟩ := ev_one hT h ae hb
  refine eX12_runs hR (fun x1 e1 => ?_)
  have := lX12_runs (l := l) (d := d) (Q := Q) hR hL hT hA a0 en h (fun m ho hr => ?_) (e - a).toNat 0 nu (by omega) jm_o.rf trivial
  · rw [show a + ((0 : Nat) : Int) = a by omega] at this
    rw [show x1 = 400 + p a by omega]
    exact this
  · rw [o1] at hr
    have e2 : m.1 23 0 = ev ord T a e := hr.1
    rw [e2]
    exact hQ m ho
end L2
