section OR
variable {l : Launch} {gC gR : jm_G} {d : Nat} {mu nu m n m0 n0 : jm_M} {v1 v2 v3 v4 v5 v6 : Int} {Q : Option Value → jm_M → Prop} {B B' K P S : Int → Int} {N t a : Int} {k : Nat}
/-- orders that lead from one stack of kinds to another -/
def SG (ord : Int → Int) (a e : Int) (s0 s1 : List Bool) : Prop := a ≤ e ∧ ∃ s : Int → List Bool, s a = s0 ∧ s e = s1 ∧ ∀ i, a ≤ i → i < e → jm_typ (ord i / 16384) (s i) (s (i + 1)) ∧ (s i).length ≤ 40
theorem SG.tr {ord : Int → Int} {a b c : Int} {s0 s1 s2 : List Bool} (h : SG ord a b s0 s1) (k : SG ord b c s1 s2) : SG ord a c s0 s2 := by
  obtain ⟨h0, s, h1, h2, h3⟩ := h
  obtain ⟨k0, u, k1, k2, k3⟩ := k
  refine ⟨by omega, fun i => if i < b then s i else u i, ?_, ?_, fun i i0 i1 => ?_⟩
  · dsimp only
    by_cases q : a < b
    · rw [if_pos q]; exact h1
    · rw [if_neg q, show a = b by omega, k1, ← h2, show b = a by omega]; exact h1
  · dsimp only
    rw [if_neg (by omega)]; exact k2
  · dsimp only
    by_cases q : i < b
    · rw [if_pos q]
      by_cases r : i + 1 < b
      · rw [if_pos r]; exact h3 i i0 q
      · rw [if_neg r, show i + 1 = b by omega, k1, ← h2, show b = i + 1 by omega]; exact h3 i i0 q
    · rw [if_neg q, if_neg (by omega)]; exact k3 i (by omega) i1
theorem SG.rf (ord : Int → Int) (a : Int) (s : List Bool) : SG ord a a s s := ⟨Int.le_refl a, fun _ => s, rfl, rfl, fun i i0 i1 => by omega⟩
theorem SG.one {ord : Int → Int} {a : Int} {s0 s1 : List Bool} (h : jm_typ (ord a / 16384) s0 s1) (hl : s0.length ≤ 40) : SG ord a (a + 1) s0 s1 := by
  refine ⟨by omega, fun i => if i = a then s0 else s1, if_pos rfl, if_neg (by omega), fun i i0 i1 => ?_⟩
  dsimp only
  rw [show i = a by omega, if_pos rfl, if_neg (by omega)]
  exact ⟨h, hl⟩
theorem SG.cg {ord ord' : Int → Int} {a b : Int} {s0 s1 : List Bool} (h : SG ord a b s0 s1) (e : ∀ i, a ≤ i → i < b → ord' i = ord i) : SG ord' a b s0 s1 := by
  obtain ⟨h0, s, h1, h2, h3⟩ := h
  exact ⟨h0, s, h1, h2, fun i i0 i1 => by rw [e i i0 i1]; exact h3 i i0 i1⟩
/-- an order more -/
def AO (m : jm_M) (k v : Int) : jm_M := jm_wr (jm_wr m 50 (m.1 49 1) (k * 16384 + v)) 49 1 (m.1 49 1 + 1)
theorem jm_shl14 : ∀ k : Fin 12, jm_shl ((k.val : Nat) : Int) 14 = ((k.val : Nat) : Int) * 16384 := by decide +kernel
theorem sX3_addOrder (hC : jm_HC gC) {kk v : Int} (k0 : 0 ≤ kk) (k1 : kk ≤ 11) (v0 : 0 ≤ v) (v1 : v ≤ 9999) (o0 : 0 ≤ m.1 49 1) (o1 : m.1 49 1 < 400) (h : Q (some (jm_i 1)) (AO m kk v)) : jm_R l gC (d + 1) iX3_addOrder [.ref 49, jm_i kk, jm_i v] m Q := by
  have e : jm_shl kk 14 = kk * 16384 := by
    have := jm_shl14 ⟨kk.toNat, by omega⟩
    simp only [show ((kk.toNat : Nat) : Int) = kk by omega] at this
    exact this
  refine eX3_addOrder hC ⟨fun _ => ⟨⟨o0, o1⟩, ?_⟩, fun r => by omega⟩
  rw [e]
  refine ⟨⟨by omega, by omega⟩, fun m3 e3 => ?_⟩
  have e31 : m3.1 49 1 = m.1 49 1 := by rw [e3, jm_wrO (by decide)]
  rw [e31]
  refine ⟨⟨by omega, by omega⟩, fun m6 e6 => ?_⟩
  rw [e6, e3]
  exact h
theorem AO_o {kk v : Int} : (AO m kk v).1 49 1 = m.1 49 1 + 1 := jm_wrS
theorem AO_50 {kk v i : Int} : (AO m kk v).1 50 i = if i = m.1 49 1 then kk * 16384 + v else m.1 50 i := by
  unfold AO
  rw [jm_wrO (by decide)]
  split
  · rename_i z; rw [z, jm_wrS]
  · rename_i z; rw [jm_wrI z]
theorem AO_u {kk v : Int} {c : Nat} {i : Int} (h : c ≠ 50 ∧ ¬ (c = 49 ∧ i = 1)) : (AO m kk v).1 c i = m.1 c i := by
  unfold AO
  by_cases q : c = 49
  · rw [jm_wrI (fun r => h.2 ⟨q, r⟩), jm_wrO h.1]
  · rw [jm_wrO q, jm_wrO h.1]
theorem AO_c {kk v : Int} {c : Nat} (h : c ≠ 49 ∧ c ≠ 50) : (AO m kk v).1 c = m.1 c := by
  funext i
  exact AO_u ⟨h.2, fun r => h.1 r.1⟩
theorem AO_cs {kk v : Int} (h : CS m0 B K P S t m) : CS m0 B K P S t (AO m kk v) := (h.wr (by decide)).wr (by decide)
theorem AO_sg {kk v : Int} {s0 s1 : List Bool} (v0 : 0 ≤ v) (v1 : v ≤ 9999) (h : jm_typ kk s0 s1) (hl : s0.length ≤ 40) : SG ((AO m kk v).1 50) (m.1 49 1) (m.1 49 1 + 1) s0 s1 := by
  refine SG.one ?_ hl
  rw [AO_50, if_pos rfl, show (kk * 16384 + v) / 16384 = kk by omega]
  exact h
/-- a code more -/
def EM (n : jm_M) (o v : Int) : jm_M := jm_wr (jm_wr (jm_wr n 14 (800 + n.1 0 27) o) 15 (800 + n.1 0 27) v) 0 27 (n.1 0 27 + 1)
theorem w27 (x y : Int) : (jm_wr n 14 x y).1 0 27 = n.1 0 27 := jm_wrO (by decide)
theorem w27' (x y x' y' : Int) : (jm_wr (jm_wr n 14 x y) 15 x' y').1 0 27 = n.1 0 27 := by rw [jm_wrO (by decide), jm_wrO (by decide)]
theorem EM_27 {o v : Int} : (EM n o v).1 0 27 = n.1 0 27 + 1 := jm_wrS
theorem EM_14 {o v i : Int} : (EM n o v).1 14 i = if i = 800 + n.1 0 27 then o else n.1 14 i := by
  unfold EM
  rw [jm_wrO (by decide), jm_wrO (by decide)]
  split
  · rename_i z; rw [z, jm_wrS]
  · rename_i z; rw [jm_wrI z]
theorem EM_15 {o v i : Int} : (EM n o v).1 15 i = if i = 800 + n.1 0 27 then v else n.1 15 i := by
  unfold EM
  rw [jm_wrO (by decide)]
  split
  · rename_i z; rw [z, jm_wrS]
  · rename_i z; rw [jm_wrI z, jm_wrO (by decide)]
theorem EM_u {o v : Int} {c : Nat} {i : Int} (h : c ≠ 14 ∧ c ≠ 15 ∧ ¬ (c = 0 ∧ i = 27)) : (EM n o v).1 c i = n.1 c i := by
  unfold EM
  by_cases q : c = 0
  · rw [jm_wrI (fun r => h.2.2 ⟨q, r⟩), jm_wrO h.2.1, jm_wrO h.1]
  · rw [jm_wrO q, jm_wrO h.2.1, jm_wrO h.1]
theorem EM_pn {o v : Int} (h : PN B N P S t a n) : PN B N P S t a (EM n o v) := ((h.wr (Or.inl (by decide))).wr (Or.inl (by decide))).wr (Or.inr (by decide))
theorem EM_fr {o v : Int} (h : jm_ag frx n0 n) (c0 : 0 ≤ n.1 0 27) : jm_ag frx n0 (EM n o v) := by
  have c8 : (800 : Int) ≤ 800 + n.1 0 27 := by omega
  refine ((h.wr ?_).wr ?_).wr rfl
  · unfold frx; simp [c8]
  · unfold frx; simp [c8]
/-- the draft of the law in both; b: what codes and tokens to come amount to at most -/
def DL (t b : Int) (m n : jm_M) : Prop := (0 ≤ m.1 49 1 ∧ 0 ≤ n.1 0 27 ∧ n.1 0 27 + (t - m.1 1 8) ≤ b) ∧ ∃ p : Int → Int, p 0 = 0 ∧ p (m.1 49 1) = n.1 0 27 ∧ (∀ i, 0 ≤ i → i ≤ m.1 49 1 → 0 ≤ p i ∧ p i ≤ n.1 0 27)
  ∧ (∀ i, 0 ≤ i → i < m.1 49 1 → 0 ≤ m.1 50 i ∧ jm_ord (m.1 50 i / 16384) (m.1 50 i % 16384) (fun x => n.1 14 (800 + x)) (fun x => n.1 15 (800 + x)) (p i) (p (i + 1) - p i))
  ∧ ∀ x, 0 ≤ x → x < m.1 49 0 → n.1 10 (32 + x) = m.1 51 x ∧ (0 ≤ m.1 52 x ∧ m.1 52 x ≤ m.1 53 x ∧ m.1 53 x ≤ m.1 54 x ∧ m.1 54 x ≤ m.1 49 1) ∧ n.1 11 (32 + x) = p (m.1 52 x) ∧ n.1 12 (32 + x) = p (m.1 53 x) ∧ n.1 13 (32 + x) = p (m.1 54 x)
theorem DL.app {b b' : Int} {kk v : Int} (h : DL t b m n) {n' : jm_M} (k0 : 0 ≤ kk) (v0 : 0 ≤ v) (v1 : v ≤ 9999) {q : Int} (hq : q = 1 ∨ q = 2) (e27 : n'.1 0 27 = n.1 0 27 + q) (e14 : ∀ x, x < n.1 0 27 → n'.1 14 (800 + x) = n.1 14 (800 + x)) (e15 : ∀ x, x < n.1 0 27 → n'.1 15 (800 + x) = n.1 15 (800 + x)) (eo : jm_ord kk v (fun x => n'.1 14 (800 + x)) (fun x => n'.1 15 (800 + x)) (n.1 0 27) q) (el : ∀ c, c = 10 ∨ c = 11 ∨ c = 12 ∨ c = 13 → n'.1 c = n.1 c) (hb : n'.1 0 27 + (t - m.1 1 8) ≤ b') : DL t b' (AO m kk v) n' := by
  obtain ⟨⟨h0, h1, h2⟩, p, p0, pO, pb, po, pl⟩ := h
  have e8 : (AO m kk v).1 1 8 = m.1 1 8 := by rw [AO_c (by decide)]
  have e490 : (AO m kk v).1 49 0 = m.1 49 0 := AO_u ⟨by decide, by decide⟩
  refine ⟨⟨by rw [AO_o]; omega, by omega, by rw [e8]; exact hb⟩, fun i => if i ≤ m.1 49 1 then p i else n'.1 0 27, ?_, ?_, fun i i0 i1 => ?_, fun i i0 i1 => ?_, fun x x0 x1 => ?_⟩
  · dsimp only
    rw [if_pos h0]; exact p0
  · dsimp only
    rw [AO_o, if_neg (by omega)]
  · rw [AO_o] at i1
    dsimp only
    split
    · rename_i z
      have := pb i i0 z
      omega
    · omega
  · rw [AO_o] at i1
    dsimp only
    rw [AO_50]
    by_cases z : i = m.1 49 1
    · rw [if_pos z, if_pos (by omega), if_neg (by omega), show (kk * 16384 + v) / 16384 = kk by omega, show (kk * 16384 + v) % 16384 = v by omega, z, pO, show n'.1 0 27 - n.1 0 27 = q by omega]
      exact ⟨by omega, eo⟩
    · have o := po i i0 (by omega)
      have pn := jm_ordN o.2
      have b1 := pb (i + 1) (by omega) (by omega)
      rw [if_neg z, if_pos (by omega), if_pos (by omega)]
      exact ⟨o.1, o.2.cg (e14 _ (by omega)) (fun r => e14 _ (by omega)) (e15 _ (by omega))⟩
  · rw [e490] at x1
    have l1 := pl x x0 x1
    dsimp only
    rw [AO_c (c := 51) (by decide), AO_c (c := 52) (by decide), AO_c (c := 53) (by decide), AO_c (c := 54) (by decide), AO_o, el 10 (by decide), el 11 (by decide), el 12 (by decide), el 13 (by decide)]
    refine ⟨l1.1, ⟨l1.2.1.1, l1.2.1.2.1, l1.2.1.2.2.1, by omega⟩, ?_, ?_, ?_⟩
    · rw [if_pos (by omega)]; exact l1.2.2.1
    · rw [if_pos (by omega)]; exact l1.2.2.2.1
    · rw [if_pos (by omega)]; exact l1.2.2.2.2
theorem DL.cg {b b' : Int} (h : DL t b m n) {m' n' : jm_M} (hm : ∀ c, 49 ≤ c → c ≤ 54 → m'.1 c = m.1 c) (hn : ∀ c, 10 ≤ c → c ≤ 15 → n'.1 c = n.1 c) (e27 : n'.1 0 27 = n.1 0 27) (hb : n.1 0 27 + (t - m'.1 1 8) ≤ b') : DL t b' m' n' := by
  unfold DL at *
  rw [hm 49 (by decide) (by decide), hm 50 (by decide) (by decide), hm 51 (by decide) (by decide), hm 52 (by decide) (by decide), hm 53 (by decide) (by decide), hm 54 (by decide) (by decide), hn 10 (by decide) (by decide), hn 11 (by decide) (by decide), hn 12 (by decide) (by decide), hn 13 (by decide) (by decide), hn 14 (by decide) (by decide), hn 15 (by decide) (by decide), e27]
  exact ⟨⟨h.1.1, h.1.2.1, hb⟩, h.2⟩
end OR
