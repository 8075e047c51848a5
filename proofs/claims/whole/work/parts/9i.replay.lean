section RP
variable {l : Launch} {gC gR : jm_G} {d : Nat} {mu nu m n m0 n0 : jm_M} {Q : Option Value → jm_M → Prop} {st st' : Int → Int} {c dd : Int}
abbrev pD : Type := Int × Int × Int × Int
/-- deeds laid from the c-th on -/
def DW (n : jm_M) (c : Int) (L : List pD) : Prop := ∀ (k : Nat) (x : pD), L[k]? = some x → n.1 19 (240 + 4 * (c + k)) = x.1 ∧ n.1 19 (240 + 4 * (c + k) + 1) = x.2.1 ∧ n.1 19 (240 + 4 * (c + k) + 2) = x.2.2.1 ∧ n.1 19 (240 + 4 * (c + k) + 3) = x.2.2.2
def fld (c dd : Int) (x : Nat) (i : Int) : Bool := !((x == 19 && decide (240 + 4 * c ≤ i)) || ((x == 20 || x == 21) && decide (dd ≤ i)))
theorem fld_iff {x : Nat} {i : Int} : fld c dd x i = true ↔ ¬ (x = 19 ∧ 240 + 4 * c ≤ i) ∧ ¬ ((x = 20 ∨ x = 21) ∧ dd ≤ i) := by
  unfold fld
  simp only [Bool.not_eq_true', Bool.or_eq_false_iff, Bool.and_eq_false_iff, decide_eq_false_iff_not, beq_eq_false_iff_ne, ne_eq]
  constructor <;> intro h <;> omega
theorem fld_up {c' dd' : Int} (h : jm_ag (fld c' dd') m n) (hc : c ≤ c') (hd : dd ≤ dd') : jm_ag (fld c dd) m n := fun x i q => h x i (by
  have := fld_iff.1 q
  exact fld_iff.2 (by omega))
theorem DW.cg {L : List pD} (h : DW n c L) {c' : Int} (hc : c + L.length ≤ c') {n' : jm_M} (e : jm_ag (fld c' dd) n n') : DW n' c L := by
  intro k x hx
  have hk : k < L.length := (List.getElem?_eq_some_iff.mp hx).1
  have q : ∀ y, y < 240 + 4 * c' → n'.1 19 y = n.1 19 y := fun y hy => e 19 y (fld_iff.2 (by omega))
  rw [q _ (by omega), q _ (by omega), q _ (by omega), q _ (by omega)]
  exact h k x hx
theorem DW.app {L1 L2 : List pD} (h1 : DW n c L1) (h2 : DW n (c + L1.length) L2) : DW n c (L1 ++ L2) := by
  intro k x hx
  by_cases hk : k < L1.length
  · rw [List.getElem?_append_left hk] at hx
    exact h1 k x hx
  · rw [List.getElem?_append_right (by omega)] at hx
    have := h2 (k - L1.length) x hx
    rw [show c + (L1.length : Int) + ((k - L1.length : Nat) : Int) = c + k by omega] at this
    exact this
/-- the steps from i to j lay just these deeds, wherever they are gone through -/
def SEGv (l : Launch) (gR : jm_G) (d : Nat) (st : Int → Int) (i j : Int) (L : List pD) (h : Nat) : Prop := (0 ≤ i ∧ i ≤ j) ∧ ∀ (n : jm_M) (c dd : Int) (Q' : Option Value → jm_M → Prop), (∀ x, 4 * i ≤ x → x < 4 * j → n.1 18 x = st x) → j ≤ n.1 0 38 → n.1 0 38 ≤ 200 → 0 ≤ c → c ≤ 60 → 0 ≤ dd → dd + h ≤ 4 → (∀ n', c + L.length ≤ 60 → jm_ag (fld c dd) n n' → DW n' c L → jm_V l gR (d + 2) iX12_laysDeeds 6 [(0, .ref 0), (1, jm_i (c + L.length)), (2, jm_i dd), (3, jm_i j)] [] n' Q') → (∀ n', 60 < c + L.length → jm_ag (fld c dd) n n' → Q' (some (jm_i (-1))) (jm_wr (jm_wr n' 0 31 4) 0 32 ((jm_wr n' 0 31 4).1 0 15))) → jm_V l gR (d + 2) iX12_laysDeeds 6 [(0, .ref 0), (1, jm_i c), (2, jm_i dd), (3, jm_i i)] [] n Q'
theorem SEGv.cg {i j : Int} {L : List pD} {h : Nat} (hs : SEGv l gR d st i j L h) (e : ∀ x, 4 * i ≤ x → x < 4 * j → st' x = st x) : SEGv l gR d st' i j L h :=
  ⟨hs.1, fun n c dd Q' q => hs.2 n c dd Q' (fun x x0 x1 => by rw [q x x0 x1, e x x0 x1])⟩
theorem SEGv.up {i j : Int} {L : List pD} {h h' : Nat} (hs : SEGv l gR d st i j L h) (e : h ≤ h') : SEGv l gR d st i j L h' :=
  ⟨hs.1, fun n c dd Q' q a b c0 c1 d0 d1 => hs.2 n c dd Q' q a b c0 c1 d0 (by omega)⟩
theorem SEGv.nil {i : Int} (i0 : 0 ≤ i) {h : Nat} : SEGv l gR d st i i [] h := by
  refine ⟨⟨i0, Int.le_refl i⟩, fun n c dd Q' q a b c0 c1 d0 d1 ok er => ?_⟩
  have := ok n (by simp; exact c1) jm_ag.rf (fun k x hx => by simp at hx)
  rw [show c + (([] : List pD).length : Int) = c from Int.add_zero c] at this
  exact this
theorem SEGv.app {i j k : Int} {L1 L2 : List pD} {h : Nat} (h1 : SEGv l gR d st i j L1 h) (h2 : SEGv l gR d st j k L2 h) : SEGv l gR d st i k (L1 ++ L2) h := by
  have q1 := h1.1
  have q2 := h2.1
  refine ⟨⟨q1.1, by omega⟩, fun n c dd Q' hs hj hq c0 c1 d0 dh ok er => ?_⟩
  have len : ((L1 ++ L2).length : Int) = L1.length + L2.length := by rw [List.length_append]; omega
  refine h1.2 n c dd Q' (fun x x0 x1 => hs x x0 (by omega)) (by omega) hq c0 c1 d0 dh (fun n1 l1 a1 w1 => ?_) (fun n1 l1 a1 => er n1 (by omega) a1)
  have k18 : n1.1 18 = n.1 18 := a1.cell (fun i => fld_iff.2 (by omega))
  have k38 : n1.1 0 38 = n.1 0 38 := a1 0 38 (fld_iff.2 (by omega))
  refine h2.2 n1 (c + L1.length) dd Q' (fun x x0 x1 => by rw [k18]; exact hs x (by omega) x1) (by omega) (by omega) (by omega) l1 d0 dh (fun n2 l2 a2 w2 => ?_) (fun n2 l2 a2 => er n2 (by omega) (a1.tr (fld_up a2 (by omega) (Int.le_refl dd))))
  have := ok n2 (by omega) (a1.tr (fld_up a2 (by omega) (Int.le_refl dd))) ((w1.cg (Int.le_refl _) a2).app w2)
  rw [len, ← Int.add_assoc] at this
  exact this
theorem SEGv.one (hR : jm_HR gR) {i : Int} {h : Nat} (i0 : 0 ≤ i) (n3 : ¬ st (4 * i) = 3) (n4 : ¬ st (4 * i) = 4) : SEGv l gR d st i (i + 1) [(st (4 * i), st (4 * i + 1), st (4 * i + 2), st (4 * i + 3))] h := by
  refine ⟨⟨i0, by omega⟩, fun n c dd Q' hs hj hq c0 c1 d0 dh ok er => ?_⟩
  have s0 := hs (4 * i) (by omega) (by omega)
  have s1 := hs (4 * i + 1) (by omega) (by omega)
  have s2 := hs (4 * i + 2) (by omega) (by omega)
  have s3 := hs (4 * i + 3) (by omega) (by omega)
  have len : (([(st (4 * i), st (4 * i + 1), st (4 * i + 2), st (4 * i + 3))] : List pD).length : Int) = 1 := rfl
  rw [len] at ok er
  refine bX12_laysDeeds_6 hR ⟨⟨by omega, by omega⟩, fun r => by omega, fun _ x2 e2 => ?_⟩
  rw [e2]
  refine ⟨⟨by omega, by omega⟩, fun q3 => ⟨fun q4 => ⟨⟨by omega, by omega⟩, fun c60 => ?_, fun c60 m5 e5 => ?_⟩, fun q4 => by omega⟩, fun q3 => by omega⟩
  · refine bX12_laysDeeds_133 hR ⟨⟨by decide, by decide⟩, fun r => absurd r (by decide), fun _ => ⟨⟨by omega, by omega⟩, ⟨by omega, by omega⟩, fun ma ea => ?_⟩⟩
    refine bX12_laysDeeds_133 hR ⟨⟨by decide, by decide⟩, fun r => absurd r (by decide), fun _ => ⟨⟨by omega, by omega⟩, ⟨by omega, by omega⟩, fun mb eb => ?_⟩⟩
    refine bX12_laysDeeds_133 hR ⟨⟨by decide, by decide⟩, fun r => absurd r (by decide), fun _ => ⟨⟨by omega, by omega⟩, ⟨by omega, by omega⟩, fun mc ec => ?_⟩⟩
    refine bX12_laysDeeds_133 hR ⟨⟨by decide, by decide⟩, fun r => absurd r (by decide), fun _ => ⟨⟨by omega, by omega⟩, ⟨by omega, by omega⟩, fun md ed => ?_⟩⟩
    refine bX12_laysDeeds_133 hR ⟨⟨by decide, by decide⟩, fun _ x2 ex => ?_, fun r => absurd r (by decide)⟩
    rw [ex]
    rw [show (4 * i + 0 : Int) = 4 * i by omega, s0] at ea
    rw [show (4 * i + (0 + 1) : Int) = 4 * i + 1 by omega, ea, jm_wrO (by decide), s1] at eb
    rw [show (4 * i + (0 + 1 + 1) : Int) = 4 * i + 2 by omega, eb, jm_wrO (by decide), jm_wrO (by decide), s2] at ec
    rw [show (4 * i + (0 + 1 + 1 + 1) : Int) = 4 * i + 3 by omega, ec, jm_wrO (by decide), jm_wrO (by decide), jm_wrO (by decide), s3] at ed
    refine ok md (by omega) ?_ ?_
    · rw [ed]
      have f : ∀ x : Int, 240 + 4 * c ≤ x → fld c dd 19 x = false := fun x hx => by
        cases e : fld c dd 19 x
        · rfl
        · have := fld_iff.1 e
          omega
      exact (((jm_ag.rf.wr (f _ (by omega))).wr (f _ (by omega))).wr (f _ (by omega))).wr (f _ (by omega))
    · intro k x hx
      cases k with
      | succ k => simp at hx
      | zero =>
        have hx := Option.some.inj hx
        rw [← hx, ed]
        refine ⟨?_, ?_, ?_, ?_⟩
        · rw [jm_wrI (by omega), jm_wrI (by omega), jm_wrI (by omega), show 240 + 4 * (c + ((0 : Nat) : Int)) = 240 + 4 * c + 0 by omega, jm_wrS]
        · rw [jm_wrI (by omega), jm_wrI (by omega), show 240 + 4 * (c + ((0 : Nat) : Int)) + 1 = 240 + 4 * c + (0 + 1) by omega, jm_wrS]
        · rw [jm_wrI (by omega), show 240 + 4 * (c + ((0 : Nat) : Int)) + 2 = 240 + 4 * c + (0 + 1 + 1) by omega, jm_wrS]
        · rw [show 240 + 4 * (c + ((0 : Nat) : Int)) + 3 = 240 + 4 * c + (0 + 1 + 1 + 1) by omega, jm_wrS]
  · rw [e5]
    exact er n (by omega) jm_ag.rf
def prep : Nat → List pD → List pD
  | 0, _ => []
  | r + 1, L => L ++ prep r L
theorem prep_len (L : List pD) : ∀ r : Nat, (prep r L).length = r * L.length
  | 0 => by simp [prep]
  | r + 1 => by
    show (L ++ prep r L).length = _
    rw [List.length_append, prep_len L r, Nat.succ_mul, Nat.add_comm]
theorem SEGv.again (hR : jm_HR gR) {i j tm : Int} {L : List pD} {h : Nat} (i0 : 0 ≤ i) (s3 : st (4 * i) = 3) (st1 : st (4 * i + 1) = tm) (t1 : 1 ≤ tm) (t9 : tm ≤ 9) (hL : SEGv l gR d st (i + 1) j L h) (s4 : st (4 * j) = 4) : SEGv l gR d st i (j + 1) (prep tm.toNat L) (h + 1) := by
  have q1 := hL.1
  refine ⟨⟨i0, by omega⟩, fun n c dd Q' hs hj hq c0 c1 d0 dh ok er => ?_⟩
  have loop : ∀ (r : Nat) (n : jm_M) (c : Int), r ≤ 9 → (∀ x, 4 * i ≤ x → x < 4 * (j + 1) → n.1 18 x = st x) → j + 1 ≤ n.1 0 38 → n.1 0 38 ≤ 200 → 0 ≤ c → c ≤ 60 → n.1 20 dd = i → n.1 21 dd = r + 1 → (∀ n', c + (prep (r + 1) L).length ≤ 60 → jm_ag (fld c dd) n n' → DW n' c (prep (r + 1) L) → jm_V l gR (d + 2) iX12_laysDeeds 6 [(0, .ref 0), (1, jm_i (c + (prep (r + 1) L).length)), (2, jm_i dd), (3, jm_i (j + 1))] [] n' Q') → (∀ n', 60 < c + (prep (r + 1) L).length → jm_ag (fld c dd) n n' → Q' (some (jm_i (-1))) (jm_wr (jm_wr n' 0 31 4) 0 32 ((jm_wr n' 0 31 4).1 0 15))) → jm_V l gR (d + 2) iX12_laysDeeds 6 [(0, .ref 0), (1, jm_i c), (2, jm_i (dd + 1)), (3, jm_i (i + 1))] [] n Q' := by
    intro r
    induction r with
    | zero =>
      intro n c r9 hs hj hq c0 c1 e20 e21 ok er
      have len : ((prep (0 + 1) L).length : Int) = L.length := by
        show ((L ++ []).length : Int) = _
        rw [List.append_nil]
      rw [len] at ok er
      refine hL.2 n c (dd + 1) Q' (fun x x0 x1 => hs x (by omega) (by omega)) (by omega) hq c0 c1 (by omega) (by omega) (fun n1 l1 a1 w1 => ?_) (fun n1 l1 a1 => er n1 l1 (fld_up a1 (Int.le_refl c) (by omega)))
      have k18 : n1.1 18 = n.1 18 := a1.cell (fun i => fld_iff.2 (by omega))
      have k38 : n1.1 0 38 = n.1 0 38 := a1 0 38 (fld_iff.2 (by omega))
      have k21 : n1.1 21 dd = n.1 21 dd := a1 21 dd (fld_iff.2 (by omega))
      have e4 : n1.1 18 (4 * j) = 4 := by rw [k18, hs (4 * j) (by omega) (by omega), s4]
      refine bX12_laysDeeds_6 hR ⟨⟨by omega, by omega⟩, fun r => by omega, fun _ x2 e2 => ?_⟩
      rw [e2, show dd + 1 - 1 = dd by omega]
      refine ⟨⟨by omega, by omega⟩, fun q3 => ⟨fun q4 => absurd e4 q4, fun _ => ⟨⟨by omega, by omega⟩, ⟨by omega, by omega⟩, fun m9 e9 => ⟨fun _ x11 e11 => ?_, fun r => ?_⟩⟩⟩, fun q3 => by omega⟩
      · rw [e11]
        refine ok m9 (by omega) ((fld_up a1 (Int.le_refl c) (by omega)).tr ?_) ?_
        · rw [e9]
          exact jm_ag.rf.wr (by
            cases e : fld c dd 21 dd
            · rfl
            · have := fld_iff.1 e
              omega)
        · show DW m9 c (L ++ [])
          rw [List.append_nil]
          intro k x hx
          rw [e9, jm_wrO (by decide), jm_wrO (by decide), jm_wrO (by decide), jm_wrO (by decide)]
          exact w1 k x hx
      · exfalso
        rw [e9, jm_wrS] at r
        omega
    | succ r ih =>
      intro n c r9 hs hj hq c0 c1 e20 e21 ok er
      have len : ((prep (r + 1 + 1) L).length : Int) = L.length + (prep (r + 1) L).length := by
        show ((L ++ prep (r + 1) L).length : Int) = _
        rw [List.length_append]
        omega
      rw [len] at ok er
      refine hL.2 n c (dd + 1) Q' (fun x x0 x1 => hs x (by omega) (by omega)) (by omega) hq c0 c1 (by omega) (by omega) (fun n1 l1 a1 w1 => ?_) (fun n1 l1 a1 => er n1 (by omega) (fld_up a1 (Int.le_refl c) (by omega)))
      have k18 : n1.1 18 = n.1 18 := a1.cell (fun i => fld_iff.2 (by omega))
      have k38 : n1.1 0 38 = n.1 0 38 := a1 0 38 (fld_iff.2 (by omega))
      have k21 : n1.1 21 dd = n.1 21 dd := a1 21 dd (fld_iff.2 (by omega))
      have k20 : n1.1 20 dd = n.1 20 dd := a1 20 dd (fld_iff.2 (by omega))
      have e4 : n1.1 18 (4 * j) = 4 := by rw [k18, hs (4 * j) (by omega) (by omega), s4]
      refine bX12_laysDeeds_6 hR ⟨⟨by omega, by omega⟩, fun r => by omega, fun _ x2 e2 => ?_⟩
      rw [e2, show dd + 1 - 1 = dd by omega]
      refine ⟨⟨by omega, by omega⟩, fun q3 => ⟨fun q4 => absurd e4 q4, fun _ => ⟨⟨by omega, by omega⟩, ⟨by omega, by omega⟩, fun m9 e9 => ⟨fun r => ?_, fun _ x12 e12 => ?_⟩⟩⟩, fun q3 => by omega⟩
      · exfalso
        rw [e9, jm_wrS] at r
        omega
      · have f20 : m9.1 20 dd = i := by rw [e9, jm_wrO (by decide), k20, e20]
        have f21 : m9.1 21 dd = (r : Int) + 1 := by rw [e9, jm_wrS, k21, e21]; omega
        have a9 : jm_ag (fld c dd) n m9 := (fld_up a1 (Int.le_refl c) (by omega)).tr (by
          rw [e9]
          exact jm_ag.rf.wr (by
            cases e : fld c dd 21 dd
            · rfl
            · have := fld_iff.1 e
              omega))
        have w9 : DW m9 c L := by
          intro k x hx
          rw [e9, jm_wrO (by decide), jm_wrO (by decide), jm_wrO (by decide), jm_wrO (by decide)]
          exact w1 k x hx
        have g18 : m9.1 18 = n.1 18 := by
          rw [← k18, e9]
          funext y
          exact jm_wrO (by decide)
        have g38 : m9.1 0 38 = n.1 0 38 := by rw [e9, jm_wrO (by decide), k38]
        rw [e12, f20]
        refine ih m9 (c + L.length) (by omega) (fun x x0 x1 => by rw [g18]; exact hs x x0 x1) (by omega) (by omega) (by omega) l1 f20 f21 (fun n2 l2 a2 w2 => ?_) (fun n2 l2 a2 => er n2 (by omega) (a9.tr (fld_up a2 (by omega) (Int.le_refl dd))))
        have := ok n2 (by omega) (a9.tr (fld_up a2 (by omega) (Int.le_refl dd))) ((w9.cg (Int.le_refl _) a2).app w2)
        rw [← Int.add_assoc] at this
        exact this
  have b0 := hs (4 * i) (by omega) (by omega)
  have b1 := hs (4 * i + 1) (by omega) (by omega)
  refine bX12_laysDeeds_6 hR ⟨⟨by omega, by omega⟩, fun r => by omega, fun _ x2 e2 => ?_⟩
  rw [e2]
  refine ⟨⟨by omega, by omega⟩, fun q3 => by omega, fun _ => ⟨⟨by omega, by omega⟩, fun m14 e14 => ⟨⟨by omega, by omega⟩, fun m17 e17 x19 e19 => ?_⟩⟩⟩
  rw [e14, jm_wrO (by decide), b1, st1] at e17
  rw [e19]
  have f : ∀ y : Nat, y = 20 ∨ y = 21 → fld c dd y dd = false := fun y hy => by
    cases e : fld c dd y dd
    · rfl
    · have := fld_iff.1 e
      omega
  have a17 : jm_ag (fld c dd) n m17 := by
    rw [e17]
    exact (jm_ag.rf.wr (f 20 (Or.inl rfl))).wr (f 21 (Or.inr rfl))
  obtain ⟨r, er'⟩ : ∃ r : Nat, tm.toNat = r + 1 := ⟨tm.toNat - 1, by omega⟩
  rw [er'] at ok er
  refine loop r m17 c (by omega) (fun x x0 x1 => by rw [e17, jm_wrO (by decide), jm_wrO (by decide)]; exact hs x x0 x1) (by rw [e17, jm_wrO (by decide), jm_wrO (by decide)]; exact hj) (by rw [e17, jm_wrO (by decide), jm_wrO (by decide)]; exact hq) c0 c1 (by rw [e17, jm_wrO (by decide), jm_wrS]) (by rw [e17, jm_wrS]; omega) (fun n' l1 a1 w1 => ok n' l1 (a17.tr a1) w1) (fun n' l1 a1 => er n' l1 (a17.tr a1))
end RP
