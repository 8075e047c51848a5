section WD
variable {l : Launch} {gC gR : jm_G} {d : Nat} {mu nu m n : jm_M} {v1 v2 v3 v4 v5 v6 : Int} {Q : Option Value → jm_M → Prop} {B P S P' S' : Int → Int}
/-- the words: where each begins and ends in the reference's list -/
def wGl (i : Nat) : Int := jm_W143.getD i 0
def wSl : List Nat := [1, 6, 12, 19, 24, 27, 31, 35, 41, 48, 55, 59, 64, 69, 74, 80, 84, 89, 95, 102, 105, 110, 115, 120, 123, 126, 132, 137, 143]
def wEl : List Nat := [5, 11, 18, 23, 26, 30, 34, 40, 47, 54, 58, 63, 68, 73, 79, 83, 88, 94, 101, 104, 109, 114, 119, 122, 125, 131, 136, 142, 143]
def wS (j : Nat) : Nat := wSl.getD j 143
def wE (j : Nat) : Nat := wEl.getD j 143
/-- of a text the first of its words, how many, and where they begin -/
def wb (k : Nat) : Nat := if k = 1 then 0 else if k = 0 then 18 else 22
def wc (k : Nat) : Nat := if k = 1 then 18 else if k = 0 then 4 else 6
def wof (k : Nat) : Nat := if k = 1 then 1 else if k = 0 then 95 else 115
def wln (k : Nat) : Nat := if k = 1 then 94 else if k = 0 then 20 else 28
def jm_JS (l : Launch) (g : jm_G) : Prop := ∀ (k : Nat), k < 3 → (∀ (d : Nat) (mu : jm_M) (Q : Option Value → jm_M → Prop), Q (some (jm_i (wln k))) mu → jm_R l g (d + 12) iJ0_length_8abf5 [.ref (1000 + k)] mu Q) ∧ ∀ (d : Nat) (mu : jm_M) (Q : Option Value → jm_M → Prop) (i : Nat), i < wln k → Q (some (jm_i (wGl (wof k + i)))) mu → jm_R l g (d + 12) iJ0_charAt_5068e [.ref (1000 + k), jm_i i] mu Q
theorem w_st : ∀ j : Fin 28, wS (j.val + 1) = wE j.val + 1 ∧ wS j.val < wE j.val ∧ wE j.val ≤ 142 ∧ 1 ≤ wS j.val ∧ wE j.val ≤ wS j.val + 7 := by decide +kernel
theorem w_sp : ∀ j : Fin 28, ∀ x : Fin 143, wS j.val ≤ x.val → x.val ≤ wE j.val → (wGl x.val = 32 ↔ x.val = wE j.val) := by decide +kernel
theorem w_un : ∀ j i : Fin 28, ¬ j = i → wE j.val - wS j.val = wE i.val - wS i.val → ∃ x : Fin 8, x.val < wE j.val - wS j.val ∧ ¬ wGl (wS j.val + x.val) = wGl (wS i.val + x.val) := by decide +kernel
theorem w_tx : ∀ k : Fin 3, wb k.val + wc k.val ≤ 28 ∧ wS (wb k.val) = wof k.val ∧ wof k.val + wln k.val = wS (wb k.val + wc k.val) ∧ 1 ≤ wc k.val := by decide +kernel
theorem w_rg : ∀ x : Fin 143, 0 ≤ wGl x.val ∧ wGl x.val ≤ 255 := by decide +kernel
/-- a token is the j-th word -/
def mt (B : Int → Int) (p s : Int) (j : Nat) : Prop := ((wE j - wS j : Nat) : Int) = s ∧ ∀ x : Nat, (x : Int) < s → B (p + x) = wGl (wS j + x)
theorem mt_un {p s : Int} {j i : Nat} (hj : j < 28) (hi : i < 28) (a : mt B p s j) (b : mt B p s i) : j = i := by
  apply Decidable.byContradiction
  intro q
  obtain ⟨x, x1, x2⟩ := w_un ⟨j, hj⟩ ⟨i, hi⟩ (fun r => q (by injection r)) (by have := a.1; have := b.1; show wE j - wS j = wE i - wS i; omega)
  have x1 : x.val < wE j - wS j := x1
  have e1 := a.2 x.val (by have := a.1; omega)
  have e2 := b.2 x.val (by have := a.1; omega)
  exact x2 (e1.symm.trans e2)
theorem sX7_isSpelled (hC : jm_HC gC) (hJ : jm_JS l gC) {k : Nat} (hk : k < 3) {j : Nat} (j1 : wb k ≤ j) (j2 : j < wb k + wc k) {p s : Int} (p0 : 0 ≤ p) (s0 : 0 ≤ s) (ps : p + s ≤ 400) (el : ((wE j - wS j : Nat) : Int) = s) {a b : Int} (ea : a = ((wS j - wof k : Nat) : Int)) (eb : b = ((wE j - wof k : Nat) : Int)) (h1 : mt (m.1 2) p s j → Q (some (jm_i 1)) m) (h0 : ¬ mt (m.1 2) p s j → Q (some (jm_i 0)) m) : jm_R l gC (d + 13) iX7_isSpelled [.ref 1, .ref (1000 + k), jm_i a, jm_i b, jm_i p] m Q := by
  have tx := w_tx ⟨k, hk⟩
  have tx : wb k + wc k ≤ 28 ∧ wS (wb k) = wof k ∧ wof k + wln k = wS (wb k + wc k) ∧ 1 ≤ wc k := tx
  have st := w_st ⟨j, by omega⟩
  have st : wS (j + 1) = wE j + 1 ∧ wS j < wE j ∧ wE j ≤ 142 ∧ 1 ≤ wS j ∧ wE j ≤ wS j + 7 := st
  have mono : ∀ (e i : Nat), i + e ≤ 28 → wS i ≤ wS (i + e) := by
    intro e
    induction e with
    | zero => intro i _; exact Nat.le_refl _
    | succ e ih =>
      intro i hi
      have := w_st ⟨i + e, by omega⟩
      have this : wS (i + e + 1) = wE (i + e) + 1 ∧ wS (i + e) < wE (i + e) ∧ wE (i + e) ≤ 142 ∧ 1 ≤ wS (i + e) ∧ wE (i + e) ≤ wS (i + e) + 7 := this
      have := ih i (by omega)
      show wS i ≤ wS (i + e + 1)
      omega
  have lo := mono (j - wb k) (wb k) (by omega)
  rw [show wb k + (j - wb k) = j by omega] at lo
  have hi := mono (wb k + wc k - (j + 1)) (j + 1) (by omega)
  rw [show j + 1 + (wb k + wc k - (j + 1)) = wb k + wc k by omega] at hi
  have lp : ∀ (e x : Nat), x + e = wE j - wS j → (∀ y : Nat, y < x → m.1 2 (p + y) = wGl (wS j + y)) → jm_V l gC (d + 13) iX7_isSpelled 3 [(0, .ref 1), (1, .ref (1000 + k)), (2, jm_i a), (3, jm_i b), (4, jm_i p), (5, jm_i ((wS j - wof k + x : Nat) : Int))] [] m Q := by
    intro e
    induction e with
    | zero =>
      intro x hx hh
      refine bX7_isSpelled_3 hC ⟨⟨by omega, by omega⟩, ⟨by omega, by omega⟩, fun _ => h1 ⟨el, fun y hy => hh y (by omega)⟩, fun r => by omega⟩
    | succ e ih =>
      intro x hx hh
      refine bX7_isSpelled_3 hC ⟨⟨by omega, by omega⟩, ⟨by omega, by omega⟩, fun r => by omega, fun _ x3 e3 => ⟨⟨by omega, by omega⟩, fun r => by omega, fun _ => ⟨⟨k, hk, rfl⟩, ?_⟩⟩⟩
      have gr := w_rg ⟨wS j + x, by omega⟩
      have gr : 0 ≤ wGl (wS j + x) ∧ wGl (wS j + x) ≤ 255 := gr
      refine (hJ k hk).2 d m _ (wS j - wof k + x) (by omega) ?_
      rw [show wof k + (wS j - wof k + x) = wS j + x by omega, show x3 = p + x by omega]
      refine jm_qiI ⟨by omega, by omega⟩ ⟨⟨by omega, by omega⟩, fun q => ?_, fun q => h0 (fun z => q ?_)⟩
      · have nx := ih (x + 1) (by omega) (fun y hy => by
          by_cases z : y = x
          · subst z; exact q.symm
          · exact hh y (by omega))
        rw [show ((wS j - wof k + (x + 1) : Nat) : Int) = ((wS j - wof k + x : Nat) : Int) + 1 by omega] at nx
        exact nx
      · exact (z.2 x (by omega)).symm
  have st0 := lp (wE j - wS j) 0 (by omega) (fun y hy => by omega)
  rw [show ((wS j - wof k + 0 : Nat) : Int) = a by omega] at st0
  exact eX7_isSpelled hC st0
theorem w_mono : ∀ (e i : Nat), i + e ≤ 28 → wS i ≤ wS (i + e) := by
  intro e
  induction e with
  | zero => intro i _; exact Nat.le_refl _
  | succ e ih =>
    intro i hi
    have := w_st ⟨i + e, by omega⟩
    have this : wS (i + e + 1) = wE (i + e) + 1 ∧ wS (i + e) < wE (i + e) ∧ wE (i + e) ≤ 142 ∧ 1 ≤ wS (i + e) ∧ wE (i + e) ≤ wS (i + e) + 7 := this
    have := ih i (by omega)
    show wS i ≤ wS (i + e + 1)
    omega
theorem sX7_wordOf (hC : jm_HC gC) (hJ : jm_JS l gC) {k : Nat} (hk : k < 3) {t : Int} (t0 : 0 ≤ t) (t1 : t < 401) (p0 : 0 ≤ m.1 4 t) (s0 : 0 ≤ m.1 5 t) (ps : m.1 4 t + m.1 5 t ≤ 400) (h1 : ∀ w : Nat, w < wc k → mt (m.1 2) (m.1 4 t) (m.1 5 t) (wb k + w) → Q (some (jm_i ((300 + w : Nat) : Int))) m) (h0 : (∀ w : Nat, w < wc k → ¬ mt (m.1 2) (m.1 4 t) (m.1 5 t) (wb k + w)) → Q (some (jm_i 258)) m) : jm_R l gC (d + 14) iX7_wordOf [.ref 1, jm_i t, .ref (1000 + k)] m Q := by
  have tx : wb k + wc k ≤ 28 ∧ wS (wb k) = wof k ∧ wof k + wln k = wS (wb k + wc k) ∧ 1 ≤ wc k := w_tx ⟨k, hk⟩
  have w27 : wln k ≤ 95 := by unfold wln; split <;> (try split) <;> omega
  have lp : ∀ (e i w : Nat), i + e = wln k → w ≤ wc k → (w < wc k → wS (wb k + w) ≤ wof k + i ∧ wof k + i ≤ wE (wb k + w)) → (w = wc k → i = wln k) → (∀ y : Nat, y < w → ¬ mt (m.1 2) (m.1 4 t) (m.1 5 t) (wb k + y)) → jm_V l gC (d + 14) iX7_wordOf 10 [(0, .ref 1), (1, jm_i t), (2, .ref (1000 + k)), (3, jm_i ((300 + w : Nat) : Int)), (4, jm_i ((wS (wb k + w) - wof k : Nat) : Int)), (5, jm_i i)] [] m Q := by
    intro e
    induction e with
    | zero =>
      intro i w hi hw hin hend hh
      have w_e : w = wc k := by
        apply Decidable.byContradiction
        intro q
        have a := hin (by omega)
        have b := w_mono (wc k - (w + 1)) (wb k + w + 1) (by omega)
        have c : wS (wb k + w + 1) = wE (wb k + w) + 1 ∧ wS (wb k + w) < wE (wb k + w) ∧ wE (wb k + w) ≤ 142 ∧ 1 ≤ wS (wb k + w) ∧ wE (wb k + w) ≤ wS (wb k + w) + 7 := w_st ⟨wb k + w, by omega⟩
        rw [show wb k + w + 1 + (wc k - (w + 1)) = wb k + wc k by omega] at b
        omega
      refine bX7_wordOf_10 hC ⟨⟨k, hk, rfl⟩, (hJ k hk).1 (d + 1) m _ (jm_qiI ⟨by omega, by omega⟩ ⟨⟨by omega, by omega⟩, fun _ => h0 (fun y hy => hh y (by omega)), fun r => by omega⟩)⟩
    | succ e ih =>
      intro i w hi hw hin hend hh
      have wl : w < wc k := by
        apply Decidable.byContradiction
        intro q
        have := hend (by omega)
        omega
      have a := hin wl
      have c : wS (wb k + w + 1) = wE (wb k + w) + 1 ∧ wS (wb k + w) < wE (wb k + w) ∧ wE (wb k + w) ≤ 142 ∧ 1 ≤ wS (wb k + w) ∧ wE (wb k + w) ≤ wS (wb k + w) + 7 := w_st ⟨wb k + w, by omega⟩
      have sp : wGl (wof k + i) = 32 ↔ wof k + i = wE (wb k + w) := w_sp ⟨wb k + w, by omega⟩ ⟨wof k + i, by omega⟩ a.1 a.2
      have gr : 0 ≤ wGl (wof k + i) ∧ wGl (wof k + i) ≤ 255 := w_rg ⟨wof k + i, by omega⟩
      have lo := w_mono w (wb k) (by omega)
      refine bX7_wordOf_10 hC ⟨⟨k, hk, rfl⟩, (hJ k hk).1 (d + 1) m _ (jm_qiI ⟨by omega, by omega⟩ ⟨⟨by omega, by omega⟩, fun r => by omega, fun _ => ⟨⟨k, hk, rfl⟩, (hJ k hk).2 (d + 1) m _ i (by omega) (jm_qiI ⟨by omega, by omega⟩ ⟨fun q => ?_, fun q => ⟨⟨t0, t1⟩, ⟨by omega, by omega⟩, ?_⟩⟩)⟩⟩)⟩
      · have nx := ih (i + 1) w (by omega) hw (fun _ => ⟨by omega, by have := fun z => q (sp.2 z); omega⟩) (fun z => by omega) hh
        rw [show ((i + 1 : Nat) : Int) = (i : Int) + 1 by omega] at nx
        exact nx
      · have ew := sp.1 q
        have go : ¬ mt (m.1 2) (m.1 4 t) (m.1 5 t) (wb k + w) → ∀ x : Int, x = (i : Int) + 1 → jm_V l gC (d + 14) iX7_wordOf 10 [(0, .ref 1), (1, jm_i t), (2, .ref (1000 + k)), (3, jm_i (((300 + w : Nat) : Int) + 1)), (4, jm_i x), (5, jm_i ((i : Int) + 1))] [] m Q := by
          intro z x ex
          have nx := ih (i + 1) (w + 1) (by omega) (by omega) (fun hw' => by
            have c' : wS (wb k + w + 1) < wE (wb k + w + 1) := (w_st ⟨wb k + w + 1, by omega⟩).2.1
            show wS (wb k + w + 1) ≤ wof k + (i + 1) ∧ wof k + (i + 1) ≤ wE (wb k + w + 1)
            omega) (fun hw' => by
            have b : wof k + wln k = wS (wb k + w + 1) := by rw [tx.2.2.1, ← hw', Nat.add_assoc]
            omega) (fun y hy => by
            by_cases r : y = w
            · subst r; exact z
            · exact hh y (by omega))
          rw [show ((300 + (w + 1) : Nat) : Int) = ((300 + w : Nat) : Int) + 1 by omega, show ((wS (wb k + (w + 1)) - wof k : Nat) : Int) = x by have : wS (wb k + (w + 1)) = wE (wb k + w) + 1 := c.1; omega, show ((i + 1 : Nat) : Int) = (i : Int) + 1 by omega] at nx
          exact nx
        refine ⟨fun r => fun x ex => go (fun z => r (by have := z.1; omega)) x ex, fun r => ?_⟩
        refine sX7_isSpelled (d := d) hC hJ hk (j := wb k + w) (by omega) (by omega) p0 s0 ps (by omega) rfl (by omega) (fun z => jm_qiI ⟨by decide, by decide⟩ ⟨fun q => absurd q (by decide), fun _ => h1 w wl z⟩) (fun z => jm_qiI ⟨by decide, by decide⟩ ⟨fun _ x ex => go z x ex, fun q => absurd rfl q⟩)
  have st := lp (wln k) 0 0 (by omega) (by omega) (fun _ => by
    have c : wS (wb k) < wE (wb k) := (w_st ⟨wb k, by omega⟩).2.1
    show wS (wb k) ≤ wof k + 0 ∧ wof k + 0 ≤ wE (wb k)
    omega) (fun z => by omega) (fun y hy => by omega)
  rw [show ((wS (wb k + 0) - wof k : Nat) : Int) = 0 by have : wS (wb k + 0) = wof k := tx.2.1; omega] at st
  exact eX7_wordOf hC st
/-- the reference's search -/
theorem sX12_wordAt (hR : jm_HR gR) {p s : Int} (p0 : 0 ≤ p) (s0 : 1 ≤ s) (ps : p + s ≤ 400) (hW : ∀ k : Nat, k < 143 → n.1 8 k = jm_W143.getD k 0) (hL : ∀ x : Nat, (x : Int) < s → ¬ n.1 7 (p + x) = 32) {b : Int} (eb : b = p + s) (h1 : ∀ j : Nat, j < 28 → mt (n.1 7) p s j → Q (some (jm_i j)) n) (h0 : (∀ j : Nat, j < 28 → ¬ mt (n.1 7) p s j) → Q (some (jm_i (-1))) n) : jm_R l gR (d + 1) iX12_wordAt [.ref 0, jm_i p, jm_i b] n Q := by
  subst eb
  have lp : ∀ (e j : Nat), j + e = 28 → (∀ y : Nat, y < j → ¬ mt (n.1 7) p s y) → jm_V l gR (d + 1) iX12_wordAt 5 [(0, .ref 0), (1, jm_i p), (2, jm_i (p + s)), (3, jm_i ((j : Int) - 1)), (4, jm_i ((wS j : Int) - 1))] [] n Q := by
    intro e
    induction e with
    | zero =>
      intro j hj hh
      have ej : j = 28 := by omega
      subst ej
      have w28 : wS 28 = 143 := by decide
      exact bX12_wordAt_5 hR ⟨⟨by omega, by omega⟩, fun _ => h0 hh, fun r => by omega⟩
    | succ e ih =>
      intro j hj hh
      have c : wS (j + 1) = wE j + 1 ∧ wS j < wE j ∧ wE j ≤ 142 ∧ 1 ≤ wS j ∧ wE j ≤ wS j + 7 := w_st ⟨j, by omega⟩
      have go : ¬ mt (n.1 7) p s j → ∀ x : Int, x = (wS j : Int) - 1 + 1 → jm_V l gR (d + 1) iX12_wordAt 94 [(0, .ref 0), (1, jm_i p), (2, jm_i (p + s)), (3, jm_i (j : Int)), (4, jm_i x)] [] n Q := by
        intro z x ex
        have ip : ∀ (f y : Nat), y + f = wE j → wS j ≤ y → jm_V l gR (d + 1) iX12_wordAt 94 [(0, .ref 0), (1, jm_i p), (2, jm_i (p + s)), (3, jm_i (j : Int)), (4, jm_i y)] [] n Q := by
          intro f
          induction f with
          | zero =>
            intro y hy y1
            have sp : wGl y = 32 ↔ y = wE j := w_sp ⟨j, by omega⟩ ⟨y, by omega⟩ y1 (show y ≤ wE j by omega)
            have g : n.1 8 y = wGl y := hW y (by omega)
            refine bX12_wordAt_94 hR ⟨⟨by omega, by omega⟩, fun _ => ?_, fun r => absurd (g.trans (sp.2 (by omega))) r⟩
            have nx := ih (j + 1) (by omega) (fun w hw => by
              by_cases q : w = j
              · subst q; exact z
              · exact hh w (by omega))
            rw [show ((j + 1 : Nat) : Int) - 1 = j by omega, show ((wS (j + 1) : Nat) : Int) - 1 = y by omega] at nx
            exact nx
          | succ f ih2 =>
            intro y hy y1
            have sp : wGl y = 32 ↔ y = wE j := w_sp ⟨j, by omega⟩ ⟨y, by omega⟩ y1 (show y ≤ wE j by omega)
            have g : n.1 8 y = wGl y := hW y (by omega)
            refine bX12_wordAt_94 hR ⟨⟨by omega, by omega⟩, fun r => by rw [g] at r; have := sp.1 r; omega, fun _ x2 e2 => ?_⟩
            have ny := ih2 (y + 1) (by omega) (by omega)
            rw [show ((y + 1 : Nat) : Int) = x2 by omega] at ny
            exact ny
        have st := ip (wE j - wS j) (wS j) (by omega) (Nat.le_refl _)
        rw [show ((wS j : Nat) : Int) = x by omega] at st
        exact st
      refine bX12_wordAt_5 hR ⟨⟨by omega, by omega⟩, fun r => by omega, fun _ x2 e2 => ?_⟩
      rw [show x2 = (j : Int) by omega]
      have kp : ∀ (f i : Nat), (i : Int) + f = s → wS j + i ≤ wE j → (∀ y : Nat, y < i → n.1 7 (p + y) = wGl (wS j + y)) → jm_V l gR (d + 1) iX12_wordAt 20 [(0, .ref 0), (1, jm_i p), (2, jm_i (p + s)), (3, jm_i (j : Int)), (4, jm_i ((wS j : Int) - 1)), (5, jm_i i)] [] n Q := by
        intro f
        induction f with
        | zero =>
          intro i hi hj' hh'
          refine bX12_wordAt_20 hR ⟨⟨by omega, by omega⟩, ⟨by omega, by omega⟩, fun _ => ?_, fun r => by omega⟩
          have sp : wGl (wS j + i) = 32 ↔ wS j + i = wE j := w_sp ⟨j, by omega⟩ ⟨wS j + i, by omega⟩ (by show wS j ≤ wS j + i; omega) hj'
          have g : n.1 8 ((wS j + i : Nat) : Int) = wGl (wS j + i) := hW (wS j + i) (by omega)
          refine bX12_wordAt_61 hR ⟨⟨by omega, by omega⟩, ⟨by omega, by omega⟩, fun r => absurd (by omega) r, fun _ => ⟨⟨by omega, by omega⟩, ?_⟩⟩
          rw [show (wS j : Int) - 1 + 1 + i = ((wS j + i : Nat) : Int) by omega, g]
          exact ⟨fun r x5 e5 => go (fun z => r (sp.2 (by have := z.1; omega))) x5 e5, fun r => h1 j (by omega) ⟨by have := sp.1 r; omega, fun y hy => hh' y (by omega)⟩⟩
        | succ f ih2 =>
          intro i hi hj' hh'
          have g : n.1 8 ((wS j + i : Nat) : Int) = wGl (wS j + i) := hW (wS j + i) (by omega)
          have sp : wGl (wS j + i) = 32 ↔ wS j + i = wE j := w_sp ⟨j, by omega⟩ ⟨wS j + i, by omega⟩ (by show wS j ≤ wS j + i; omega) hj'
          refine bX12_wordAt_20 hR ⟨⟨by omega, by omega⟩, ⟨by omega, by omega⟩, fun r => by omega, fun _ => ⟨⟨by omega, by omega⟩, ⟨by omega, by omega⟩, ?_⟩⟩
          rw [show (wS j : Int) - 1 + 1 + i = ((wS j + i : Nat) : Int) by omega, g]
          refine ⟨fun r => ?_, fun r x5 e5 => ?_⟩
          · refine bX12_wordAt_61 hR ⟨⟨by omega, by omega⟩, ⟨by omega, by omega⟩, fun _ x3 e3 => go (fun z => r (z.2 i (by omega)).symm) x3 e3, fun q => by omega⟩
          · have nsp : ¬ wS j + i = wE j := fun q => hL i (by omega) (by rw [← r]; exact sp.2 q)
            have ny := ih2 (i + 1) (by omega) (by omega) (fun y hy => by
              by_cases z : y = i
              · subst z; exact r.symm
              · exact hh' y (by omega))
            rw [show ((i + 1 : Nat) : Int) = x5 by omega] at ny
            exact ny
      exact kp s.toNat 0 (by omega) (by omega) (fun y hy => by omega)
  have st := lp 28 0 (by omega) (fun y hy => by omega)
  have w0 : wS 0 = 1 := by decide
  rw [w0] at st
  exact eX12_wordAt hR st
end WD
