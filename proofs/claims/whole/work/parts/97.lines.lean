section LI
variable {l : Launch} {gC gR : jm_G} {d : Nat} {mu nu m n m0 n0 : jm_M} {v1 v2 v3 v4 v5 v6 : Int} {Q : Option Value → jm_M → Prop} {B B' K P S : Int → Int} {N t a : Int} {k : Nat}
theorem RF_o {c : Nat} {i : Int} (a f : Int) (h : ¬ (c = 1 ∧ (i = 2 ∨ i = 3))) : (RF P a f m).1 c i = m.1 c i := by
  unfold RF
  by_cases q : c = 1
  · rw [jm_wrI (fun r => h ⟨q, Or.inr r⟩), jm_wrI (fun r => h ⟨q, Or.inl r⟩)]
  · rw [jm_wrO q, jm_wrO q]
theorem d_line (hC : jm_HC gC) (hR : jm_HR gR) (hp : PHS 0 B N K P S t) (hs : CS m0 B K P S t m) {L : Int} (eL : m.1 46 0 = L) (L0 : 0 ≤ L) (L1 : L ≤ 16) (ne : ¬ K (m.1 1 8) = 257) (h : ∀ m' z, (z = 0 ∨ z = 1) → jm_ag (fcz z) m0 m' → (z = 1 → CS m0 B K P S t m' ∧ m'.1 46 0 = L + 1 ∧ L < 16) → (∀ n, RN DM n0 B N P S t m n → ∀ Q' : Option Value → jm_M → Prop, (z = 1 → ∀ n', RN DM n0 B N P S t m' n' → jm_V l gR (d + 7) iX12_readMotives 28 [(0, .ref 0), (1, jm_i (L + 1))] [] n' Q') → (z = 0 → ∀ n', EN n0 m' n' → Q' (some (jm_i (-1))) n') → jm_V l gR (d + 7) iX12_readMotives 28 [(0, .ref 0), (1, jm_i L)] [] n Q') → Q (some (jm_i z)) m') : jm_R l gC (d + 7) iX5_readLine [.ref 46, .ref 1] m Q := by
  have tb := hp.T
  obtain ⟨g2, g3, g4, g5, g7, -, g9, g10⟩ := hs.1
  have at1 : m.1 1 8 < t := by
    apply Decidable.byContradiction
    intro z
    exact ne ((hp.end_ g9 g10).2 (by omega))
  have tW : ∀ n, RN DM n0 B N P S t m n → ((n.1 0 16 = 2 ∧ n.1 0 17 = 18) ↔ K (m.1 1 8) = 300) := fun n hn => hp.eW hn.1.2.2.2 g9 g10 (w := 0) (by decide)
  have tE : ∀ n, RN DM n0 B N P S t m n → ¬ n.1 0 16 = 0 := fun n hn z => ne ((hp.eE hn.1.2.2.2 g9 g10).1 z)
  have at25 : (K (m.1 1 8) = 300 → ¬ L = 16) → jm_V l gC (d + 7) iX5_readLine 25 [(0, .ref 46), (1, .ref 1)] [] m Q := by
    intro hl
    refine bX5_readLine_25 hC (sX7_take (d := d + 4) hC hp hs.1 ⟨by decide, by decide⟩ (by decide) (fun q _ => jm_qiI ⟨by decide, by decide⟩ ⟨fun r => absurd r (by decide), fun _ => ?_⟩) (fun q => jm_qiI ⟨by decide, by decide⟩ ⟨fun _ => h _ 0 (Or.inl rfl) (hs.rf _ _) (fun r => absurd r (by decide)) (fun n hn Q' h1 h0 => bX12_readMotives_28 hR ⟨fun r => absurd ((tW n hn).1 r) q, fun _ => ⟨fun _ m9 e9 => ?_, fun r => absurd r (tE n hn)⟩⟩), fun r => absurd rfl r⟩))
    · -- the word stands
      have L16 : L < 16 := by have := hl q; omega
      have hs2 := hs.skip at1
      have e8 : (jm_wr m 1 8 (m.1 1 8 + 1)).1 1 8 = m.1 1 8 + 1 := jm_wrS
      have hpc2 := hs2.1
      rw [e8] at hpc2
      have a2t : m.1 1 8 + 1 ≤ t := by omega
      -- the reference until the number of the fact
      have till : ∀ n, RN DM n0 B N P S t m n → ∀ Q' : Option Value → jm_M → Prop, (∀ n2, PN B N P S t (m.1 1 8 + 1) n2 → jm_ag frx n0 n2 → n2.1 17 = n.1 17 → jm_R l gR (d + 4) iX12_readNumber [.ref 0, jm_i 0, jm_i 5] n2 (jm_qi fun z7 m6 => (jm_qi fun z2 m1 => (¬ z2 = (-1) → (¬ (m1.1 0 16) = 3 → jm_V l gR (d + 6) iX12_readMotive 32 [(0, .ref 0), (1, jm_i z2)] [jm_i 0] m1 (jm_qi fun z3 m2 => (¬ z3 = (-1) → ∀ x6, x6 = (L + 1) → jm_V l gR (d + 7) iX12_readMotives 28 [(0, .ref 0), (1, jm_i x6)] [] m2 Q') ∧ (z3 = (-1) → Q' (some (jm_i (-1))) m2))) ∧ ((m1.1 0 16) = 3 → jm_V l gR (d + 6) iX12_readMotive 32 [(0, .ref 0), (1, jm_i z2)] [jm_i (m1.1 0 17)] m1 (jm_qi fun z3 m2 => (¬ z3 = (-1) → ∀ x6, x6 = (L + 1) → jm_V l gR (d + 7) iX12_readMotives 28 [(0, .ref 0), (1, jm_i x6)] [] m2 Q') ∧ (z3 = (-1) → Q' (some (jm_i (-1))) m2)))) ∧ (z2 = (-1) → (jm_qi fun z3 m2 => (¬ z3 = (-1) → ∀ x6, x6 = (L + 1) → jm_V l gR (d + 7) iX12_readMotives 28 [(0, .ref 0), (1, jm_i x6)] [] m2 Q') ∧ (z3 = (-1) → Q' (some (jm_i (-1))) m2)) (some (jm_i (-1))) m1)) (some (jm_i z7)) m6)) → jm_V l gR (d + 7) iX12_readMotives 28 [(0, .ref 0), (1, jm_i L)] [] n Q' := by
        intro n hn Q' go
        refine bX12_readMotives_28 hR ⟨fun _ => ⟨⟨by omega, by omega⟩, fun _ => eX12_readMotive hR (eX12_readTold hR ⟨⟨by decide, by decide⟩, fun _ => sX12_next (d := d + 1) hR hp hn.1 g9 at1 (fun n2 a2 p2 => jm_qvI (go n2 p2 (hn.2.1.tr (frd_x a2)) (frd_17 a2))), fun r => absurd ((tW n hn).2 q) r⟩), fun r => by omega⟩, fun r => absurd ((tW n hn).2 q) r⟩
      have fail1 : ∀ f : Int, (∀ n2, PN B N P S t (m.1 1 8 + 1) n2 → ∀ Q' : Option Value → jm_M → Prop, Q' (some (jm_i (-1))) (RR P (m.1 1 8 + 1) f n2) → jm_R l gR (d + 4) iX12_readNumber [.ref 0, jm_i 0, jm_i 5] n2 Q') → Q (some (jm_i 0)) (RF P (m.1 1 8 + 1) f (jm_wr m 1 8 (m.1 1 8 + 1))) := by
        intro f hf
        refine h _ 0 (Or.inl rfl) (hs2.rf _ _) (fun r => absurd r (by decide)) (fun n hn Q' h1 h0 => till n hn Q' (fun n2 p2 a2 _ => hf n2 p2 _ (jm_qiI ⟨by decide, by decide⟩ (jm_qiI ⟨by decide, by decide⟩ ⟨fun r => absurd rfl r, fun _ => jm_qiI ⟨by decide, by decide⟩ ⟨fun r => absurd rfl r, fun _ => h0 rfl _ (EN_rf a2 _ _)⟩⟩))))
      refine sX7_isNumber (d := d + 4) hC hp hpc2 ⟨by decide, by decide⟩ ⟨by decide, by decide⟩ (fun q2 at2 lo hi => jm_qiI ⟨by decide, by decide⟩ ⟨fun _ => ?_, fun r => absurd r (by decide)⟩) (fun q2 at2 ng => jm_qiI ⟨by decide, by decide⟩ ⟨fun r => absurd rfl r, fun _ => fail1 2 (fun n2 p2 Q' hq => sX12_readNumber hR hp p2 (by omega) a2t ⟨by decide, by decide⟩ ⟨by decide, by decide⟩ (fun _ _ lo hi => absurd ⟨lo, hi⟩ ng) (fun _ _ => hq) (fun r => absurd q2 r))⟩) (fun q2 => jm_qiI ⟨by decide, by decide⟩ ⟨fun r => absurd rfl r, fun _ => fail1 1 (fun n2 p2 Q' hq => sX12_readNumber hR hp p2 (by omega) a2t ⟨by decide, by decide⟩ ⟨by decide, by decide⟩ (fun r _ _ _ => absurd r q2) (fun r _ => absurd r q2) (fun _ => hq))⟩)
      obtain ⟨f, ef⟩ : ∃ f, f = nva B P S (m.1 1 8 + 1) := ⟨_, rfl⟩
      have fb : 0 ≤ f ∧ f ≤ 5 := by rw [ef]; exact ⟨lo, hi⟩
      refine sX7_num (d := d + 5) hC hp hpc2 at2 q2 (jm_qiI ⟨by omega, by omega⟩ (sX7_skip (d := d + 5) hC hpc2 tb.2 at2 (jm_qvI ?_)))
      rw [← ef]
      have at2' : (jm_wr m 1 8 (m.1 1 8 + 1)).1 1 8 < t := by rw [e8]; exact at2
      have hs3 := hs2.skip at2'
      rw [e8] at hs3
      obtain ⟨m3, em3⟩ : ∃ m3, m3 = jm_wr (jm_wr m 1 8 (m.1 1 8 + 1)) 1 8 (m.1 1 8 + 1 + 1) := ⟨_, rfl⟩
      rw [← em3] at hs3 ⊢
      have e83 : m3.1 1 8 = m.1 1 8 + 1 + 1 := by rw [em3, jm_wrS]
      have hpc3 := hs3.1
      rw [e83] at hpc3
      have o3 : ∀ c, c ≠ 1 → m3.1 c = m.1 c := fun c hc => by funext y; rw [em3, jm_wrO hc, jm_wrO hc]
      -- the reference until the number of the value
      have till2 : ∀ n, RN DM n0 B N P S t m n → ∀ Q' : Option Value → jm_M → Prop, (∀ n3, PN B N P S t (m.1 1 8 + 1 + 1) n3 → jm_ag frx n0 n3 → n3.1 17 = n.1 17 → jm_V l gR (d + 6) iX12_readMotive 32 [(0, .ref 0), (1, jm_i f)] [jm_i (if K (m.1 1 8 + 1 + 1) = 256 then nva B P S (m.1 1 8 + 1 + 1) else 0)] n3 (jm_qi fun z3 m2 => (¬ z3 = (-1) → ∀ x6, x6 = (L + 1) → jm_V l gR (d + 7) iX12_readMotives 28 [(0, .ref 0), (1, jm_i x6)] [] m2 Q') ∧ (z3 = (-1) → Q' (some (jm_i (-1))) m2))) → jm_V l gR (d + 7) iX12_readMotives 28 [(0, .ref 0), (1, jm_i L)] [] n Q' := by
        intro n hn Q' go
        refine till n hn Q' (fun n2 p2 a2 s17 => sX12_readNumber hR hp p2 (by omega) a2t ⟨by decide, by decide⟩ ⟨by decide, by decide⟩ (fun _ _ _ _ n3 a3 p3 => ?_) (fun _ r => absurd ⟨lo, hi⟩ r) (fun r => absurd q2 r))
        have g := go n3 p3 (a2.tr (frd_x a3)) ((frd_17 a3).trans s17)
        have eN := hp.eN p3.2.2.2 (by omega) (by omega)
        rw [← ef]
        refine jm_qiI ⟨by omega, by omega⟩ (jm_qiI ⟨by omega, by omega⟩ ⟨fun _ => ⟨fun r => ?_, fun r => ?_⟩, fun r => by omega⟩)
        · rw [if_neg (fun z => r (eN.1.2 z))] at g
          exact g
        · rw [if_pos (eN.1.1 r)] at g
          rw [eN.2 (eN.1.1 r)]
          exact g
      have errQ : ∀ (Q' : Option Value → jm_M → Prop) (nn : jm_M), Q' (some (jm_i (-1))) nn → jm_qi (fun z3 m2 => (¬ z3 = (-1) → ∀ x6, x6 = (L + 1) → jm_V l gR (d + 7) iX12_readMotives 28 [(0, .ref 0), (1, jm_i x6)] [] m2 Q') ∧ (z3 = (-1) → Q' (some (jm_i (-1))) m2)) (some (jm_i (-1))) nn := fun Q' nn hq => jm_qiI ⟨by decide, by decide⟩ ⟨fun r => absurd rfl r, fun _ => hq⟩
      refine sX7_isNumber (d := d + 4) hC hp hpc3 ⟨by decide, by decide⟩ ⟨by decide, by decide⟩ (fun q3 at3 lo3 hi3 => jm_qiI ⟨by decide, by decide⟩ ⟨fun _ => ?_, fun r => absurd r (by decide)⟩) (fun q3 at3 ng => jm_qiI ⟨by decide, by decide⟩ ⟨fun r => absurd rfl r, fun _ => ?_⟩) (fun q3 => jm_qiI ⟨by decide, by decide⟩ ⟨fun r => absurd rfl r, fun _ => ?_⟩)
      · obtain ⟨v, ev⟩ : ∃ v, v = nva B P S (m.1 1 8 + 1 + 1) := ⟨_, rfl⟩
        have vb : 0 ≤ v ∧ v ≤ 3 := by rw [ev]; exact ⟨lo3, hi3⟩
        refine sX7_num (d := d + 5) hC hp hpc3 at3 q3 (jm_qiI ⟨by omega, by omega⟩ (fun x25 e25 => ?_))
        rw [← ev] at e25
        have xb : 0 ≤ x25 ∧ x25 < 24 := by omega
        refine ⟨xb, ?_⟩
        rw [o3 47 (by decide)]
        refine ⟨fun z0 => ?_, fun z0 => ?_⟩
        · -- a new motive
          refine sX7_skip (d := d + 5) hC hpc3 tb.2 at3 (jm_qvI (fun m31 f31 => ?_))
          have at3' : m3.1 1 8 < t := by rw [e83]; exact at3
          have hs4 := hs3.skip at3'
          rw [e83] at hs4
          have g46 : m31.1 46 0 = L := by rw [f31, jm_wrO (by decide), jm_wrO (by decide), o3 46 (by decide)]; exact eL
          rw [g46]
          refine ⟨⟨by omega, by omega⟩, fun m34 f34 => ?_⟩
          have hs5 : CS m0 B K P S t m34 := by rw [f34, f31]; exact (hs4.wr (by decide)).wr (by decide)
          have k47 : ∀ y, m34.1 47 y = if y = x25 then 1 else m.1 47 y := fun y => by
            rw [f34, jm_wrO (by decide), f31]
            split
            · rename_i z; rw [z, jm_wrS]
            · rename_i z; rw [jm_wrI z, jm_wrO (by decide), o3 47 (by decide)]
          have k48 : m34.1 48 = m.1 48 := by
            funext y
            rw [f34, jm_wrO (by decide), f31, jm_wrO (by decide), jm_wrO (by decide), o3 48 (by decide)]
          have k46 : m34.1 46 0 = L + 1 := by rw [f34, jm_wrS]
          have k8 : m34.1 1 8 = m.1 1 8 + 1 + 1 + 1 := by rw [f34, jm_wrO (by decide), f31, jm_wrO (by decide), jm_wrS]
          refine eX5_readSteps hC (d_steps (n0 := n0) (d := d) hC hR hp xb.1 xb.2 8 0 m34 _ (by omega) hs5 (by rw [k47, if_pos rfl]; rfl) (fun m' z z01 ag' cs' f46 ct => ?_))
          refine jm_qiI (by rcases z01 with e | e <;> rw [e] <;> exact ⟨by decide, by decide⟩) ⟨z01, h m' z z01 ag' (fun z1 => ⟨cs' z1, by rw [f46, k46], L16⟩) (fun n hn Q' h1 h0 => till2 n hn Q' (fun n3 p3 a3 s17 => ?_))⟩
          rw [if_pos q3, ← ev]
          have w17 := hn.2.2.1 x25 xb.1 xb.2
          have i17 : n3.1 17 (192 + 8 * (4 * f + v)) = 0 := by
            rw [s17, show 8 * (4 * f + v) = 8 * x25 by omega]
            omega
          refine bX12_readMotive_32 hR ⟨fun r => absurd ((hp.eN p3.2.2.2 (by omega) (by omega)).1.2 q3) r, fun _ => ⟨⟨by omega, by omega⟩, fun r => by omega, fun _ => ⟨⟨by omega, by omega⟩, fun _ => ?_, fun r => by omega⟩⟩⟩
          refine bX12_readMotive_72 hR ((sX12_readNumber (d := d) hR hp p3 (by omega) (by omega) ⟨by decide, by decide⟩ ⟨by decide, by decide⟩ (fun _ _ _ _ n4 a4 p4 => jm_qiI (by rw [← ev]; exact ⟨by omega, by omega⟩) ⟨fun _ x5 e5 => ⟨⟨by omega, by omega⟩, fun m7 e7 => ?_⟩, fun r => by rw [← ev] at r; omega⟩) (fun _ r => absurd ⟨lo3, hi3⟩ r) (fun r => absurd q3 r)).up (by omega))
          have ex5 : x5 = 192 + 8 * x25 := by omega
          rw [ex5] at e7 ⊢
          have s174 : n4.1 17 = n.1 17 := (frd_17 a4).trans s17
          refine ct m7 ⟨?_, ?_, ?_⟩ _ (fun z1 n' hn' => jm_qiI ⟨by decide, by decide⟩ ⟨fun _ x6 e6 => by rw [e6]; exact h1 z1 n' hn', fun r => absurd r (by decide)⟩) (fun z0 n' hn' => errQ Q' n' (h0 z0 n' hn'))
          · rw [k8, e7]
            exact p4.wr (Or.inl (by decide))
          · rw [e7]
            refine (a3.tr (frd_x a4)).wr ?_
            unfold frx
            have : (192 : Int) ≤ 192 + 8 * x25 := by omega
            simp [this]
          · have r17 : ∀ y, m7.1 17 y = if y = 192 + 8 * x25 then 1 else n.1 17 y := fun y => by
              rw [e7]
              split
              · rename_i z; rw [z, jm_wrS]
              · rename_i z; rw [jm_wrI z, s174]
            refine ⟨fun k k0 k1 => ?_, fun k y k0 k1 y0 y1 => ?_⟩
            · rw [k47, r17]
              by_cases z : k = x25
              · rw [if_pos z, if_pos (by omega)]
                omega
              · rw [if_neg z, if_neg (by omega)]
                exact hn.2.2.1 k k0 k1
            · rw [k47] at y1
              rw [k48, r17]
              by_cases z : k = x25
              · rw [if_pos z] at y1
                omega
              · rw [if_neg z] at y1
                have u8 := (hn.2.2.1 k k0 k1).2.1
                rw [if_neg (by omega)]
                exact hn.2.2.2 k y k0 k1 y0 y1
        · -- the motive has a line
          have r8 := RF_8 hpc3 2
          refine ⟨⟨by omega, by omega⟩, fun m42 e42 => ?_⟩
          rw [RF_e hpc3] at e42
          rw [e42]
          refine h _ 0 (Or.inl rfl) (hs3.rf _ _) (fun r => absurd r (by decide)) (fun n hn Q' h1 h0 => till2 n hn Q' (fun n3 p3 a3 s17 => ?_))
          rw [if_pos q3, ← ev]
          have w17 := hn.2.2.1 x25 xb.1 xb.2
          have dd := w17.1
          have i17 : 0 < n3.1 17 (192 + 8 * (4 * f + v)) := by
            rw [s17, show 8 * (4 * f + v) = 8 * x25 by omega]
            omega
          refine bX12_readMotive_32 hR ⟨fun r => absurd ((hp.eN p3.2.2.2 (by omega) (by omega)).1.2 q3) r, fun _ => ⟨⟨by omega, by omega⟩, fun r => by omega, fun _ => ⟨⟨by omega, by omega⟩, fun r => by omega, fun _ m3 e3 => ?_⟩⟩⟩
          rw [RR_e p3] at e3
          rw [e3]
          exact errQ Q' _ (h0 rfl _ (EN_rf a3 _ _))
      · refine h _ 0 (Or.inl rfl) (hs3.rf _ _) (fun r => absurd r (by decide)) (fun n hn Q' h1 h0 => till2 n hn Q' (fun n3 p3 a3 s17 => ?_))
        have nb := hp.nv (a := m.1 1 8 + 1 + 1) (by omega) at3 q3
        rw [if_pos q3]
        refine bX12_readMotive_32 hR ⟨fun r => absurd ((hp.eN p3.2.2.2 (by omega) (by omega)).1.2 q3) r, fun _ => ⟨⟨by omega, by omega⟩, fun _ => ?_, fun r => by omega⟩⟩
        exact bX12_readMotive_72 hR ((sX12_readNumber (d := d) hR hp p3 (by omega) (by omega) ⟨by decide, by decide⟩ ⟨by decide, by decide⟩ (fun _ _ lo hi => absurd ⟨lo, hi⟩ ng) (fun _ _ => jm_qiI ⟨by decide, by decide⟩ ⟨fun r => absurd rfl r, fun _ => errQ Q' _ (h0 rfl _ (EN_rf a3 _ _))⟩) (fun r => absurd q3 r)).up (by omega))
      · refine h _ 0 (Or.inl rfl) (hs3.rf _ _) (fun r => absurd r (by decide)) (fun n hn Q' h1 h0 => till2 n hn Q' (fun n3 p3 a3 s17 => ?_))
        rw [if_neg q3]
        refine bX12_readMotive_32 hR ⟨fun _ => ?_, fun r => absurd ((hp.eN p3.2.2.2 (by omega) (by omega)).1.1 r) q3⟩
        exact bX12_readMotive_72 hR ((sX12_readNumber (d := d) hR hp p3 (by omega) (by omega) ⟨by decide, by decide⟩ ⟨by decide, by decide⟩ (fun r _ _ _ => absurd r q3) (fun r _ => absurd r q3) (fun _ => jm_qiI ⟨by decide, by decide⟩ ⟨fun r => absurd rfl r, fun _ => errQ Q' _ (h0 rfl _ (EN_rf a3 _ _))⟩)).up (by omega))
    · rw [RR_e hn.1] at e9
      rw [e9]
      exact h0 rfl _ (EN_rf hn.2.1 _ _)
  refine eX5_readLine hC ⟨⟨by omega, by omega⟩, fun q => ?_, fun q => ⟨fun q2 => ?_, fun q2 => ?_⟩⟩
  · rw [g3] at q
    exact at25 (fun r => absurd r q)
  · exact at25 (fun _ => by omega)
  · have r8 := RF_8 hs.1 3
    refine ⟨⟨by omega, by omega⟩, fun m3 e3 => ?_⟩
    rw [RF_e hs.1] at e3
    rw [e3]
    rw [g3] at q
    refine h _ 0 (Or.inl rfl) (hs.rf _ _) (fun r => absurd r (by decide)) (fun n hn Q' h1 h0 => bX12_readMotives_28 hR ⟨fun _ => ⟨⟨by omega, by omega⟩, fun r => by omega, fun _ m7 e7 => ?_⟩, fun r => absurd ((tW n hn).2 q) r⟩)
    rw [RR_e hn.1] at e7
    rw [e7]
    exact h0 rfl _ (EN_rf hn.2.1 _ _)
end LI
