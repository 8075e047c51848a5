section TE
variable {l : Launch} {gC gR : jm_G} {d : Nat} {mu nu m n m0 n0 : jm_M} {v1 v2 v3 v4 v5 v6 : Int} {Q : Option Value → jm_M → Prop} {B B' K P S : Int → Int} {N t a : Int} {k : Nat}
theorem d_test (hC : jm_HC gC) (hR : jm_HR gR) (hp : PHS 1 B N K P S t) {e : Nat} (hx : ∀ e', e = e' + 1 → TTT l gC gR d m0 n0 B N K P S t e' ∧ CC l gC gR d m0 n0 B N K P S t e') : TTT l gC gR d m0 n0 B N K P S t e := by
  intro o m Q ho e8 hs o0 o1 h
  have tb := hp.T
  obtain ⟨D, hD⟩ : ∃ D, d + 7 + 2 * e = D + 2 := ⟨d + 5 + 2 * e, by omega⟩
  obtain ⟨g2, g3, g4, g5, g7, -, g9, g10⟩ := hs.1
  have kb : jm_rg (K (m.1 1 8)) := by
    by_cases q : m.1 1 8 = t
    · rw [(hp.end_ g9 g10).2 q]; exact ⟨by decide, by decide⟩
    · have := (hp.kb g9 (show m.1 1 8 < t by omega)).1
      exact ⟨by omega, by omega⟩
  have w6 : ∀ n, PN B N P S t (m.1 1 8) n → ((n.1 0 16 = 2 ∧ n.1 0 17 = 6) ↔ K (m.1 1 8) = 306) := fun n hn => hp.eW hn.2.2.2 g9 g10 (w := 6) (by decide)
  have s40 : ∀ n, PN B N P S t (m.1 1 8) n → ((n.1 0 16 = 4 ∧ n.1 0 17 = 40) ↔ K (m.1 1 8) = 40) := fun n hn => hp.eS hn.2.2.2 g9 g10 (x := 40) (by unfold isM; omega)
  have due33 : ∀ (x : Int) (n : jm_M) (br : Int) (Q' : Option Value → jm_M → Prop), (K (m.1 1 8) = 306 ∧ x = 1 ∨ K (m.1 1 8) = 40 ∧ x = 0) → PN B N P S t (m.1 1 8) n → jm_V l gR (d + 24) iX12_readAny 33 [(0, .ref 0), (1, jm_i br), (2, jm_i 1), (3, jm_i x)] [] n Q' → jm_V l gR (d + 24) iX12_readAny 9 [(0, .ref 0), (1, jm_i br), (2, jm_i 1)] [] n Q' := by
    intro x n br Q' hk hn hv
    rcases hk with ⟨hk, rfl⟩ | ⟨hk, rfl⟩
    · exact bX12_readAny_9 hR ⟨⟨by decide, by decide⟩, fun r => absurd r (by decide), fun _ => ⟨fun _ => hv, fun r => absurd ((w6 n hn).2 hk) r⟩⟩
    · exact bX12_readAny_9 hR ⟨⟨by decide, by decide⟩, fun r => absurd r (by decide), fun _ => ⟨fun r => by have := (w6 n hn).1 r; omega, fun _ => ⟨fun _ => hv, fun r => absurd ((s40 n hn).2 hk) r⟩⟩⟩
  rw [hD]
  have at36 : (K (m.1 1 8) = 306 ∨ K (m.1 1 8) = 40) → o < 8 → jm_V l gC (D + 2) iX4_readTest 36 [(0, .ref 63), (1, jm_i o), (2, jm_i (K (m.1 1 8)))] [] m Q := by
    intro hk o8
    obtain ⟨e', rfl⟩ : ∃ e', e = e' + 1 := ⟨e - 1, by omega⟩
    obtain ⟨hT', hC'⟩ := hx e' rfl
    have at1 : m.1 1 8 < t := by
      apply Decidable.byContradiction
      intro z
      have := (hp.end_ g9 g10).2 (by omega)
      omega
    have hs2 := hs.skip at1
    obtain ⟨m2, em2⟩ : ∃ m2, m2 = jm_wr m 1 8 (m.1 1 8 + 1) := ⟨_, rfl⟩
    rw [← em2] at hs2
    have e82 : m2.1 1 8 = m.1 1 8 + 1 := by rw [em2, jm_wrS]
    have o2 : ∀ c, c ≠ 1 → m2.1 c = m.1 c := fun c hc => by rw [em2]; exact sk_o hc
    have O2 : m2.1 49 1 = m.1 49 1 := by rw [o2 49 (by decide)]
    -- the reference lets it wait
    have till : ∀ (x w br' : Int), (K (m.1 1 8) = 306 ∧ x = 1 ∧ w = 9 ∧ br' = 0 ∨ K (m.1 1 8) = 40 ∧ x = 0 ∧ w = 12 ∧ br' = 1) → ∀ (b : Int) (s : List Int) (br : Int) (n : jm_M), RN (DL t b) n0 B N P S t m n → STK n s → n.1 0 28 = o → 0 ≤ br → br ≤ o → (s.length : Int) ≤ 3 * o + 2 → ∀ Q' : Option Value → jm_M → Prop, (∀ n6, RN (DL t (b - 1)) n0 B N P S t m2 n6 → STK n6 (w :: s) → n6.1 0 28 = o + 1 → jm_ag fsa n n6 → jm_V l gR (d + 24) iX12_readAny 9 [(0, .ref 0), (1, jm_i (br + br')), (2, jm_i 1)] [] n6 Q') → jm_V l gR (d + 24) iX12_readAny 9 [(0, .ref 0), (1, jm_i br), (2, jm_i 1)] [] n Q' := by
      intro x w br' hk b s br n hn st e28 br0 br1 len Q' hv
      refine due33 x n br Q' (by omega) hn.1 ?_
      have h2 : RN (DL t b) n0 B N P S t m (jm_wr n 0 28 (n.1 0 28 + 1)) := hn.wx (Or.inr ⟨rfl, Or.inl rfl⟩)
      have s2 : STK (jm_wr n 0 28 (n.1 0 28 + 1)) s := st.cg (jm_wrI (by decide)) (by funext y; exact jm_wrO (by decide))
      have e2 : (jm_wr n 0 28 (n.1 0 28 + 1)).1 0 28 = o + 1 := by rw [jm_wrS, e28]
      have a2 : jm_ag fsa n (jm_wr n 0 28 (n.1 0 28 + 1)) := (jm_ag.rf).wr rfl
      have e30 := s2.1
      obtain ⟨n2, en2⟩ : ∃ n2, n2 = jm_wr n 0 28 (n.1 0 28 + 1) := ⟨_, rfl⟩
      rw [← en2] at h2 s2 e2 a2 e30
      have v78 : jm_V l gR (d + 24) iX12_readAny 78 [(0, .ref 0), (1, jm_i (br + br')), (2, jm_i 1)] [jm_i w, .ref 0] n2 Q' := by
        refine bX12_readAny_78 hR ⟨⟨by omega, by omega⟩, ⟨by omega, by omega⟩, by rw [jm_wrO (by decide)]; exact ⟨by omega, by omega⟩, fun m4 e4 => ?_⟩
        rw [e4]
        refine ref_push (d := d + 20) hR hp h2 s2 g9 at1 (fun n6 hn6 st6 f6 ag6 => jm_qvI (hv n6 ?_ st6 (by omega) (a2.tr ag6)))
        rw [em2]
        exact hn6
      refine bX12_readAny_33 hR ⟨fun _ => ⟨⟨by omega, by omega⟩, fun m2' e2' => ⟨⟨by omega, by omega⟩, fun q => ?_, fun q x5 e5 => ?_⟩⟩, fun r => by omega⟩
      · rw [e2', ← en2]
        refine ⟨fun r => absurd r q, fun _ => ?_⟩
        have ew : w = 9 := by omega
        have eb : br + br' = br := by omega
        rw [ew, eb] at v78
        exact v78
      · rw [e2', ← en2]
        refine ⟨fun _ => ?_, fun r => absurd q r⟩
        have ew : w = 12 := by omega
        have eb : br + br' = x5 := by omega
        rw [ew, eb] at v78
        exact v78
    refine bX4_readTest_36 hC ⟨kb, fun q => ⟨fun r => by omega, fun q6 => ?_⟩, fun q => ?_⟩
    · -- not
      have till := till 1 9 0 (by omega)
      refine sX7_skip (d := D) hC hs.1 tb.2 at1 (jm_qvI ?_)
      rw [← em2]
      refine jm_R.up (hT' (o + 1) m2 _ (by omega) (by omega) hs2 (by omega) (by omega) (fun m1 z z01 ag1 c1 ct1 => jm_qiI (by rcases z01 with e | e <;> rw [e] <;> exact ⟨by decide, by decide⟩) ⟨fun r => ?_, fun r => ?_⟩)) (by omega)
      · subst r
        refine h m1 0 z01 ag1 (fun r => absurd r (by decide)) (fun b b4 k r br n hn st hr e28 ko br0 br1 len Q' h1 h0 => ?_)
        refine till (b - k) _ br n hn st e28 br0 br1 (by simp only [List.length_append, List.length_replicate]; omega) Q' (fun n6 hn6 st6 f6 ag6 => ?_)
        rw [show br + 0 = br by omega]
        exact ct1 b b4 (k + 1) r br n6 (by rw [show b - ((k + 1 : Nat) : Int) = b - k - 1 by omega]; exact hn6) st6 hr f6 (by omega) br0 (by omega) (by omega) Q' (fun z => absurd z (by decide)) h0
      · have z1 : z = 1 := by omega
        subst z1
        obtain ⟨cs1, cl1, sg1⟩ := c1 rfl
        have l1 := cl1.1
        have l2 := cl1.2.1
        have l6 := cl1.2.2.2.2.2
        have t1 := cs1.1.2.2.2.2.2.2.2
        refine sX3_addOrder hC (by decide) (by decide) (by decide) (by decide) (by omega) (by omega) (jm_qiI ⟨by decide, by decide⟩ ⟨fun r => absurd r (by decide), fun _ => ?_⟩)
        have hcs := AO_cs (kk := 3) (v := 0) cs1
        obtain ⟨m4, em4⟩ : ∃ m4, m4 = AO m1 3 0 := ⟨_, rfl⟩
        rw [← em4] at hcs ⊢
        have h8 : m4.1 1 8 = m1.1 1 8 := by rw [em4, AO_c (by decide)]
        have O4 : m4.1 49 1 = m1.1 49 1 + 1 := by rw [em4, AO_o]
        refine h m4 1 (Or.inr rfl) hcs.2 (fun _ => ⟨hcs, ⟨by omega, by omega, fun i hi => ?_, ?_, fun c c1 c2 => ?_, by omega⟩, fun s0 hs0 => ?_⟩) (fun b b4 k r br n hn st hr e28 ko br0 br1 len Q' h1 h0 => ?_)
        · rw [em4, AO_50, if_neg (by omega), cl1.2.2.1 i (by omega), o2 50 (by decide)]
        · rw [em4, AO_u ⟨by decide, by decide⟩, cl1.2.2.2.1, o2 49 (by decide)]
        · rw [em4, AO_c (by omega), cl1.2.2.2.2.1 c c1 c2, o2 c (by omega)]
        · have u := sg1 s0 (by omega)
          rw [O2] at u
          have u4 : SG (m4.1 50) (m.1 49 1) (m1.1 49 1) s0 (true :: s0) := u.cg (fun i i0 i1 => by rw [em4, AO_50, if_neg (by omega)])
          refine u4.tr ?_
          rw [O4, em4]
          exact AO_sg (by decide) (by decide) (Or.inr (Or.inr (Or.inl ⟨rfl, s0, rfl, rfl⟩))) (by show s0.length + 1 ≤ 40; omega)
        · refine till (b - k) _ br n hn st e28 br0 br1 (by simp only [List.length_append, List.length_replicate]; omega) Q' (fun n6 hn6 st6 f6 ag6 => ?_)
          rw [show br + 0 = br by omega]
          refine ct1 b b4 (k + 1) r br n6 (by rw [show b - ((k + 1 : Nat) : Int) = b - k - 1 by omega]; exact hn6) st6 hr f6 (by omega) br0 (by omega) (by omega) Q' (fun z1 n' hn' st' f' ag' => h1 z1 n' ?_ st' (by omega) (ag6.tr ag')) (fun z => absurd z (by decide))
          rw [em4]
          exact hn'
    · -- a bracket
      have till := till 0 12 1 (by omega)
      refine jm_R.up (hC' (o + 1) m _ (by omega) (by omega) hs at1 o0 o1 (fun m1 z z01 ag1 c1 ct1 => jm_qiI (by rcases z01 with e | e <;> rw [e] <;> exact ⟨by decide, by decide⟩) ⟨fun r => ?_, fun r => ?_⟩)) (by omega)
      · subst r
        refine h m1 0 z01 ag1 (fun r => absurd r (by decide)) (fun b b4 k r br n hn st hr e28 ko br0 br1 len Q' h1 h0 => ?_)
        refine till (b - k) _ br n hn st e28 br0 br1 (by simp only [List.length_append, List.length_replicate]; omega) Q' (fun n6 hn6 st6 f6 ag6 => ?_)
        exact ct1 (b - k - 1) (by omega) _ (br + 1) n6 (by rw [← em2, show b - (k : Int) - 1 - ((0 : Nat) : Int) - ((0 : Nat) : Int) = b - k - 1 by omega]; exact hn6) st6 (Or.inr ⟨_, rfl⟩) f6 (by omega) (by omega) (by simp only [List.length_cons, List.length_append, List.length_replicate]; omega) Q' (fun z => absurd z (by decide)) h0
      · have z1 : z = 1 := by omega
        subst z1
        obtain ⟨cs1, cl1, sg1⟩ := c1 rfl
        have l1 := cl1.1
        have l2 := cl1.2.1
        have l6 := cl1.2.2.2.2.2
        have t1 := cs1.1.2.2.2.2.2.2.2
        have g19 := cs1.1.2.2.2.2.2.2.1
        have s41 : ∀ n, PN B N P S t (m1.1 1 8) n → ((n.1 0 16 = 4 ∧ n.1 0 17 = 41) ↔ K (m1.1 1 8) = 41) := fun n hn => hp.eS hn.2.2.2 g19 t1 (x := 41) (by unfold isM; omega)
        refine jm_R.up (sX7_take (d := 0) hC hp cs1.1 ⟨by decide, by decide⟩ (by decide) (fun q1 at3 => jm_qiI ⟨by decide, by decide⟩ ⟨fun r => absurd r (by decide), fun _ => ?_⟩) (fun q1 => jm_qiI ⟨by decide, by decide⟩ ⟨fun _ => ?_, fun r => absurd rfl r⟩)) (by omega)
        · have hcs := cs1.skip at3
          obtain ⟨m4, em4⟩ : ∃ m4, m4 = jm_wr m1 1 8 (m1.1 1 8 + 1) := ⟨_, rfl⟩
          rw [← em4] at hcs ⊢
          have h8 : m4.1 1 8 = m1.1 1 8 + 1 := by rw [em4, jm_wrS]
          have o4 : ∀ c, c ≠ 1 → m4.1 c = m1.1 c := fun c hc => by rw [em4]; exact sk_o hc
          have O4 : m4.1 49 1 = m1.1 49 1 := by rw [o4 49 (by decide)]
          refine h m4 1 (Or.inr rfl) hcs.2 (fun _ => ⟨hcs, ⟨by omega, by omega, fun i hi => ?_, ?_, fun c c1 c2 => ?_, by omega⟩, fun s0 hs0 => ?_⟩) (fun b b4 k r br n hn st hr e28 ko br0 br1 len Q' h1 h0 => ?_)
          · rw [o4 50 (by decide), cl1.2.2.1 i (by omega)]
          · rw [o4 49 (by decide), cl1.2.2.2.1]
          · rw [o4 c (by omega), cl1.2.2.2.2.1 c c1 c2]
          · rw [o4 50 (by decide), O4]
            exact sg1 s0 (by omega)
          · refine till (b - k) _ br n hn st e28 br0 br1 (by simp only [List.length_append, List.length_replicate]; omega) Q' (fun n6 hn6 st6 f6 ag6 => ?_)
            refine ct1 (b - k - 1) (by omega) _ (br + 1) n6 (by rw [← em2, show b - (k : Int) - 1 - ((0 : Nat) : Int) - ((0 : Nat) : Int) = b - k - 1 by omega]; exact hn6) st6 (Or.inr ⟨_, rfl⟩) f6 (by omega) (by omega) (by simp only [List.length_cons, List.length_append, List.length_replicate]; omega) Q' (fun _ n1 hn1 st1 f1 ag1 => ?_) (fun z => absurd z (by decide))
            have e30 := st1.1
            have len' := e30
            simp only [List.length_cons, List.length_append, List.length_replicate] at len'
            refine ⟨⟨by omega, by omega⟩, fun _ => ⟨fun _ => ⟨⟨by omega, by omega⟩, fun m40 e40 x42 e42 => ?_⟩, fun w => absurd ((s41 n1 hn1.1).2 q1) w⟩, fun r => by omega⟩
            have h40 : RN (DL t (b - k - 1)) n0 B N P S t m1 m40 := by
              rw [e40]
              exact hn1.wx (Or.inr ⟨rfl, Or.inr rfl⟩)
            have f40 : m40.1 0 28 = o + 1 := by rw [e40, jm_wrI (by decide), f1]
            have st40 : STK m40 (List.replicate k 9 ++ r) := by
              refine ⟨?_, ?_⟩
              · rw [e40, jm_wrS, e30, List.length_cons]
                omega
              · rw [show m40.1 16 = n1.1 16 from by rw [e40]; funext y; exact jm_wrO (by decide)]
                exact st1.2.2
            refine ⟨⟨by omega, by omega⟩, fun m44 e44 => ?_⟩
            have h44 : RN (DL t (b - k - 1)) n0 B N P S t m1 m44 := by
              rw [e44]
              exact h40.wx (Or.inr ⟨rfl, Or.inl rfl⟩)
            have f44 : m44.1 0 28 = o := by rw [e44, jm_wrS, f40]; omega
            have st44 : STK m44 (List.replicate k 9 ++ r) := st40.cg (by rw [e44, jm_wrI (by decide)]) (by rw [e44]; funext y; exact jm_wrO (by decide))
            have ag44 : jm_ag fsa n1 m44 := by
              rw [e44, e40]
              exact ((jm_ag.rf).wr rfl).wr rfl
            refine eX12_settles hR (sX12_settles (d := d + 21) hR (Or.inl ⟨rfl, rfl⟩) hr (b := b - 1) (by omega) k m1 m44 _ (by rw [show b - 1 - (k : Int) = b - k - 1 by omega]; exact h44) t1 st44 (by omega) (by omega) (by omega) (fun _ => by omega) (fun n2 hn2 st2 f2 ag2 => jm_qvI ?_))
            rw [if_pos rfl] at f2
            have hq := hn2.1
            rw [AOs_8] at hq
            refine sX12_next (d := d + 20) hR hp hq g19 at3 (fun n3 a3 p3 => jm_qvI ?_)
            have e42' : x42 = br := by omega
            rw [e42']
            refine h1 rfl n3 ⟨by rw [AOs_8, h8]; exact p3, hn2.2.1.tr (frd_x a3), ?_⟩ (st2.fsm (frd_s a3)) (by rw [frd_27 a3 (by decide)]; omega) (((ag6.tr ag1).tr ag44).tr (ag2.tr (fsm_a (frd_s a3))))
            have cb := hn2.2.2.1.2.2
            rw [AOs_8] at cb
            exact hn2.2.2.cg (AOs_cg k m1 m4 (fun c c1 c2 => o4 c (by omega))) (fun c _ _ => frd_c a3 (by omega)) (frd_27 a3 (by decide)) (by rw [AOs_8, h8]; omega)
        · refine h _ 0 (Or.inl rfl) (cs1.rf _ _) (fun r => absurd r (by decide)) (fun b b4 k r br n hn st hr e28 ko br0 br1 len Q' h1 h0 => ?_)
          refine till (b - k) _ br n hn st e28 br0 br1 (by simp only [List.length_append, List.length_replicate]; omega) Q' (fun n6 hn6 st6 f6 ag6 => ?_)
          refine ct1 (b - k - 1) (by omega) _ (br + 1) n6 (by rw [← em2, show b - (k : Int) - 1 - ((0 : Nat) : Int) - ((0 : Nat) : Int) = b - k - 1 by omega]; exact hn6) st6 (Or.inr ⟨_, rfl⟩) f6 (by omega) (by omega) (by simp only [List.length_cons, List.length_append, List.length_replicate]; omega) Q' (fun _ n1 hn1 st1 f1 ag1 => ?_) (fun z => absurd z (by decide))
          refine ⟨⟨by omega, by omega⟩, fun _ => ⟨fun w => absurd ((s41 n1 hn1.1).1 w) q1, fun _ m54 e54 => ?_⟩, fun r => by omega⟩
          rw [RR_e hn1.1] at e54
          rw [e54]
          exact h0 rfl _ (EN_rf hn1.2.1 _ _)
  have at21 : (K (m.1 1 8) = 306 ∨ K (m.1 1 8) = 40) → jm_V l gC (D + 2) iX4_readTest 21 [(0, .ref 63), (1, jm_i o), (2, jm_i (K (m.1 1 8)))] [] m Q := by
    intro hk
    refine bX4_readTest_21 hC ⟨⟨by omega, by omega⟩, fun o8 => at36 hk o8, fun o8 => ⟨by rw [RF_8 hs.1 3]; exact ⟨by omega, by omega⟩, fun m3 e3 => ?_⟩⟩
    rw [RF_e hs.1] at e3
    rw [e3]
    refine h _ 0 (Or.inl rfl) (hs.rf _ _) (fun r => absurd r (by decide)) (fun b b4 k r br n hn st hr e28 ko br0 br1 len Q' h1 h0 => ?_)
    refine due33 (if K (m.1 1 8) = 306 then 1 else 0) n br Q' (by split <;> omega) hn.1 ?_
    refine bX12_readAny_33 hR ⟨fun r => by omega, fun _ m6 e6 => ?_⟩
    rw [RR_e hn.1] at e6
    rw [e6]
    exact h0 rfl _ (EN_rf hn.2.1 _ _)
  refine eX4_readTest hC ⟨⟨by omega, by omega⟩, fun x2 e2 => ?_⟩
  rw [g3] at e2
  rw [e2]
  refine ⟨fun q => at21 (Or.inl q), fun q => ⟨fun q2 => ?_, fun q2 => at21 (Or.inr q2)⟩⟩
  rw [show D + 2 = d + 2 * e + 7 by omega]
  refine d_comp (n0 := n0) (d := d + 2 * e) hC hR hp hs o0 o1 kb q2 q (fun m' z z01 ag c ct => h m' z z01 ag (fun z1 => ?_) (fun b b4 k r br n hn st hr e28 ko br0 br1 len Q' h1 h0 => ?_))
  · obtain ⟨c1, c2, c3⟩ := c z1
    exact ⟨c1, c2, fun s0 hs0 => c3 s0 (by omega)⟩
  · refine bX12_readAny_9 hR ⟨⟨by decide, by decide⟩, fun r => absurd r (by decide), fun _ => ⟨fun r => absurd ((w6 n hn.1).1 r) q, fun _ => ⟨fun r => absurd ((s40 n hn.1).1 r) q2, fun _ => ?_⟩⟩⟩
    refine jm_R.up (ct (b - k) (by omega) n hn _ (fun z1 n1 hn1 f1 => jm_qiI ⟨by decide, by decide⟩ ⟨fun _ => ?_, fun r => absurd r (by decide)⟩) (fun z0 n1 en => jm_qiI ⟨by decide, by decide⟩ ⟨fun r => absurd rfl r, fun _ => h0 z0 n1 en⟩)) (by omega)
    obtain ⟨c1, c2, c3⟩ := c z1
    have t1 := c1.1.2.2.2.2.2.2.2
    have f28 : n1.1 0 28 = n.1 0 28 := f1 0 28 rfl
    refine eX12_settles hR (sX12_settles (d := d + 21) hR (Or.inl ⟨rfl, rfl⟩) hr b4 k m' n1 _ hn1 t1 (st.fsm f1) (by omega) (by omega) (by omega) (fun _ => by omega) (fun n2 hn2 st2 f2 ag2 => jm_qvI (h1 z1 n2 hn2 st2 ?_ ((fsm_a f1).tr ag2))))
    rw [if_pos rfl] at f2
    omega
theorem d_tests (hC : jm_HC gC) (hR : jm_HR gR) (hp : PHS 1 B N K P S t) : ∀ e : Nat, TTT l gC gR d m0 n0 B N K P S t e ∧ CC l gC gR d m0 n0 B N K P S t e
  | 0 => by
    have h := d_test (l := l) (d := d) (m0 := m0) (n0 := n0) hC hR hp (e := 0) (fun e' z => absurd z (by omega))
    exact ⟨h, d_cond hC hR hp h⟩
  | e + 1 => by
    have h := d_test (l := l) (d := d) (m0 := m0) (n0 := n0) hC hR hp (e := e + 1) (fun e' z => by
      have : e' = e := by omega
      rw [this]
      exact d_tests hC hR hp e)
    exact ⟨h, d_cond hC hR hp h⟩
/-- a condition of the law -/
theorem d_when (hC : jm_HC gC) (hR : jm_HR gR) (hp : PHS 1 B N K P S t) (hs : CS m0 B K P S t m) (at1 : m.1 1 8 < t) (o0 : 0 ≤ m.1 49 1) (o1 : m.1 49 1 + (t - m.1 1 8) ≤ 400) (h : ∀ m' z, (z = 0 ∨ z = 1) → jm_ag (fcz z) m0 m' → (z = 1 → CS m0 B K P S t m' ∧ CLR t m m' ∧ SG (m'.1 50) (m.1 49 1) (m'.1 49 1) [] [true]) → (∀ b, b ≤ 400 → ∀ n, RN (DL t b) n0 B N P S t (jm_wr m 1 8 (m.1 1 8 + 1)) n → n.1 0 28 = 0 → ∀ Q' : Option Value → jm_M → Prop, (z = 1 → ∀ n', RN (DL t b) n0 B N P S t m' n' → n'.1 0 28 = 0 → jm_ag fsa n n' → Q' (some (jm_i 0)) n') → (z = 0 → ∀ n', EN n0 m' n' → Q' (some (jm_i (-1))) n') → jm_R l gR (d + 24) iX12_readAny [.ref 0] n Q') → Q (some (jm_i z)) m') : jm_R l gC (d + 24) iX4_readCondition [.ref 63, jm_i 0] m Q := by
  have cc := (d_tests (l := l) (d := d) (m0 := m0) (n0 := n0) hC hR hp 8).2 0 m Q (by decide) (by decide) hs at1 o0 o1 (fun m' z z01 ag c ct => h m' z z01 ag (fun z1 => ?_) (fun b b4 n hn e28 Q' h1 h0 => ?_))
  · exact cc
  · obtain ⟨c1, c2, c3⟩ := c z1
    exact ⟨c1, c2, c3 [] (by decide)⟩
  · refine eX12_readAny hR (fun m1 e1 => ?_)
    have h3 : RN (DL t b) n0 B N P S t (jm_wr m 1 8 (m.1 1 8 + 1)) m1 := by
      rw [e1]
      exact hn.wx (Or.inr ⟨rfl, Or.inr rfl⟩)
    have a1 : jm_ag fsa n m1 := by
      rw [e1]
      exact (jm_ag.rf).wr rfl
    refine ct b b4 [] 0 m1 (by rw [show b - ((0 : Nat) : Int) - ((0 : Nat) : Int) = b by omega]; exact h3) ⟨by rw [e1, jm_wrS]; rfl, trivial⟩ (Or.inl rfl) (by rw [e1, jm_wrI (by decide)]; exact e28) (Int.le_refl 0) (Int.le_refl 0) (by decide) Q' (fun z1 n' hn' st' f' ag' => ⟨⟨by decide, by decide⟩, fun r => absurd rfl r, fun _ => h1 z1 n' hn' f' (a1.tr ag')⟩) h0
end TE
