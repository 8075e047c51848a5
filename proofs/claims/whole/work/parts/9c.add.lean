section SM
variable {l : Launch} {gC gR : jm_G} {d : Nat} {mu nu m n m0 n0 : jm_M} {v1 v2 v3 v4 v5 v6 : Int} {Q : Option Value → jm_M → Prop} {B B' K P S : Int → Int} {N t a : Int} {k : Nat}
theorem d_suml (hC : jm_HC gC) (hR : jm_HR gR) (hp : PHS 1 B N K P S t) (j : Nat) : ∀ (i : Nat) (m : jm_M) (Q : Option Value → jm_M → Prop), (t - m.1 1 8).toNat ≤ j → (i : Int) + (t - m.1 1 8) ≤ 399 → CS m0 B K P S t m → 0 ≤ m.1 49 1 → m.1 49 1 + (t - m.1 1 8) ≤ 400 → (∀ m' z, (z = 0 ∨ z = 1) → jm_ag (fcz z) m0 m' → (z = 1 → CS m0 B K P S t m' ∧ CLE t m m' ∧ ∀ s0 : List Bool, s0.length ≤ 37 → SG (m'.1 50) (m.1 49 1) (m'.1 49 1) (false :: s0) (false :: s0)) → LCV l gR (d + 6) n0 B N P S t iX12_readSum 10 m m' z → Q (some (jm_i z)) m') → jm_V l gC (d + 6) iX4_readSum 11 [(0, .ref 63), (1, jm_i i)] [] m Q := by
  have tb := hp.T
  induction j with
  | zero =>
    intro i m Q hj hi hs o0 o1 h
    obtain ⟨g2, g3, g4, g5, g7, -, g9, g10⟩ := hs.1
    have kt : K (m.1 1 8) = 257 := (hp.end_ g9 g10).2 (by omega)
    refine bX4_readSum_11 hC ⟨⟨by omega, by omega⟩, fun r => by omega, fun _ => ⟨⟨by omega, by omega⟩, fun x3 e3 => ?_⟩⟩
    rw [g3, kt] at e3
    subst e3
    refine ⟨fun r => absurd r (by decide), fun _ => ⟨fun r => absurd r (by decide), fun _ => h m 1 (Or.inr rfl) hs.2 (fun _ => ⟨hs, CLE.rf, fun s0 _ => SG.rf _ _ _⟩) (fun b hb n hn Q' h1 h0 => ?_)⟩⟩
    have s1 := hp.eS hn.1.2.2.2 g9 g10 (x := 43) (by unfold isM; omega)
    have s2 := hp.eS hn.1.2.2.2 g9 g10 (x := 45) (by unfold isM; omega)
    rw [kt] at s1 s2
    exact bX12_readSum_10 hR ⟨fun r => absurd (s1.1 r) (by decide), fun _ => ⟨fun r => absurd (s2.1 r) (by decide), fun _ => h1 rfl n hn jm_ag.rf⟩⟩
  | succ j ih =>
    intro i m Q hj hi hs o0 o1 h
    obtain ⟨g2, g3, g4, g5, g7, -, g9, g10⟩ := hs.1
    have kb : jm_rg (K (m.1 1 8)) := by
      by_cases q : m.1 1 8 = t
      · rw [(hp.end_ g9 g10).2 q]; exact ⟨by decide, by decide⟩
      · have := (hp.kb g9 (show m.1 1 8 < t by omega)).1
        exact ⟨by omega, by omega⟩
    have s1 : ∀ n, PN B N P S t (m.1 1 8) n → ((n.1 0 16 = 4 ∧ n.1 0 17 = 43) ↔ K (m.1 1 8) = 43) := fun n hn => hp.eS hn.2.2.2 g9 g10 (x := 43) (by unfold isM; omega)
    have s2 : ∀ n, PN B N P S t (m.1 1 8) n → ((n.1 0 16 = 4 ∧ n.1 0 17 = 45) ↔ K (m.1 1 8) = 45) := fun n hn => hp.eS hn.2.2.2 g9 g10 (x := 45) (by unfold isM; omega)
    have at40 : ∀ ro co : Int, (K (m.1 1 8) = 43 ∧ ro = 2 ∧ co = 5 ∨ K (m.1 1 8) = 45 ∧ ro = 3 ∧ co = 6) → jm_V l gC (d + 6) iX4_readSum 40 [(0, .ref 63), (1, jm_i i), (2, jm_i (K (m.1 1 8)))] [] m Q := by
      intro ro co hk
      have at1 : m.1 1 8 < t := by
        apply Decidable.byContradiction
        intro z
        have := (hp.end_ g9 g10).2 (by omega)
        omega
      have ent : ∀ n, PN B N P S t (m.1 1 8) n → ∀ Q' : Option Value → jm_M → Prop, jm_V l gR (d + 6) iX12_readSum 42 [(0, .ref 0)] [jm_i ro] n Q' → jm_V l gR (d + 6) iX12_readSum 10 [(0, .ref 0)] [] n Q' := fun n hn Q' hv => by
        rcases hk with ⟨hk, hr, -⟩ | ⟨hk, hr, -⟩
        · have z := (s1 n hn).2 hk
          rw [hr] at hv
          exact bX12_readSum_10 hR ⟨fun _ => ⟨fun r => absurd z.2 r, fun _ => hv⟩, fun r => absurd z r⟩
        · have z := (s2 n hn).2 hk
          rw [hr] at hv
          exact bX12_readSum_10 hR ⟨fun r => by omega, fun r => ⟨fun _ => ⟨fun _ => hv, fun r => by omega⟩, fun r => absurd z r⟩⟩
      have hs2 := hs.skip at1
      obtain ⟨m2, em2⟩ : ∃ m2, m2 = jm_wr m 1 8 (m.1 1 8 + 1) := ⟨_, rfl⟩
      rw [← em2] at hs2
      have e8 : m2.1 1 8 = m.1 1 8 + 1 := by rw [em2, jm_wrS]
      have o2 : ∀ c, c ≠ 1 → m2.1 c = m.1 c := fun c hc => by rw [em2]; exact sk_o hc
      have cle2 : CLE t m m2 := ⟨by rw [o2 49 (by decide)]; omega, by rw [o2 49 (by decide), e8]; omega, fun i _ => by rw [o2 50 (by decide)], by rw [o2 49 (by decide)], fun c c1 c2 => o2 c (by omega), by omega⟩
      refine bX4_readSum_40 hC (sX7_skip (d := d + 4) hC hs.1 tb.2 at1 (jm_qvI ?_))
      rw [← em2]
      have O2 : m2.1 49 1 = m.1 49 1 := by rw [o2 49 (by decide)]
      refine d_product (n0 := n0) (d := d) hC hR hp hs2 (by omega) (by omega) (fun m3 z z01 ag3 c3 ct3 => jm_qiI (by rcases z01 with e | e <;> rw [e] <;> exact ⟨by decide, by decide⟩) ⟨fun r => ⟨kb, ?_⟩, fun r => ?_⟩)
      · have z1 : z = 1 := by omega
        obtain ⟨cs3, cl3, sg3⟩ := c3 z1
        have cle3 := cl3.le
        have l3 := cl3.2.1
        have a3 := cl3.2.2.2.2.2
        have t3 := cs3.1.2.2.2.2.2.2.2
        have go : jm_V l gC (d + 6) iX4_readSum 72 [(0, .ref 63), (1, jm_i i)] [jm_i co, .ref 49] m3 Q := by
          refine bX4_readSum_72 hC (sX3_addOrder hC (by omega) (by omega) (by decide) (by decide) (by have := cl3.1; omega) (by omega) (jm_qiI ⟨by decide, by decide⟩ ?_))
          have hcs := AO_cs (kk := co) (v := 0) cs3
          obtain ⟨m4, em4⟩ : ∃ m4, m4 = AO m3 co 0 := ⟨_, rfl⟩
          rw [← em4] at hcs ⊢
          have h8 : m4.1 1 8 = m3.1 1 8 := by rw [em4, AO_c (by decide)]
          have O4 : m4.1 49 1 = m3.1 49 1 + 1 := by rw [em4, AO_o]
          have cle4 : CLE t m m4 := by
            have c := cle2.tr cle3
            exact ⟨by have := c.1; omega, by omega, fun i hi => by rw [em4, AO_50, if_neg (by have := c.1; omega)]; exact c.2.2.1 i hi, by rw [em4, AO_u ⟨by decide, by decide⟩]; exact c.2.2.2.1, fun x c1 c2 => by rw [em4, AO_c (by omega)]; exact c.2.2.2.2.1 x c1 c2, by omega⟩
          have nx := ih (i + 1) m4 Q (by omega) (by omega) hcs (by have := cl3.1; omega) (by omega) (fun m' z' z01' ag' c1 ct => h m' z' z01' ag' (fun z1' => ?_) (fun b hb n hn Q' h1 h0 => ?_))
          · rw [show ((i + 1 : Nat) : Int) = (i : Int) + 1 by omega] at nx
            exact nx
          · obtain ⟨cs', ce', sg'⟩ := c1 z1'
            refine ⟨cs', cle4.tr ce', fun s0 hs0 => ?_⟩
            have u := sg3 (false :: s0) (by show s0.length + 1 ≤ 38; omega)
            rw [O2] at u
            have u4 : SG (m4.1 50) (m.1 49 1) (m3.1 49 1) (false :: s0) (false :: false :: s0) := u.cg (fun i i0 i1 => by rw [em4, AO_50, if_neg (by omega)])
            have w4 : SG (m4.1 50) (m3.1 49 1) (m4.1 49 1) (false :: false :: s0) (false :: s0) := by
              rw [O4, em4]
              refine AO_sg (by decide) (by decide) (Or.inr (Or.inr (Or.inr (Or.inl ⟨?_, s0, rfl, rfl⟩)))) (by show s0.length + 1 + 1 ≤ 40; omega)
              rcases hk with ⟨-, -, e⟩ | ⟨-, -, e⟩
              · exact Or.inr (Or.inl e)
              · exact Or.inr (Or.inr e)
            exact (SG.cl ce' (u4.tr w4)).tr (sg' s0 hs0)
          · refine ent n hn.1 Q' (bX12_readSum_42 hR (sX12_next (d := d + 2) hR hp hn.1 g9 at1 (fun n2 a2 p2 => jm_qvI ?_)))
            refine ct3 (b - 1) (by omega) n2 ⟨by rw [e8]; exact p2, hn.2.1.tr (frd_x a2), RN.next hn.2.2 em2 a2⟩ _ (fun _ n3 hn3 f3 => jm_qiI ⟨by decide, by decide⟩ ⟨fun _ => ?_, fun r => absurd r (by decide)⟩) (fun r => absurd r (by omega))
            have cb := hn3.2.2.1
            refine ⟨⟨by omega, by omega⟩, ⟨by omega, by omega⟩, by rw [w27]; exact ⟨by omega, by omega⟩, by rw [w27']; exact ⟨by omega, by omega⟩, fun m14 e14 => ?_⟩
            rw [w27', w27] at e14
            have e14 : m14 = EM n3 ro 0 := e14
            rw [e14]
            refine ct b hb (EM n3 ro 0) ⟨by rw [h8]; exact EM_pn hn3.1, EM_fr hn3.2.1 cb.2.1, ?_⟩ Q' (fun z1 n' hn' f' => h1 z1 n' hn' (((frd_s a2).tr f3).tr (EM_s.tr f'))) h0
            rw [em4]
            refine DL.one hn3.2.2 (by omega) (by decide) (by decide) (fun op arg e1 e2 => ?_)
            rcases hk with ⟨-, er, ec⟩ | ⟨-, er, ec⟩
            · rw [er] at e1
              exact Or.inr (Or.inr (Or.inr (Or.inr (Or.inr (Or.inl ⟨ec, rfl, e1⟩)))))
            · rw [er] at e1
              exact Or.inr (Or.inr (Or.inr (Or.inr (Or.inr (Or.inr (Or.inl ⟨ec, rfl, e1⟩))))))
        refine ⟨fun q => ?_, fun q => ?_⟩
        · have e : co = 6 := by omega
          rw [e] at go
          exact go
        · have e : co = 5 := by omega
          rw [e] at go
          exact go
      · subst r
        exact h m3 0 z01 ag3 (fun r => absurd r (by decide)) (fun b hb n hn Q' h1 h0 => ent n hn.1 Q' (bX12_readSum_42 hR (sX12_next (d := d + 2) hR hp hn.1 g9 at1 (fun n2 a2 p2 => jm_qvI (ct3 (b - 1) (by omega) n2 ⟨by rw [e8]; exact p2, hn.2.1.tr (frd_x a2), RN.next hn.2.2 em2 a2⟩ _ (fun r => absurd r (by decide)) (fun _ n3 en3 => jm_qiI ⟨by decide, by decide⟩ ⟨fun r => absurd rfl r, fun _ => h0 rfl n3 en3⟩))))))
    refine bX4_readSum_11 hC ⟨⟨by omega, by omega⟩, fun r => by omega, fun _ => ⟨⟨by omega, by omega⟩, fun x3 e3 => ?_⟩⟩
    rw [g3] at e3
    rw [e3]
    exact ⟨fun q => at40 2 5 (Or.inl ⟨q, rfl, rfl⟩), fun q1 => ⟨fun q => at40 3 6 (Or.inr ⟨q, rfl, rfl⟩), fun q2 => h m 1 (Or.inr rfl) hs.2 (fun _ => ⟨hs, CLE.rf, fun s0 _ => SG.rf _ _ _⟩) (fun b hb n hn Q' h1 h0 => bX12_readSum_10 hR ⟨fun r => absurd ((s1 n hn.1).1 r) q1, fun _ => ⟨fun r => absurd ((s2 n hn.1).1 r) q2, fun _ => h1 rfl n hn jm_ag.rf⟩⟩)⟩⟩
theorem d_sum (hC : jm_HC gC) (hR : jm_HR gR) (hp : PHS 1 B N K P S t) (hs : CS m0 B K P S t m) (o0 : 0 ≤ m.1 49 1) (o1 : m.1 49 1 + (t - m.1 1 8) ≤ 400) (h : ∀ m' z, (z = 0 ∨ z = 1) → jm_ag (fcz z) m0 m' → (z = 1 → CS m0 B K P S t m' ∧ CLR t m m' ∧ ∀ s0 : List Bool, s0.length ≤ 37 → SG (m'.1 50) (m.1 49 1) (m'.1 49 1) s0 (false :: s0)) → LCT l gR (d + 6) n0 B N P S t iX12_readSum m m' z → Q (some (jm_i z)) m') : jm_R l gC (d + 6) iX4_readSum [.ref 63] m Q := by
  have tb := hp.T
  have g9 := hs.1.2.2.2.2.2.2.1
  refine eX4_readSum hC (d_product (n0 := n0) (d := d) hC hR hp hs o0 o1 (fun m1 z z01 ag1 c1 ct1 => jm_qiI (by rcases z01 with e | e <;> rw [e] <;> exact ⟨by decide, by decide⟩) ⟨fun r => ?_, fun r => ?_⟩))
  · have z1 : z = 1 := by omega
    obtain ⟨cs1, cl1, sg1⟩ := c1 z1
    have l1 := cl1.2.1
    have l2 := cl1.2.2.2.2.2
    have l3 := cl1.1
    have t1 := cs1.1.2.2.2.2.2.2.2
    refine d_suml (n0 := n0) (d := d) hC hR hp (t - m1.1 1 8).toNat 0 m1 Q (Nat.le_refl _) (by omega) cs1 (by omega) (by omega) (fun m' z' z01' ag' c' ct' => h m' z' z01' ag' (fun z1' => ?_) (fun b hb n hn Q' h1 h0 => eX12_readSum hR (ct1 b hb n hn _ (fun _ n1 hn1 f1 => jm_qiI ⟨by decide, by decide⟩ ⟨fun _ => ct' b hb n1 hn1 Q' (fun z1 n' hn' f' => h1 z1 n' hn' (f1.tr f')) h0, fun r => absurd r (by decide)⟩) (fun r => absurd r (by omega)))))
    obtain ⟨cs', ce', sg'⟩ := c' z1'
    exact ⟨cs', cl1.trE ce', fun s0 hs0 => (SG.cl ce' (sg1 s0 (by omega))).tr (sg' s0 hs0)⟩
  · subst r
    exact h m1 0 z01 ag1 (fun r => absurd r (by decide)) (fun b hb n hn Q' h1 h0 => eX12_readSum hR (ct1 b hb n hn _ (fun r => absurd r (by decide)) (fun _ n1 en1 => jm_qiI ⟨by decide, by decide⟩ ⟨fun r => absurd rfl r, fun _ => h0 rfl n1 en1⟩)))
end SM
