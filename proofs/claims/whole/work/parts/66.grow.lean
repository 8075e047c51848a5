section GW
variable {l : Launch} {gC gR : jm_G} {d : Nat} {mu nu m n : jm_M} {v1 v2 v3 v4 v5 : Int} {Q : Option Value → jm_M → Prop}
theorem jm_ag.mono {S T : Nat → Int → Bool} (h : jm_ag S mu m) (hs : ∀ c i, T c i = true → S c i = true) : jm_ag T mu m := fun c i hc => h c i (hs c i hc)
def fCg (c : Nat) (i : Int) : Bool := (c == 2) || (6 ≤ c && c ≤ 20) || (23 ≤ c && c ≤ 26) || (64 ≤ c && c ≤ 78) || (81 ≤ c && c ≤ 84) || (87 ≤ c && c ≤ 92) || (94 ≤ c && c ≤ 129) || jm_fC c i
def fRg (c : Nat) (i : Int) : Bool := (2 ≤ c && c ≤ 15) || c == 17 || c == 19 || c == 28 || c == 30 || (c == 0 && jm_fR i)
/-- the court has grown: nothing else is touched, and what lay below its counters stands -/
def GR (mu nu m n : jm_M) : Prop := jm_ag fCg mu m ∧ (mu.1 29 4 ≤ m.1 29 4 ∧ mu.1 29 6 ≤ m.1 29 6 ∧ mu.1 29 8 ≤ m.1 29 8) ∧ jm_ag fRg nu n ∧ (∀ k, 0 ≤ k → k < 6 * mu.1 29 4 → n.1 24 k = nu.1 24 k) ∧ (∀ k, 0 ≤ k → k < mu.1 29 6 → n.1 25 k = nu.1 25 k) ∧ ∀ k, 0 ≤ k → k < 5 * mu.1 29 8 → n.1 26 k = nu.1 26 k
theorem GR.ofA (a : jm_aC mu m) (b : jm_aR nu n) : GR mu nu m n := by
  have e29 : m.1 29 = mu.1 29 := a.1 29 rfl
  refine ⟨fun c i h => ?_, ⟨by rw [e29]; exact Int.le_refl _, by rw [e29]; exact Int.le_refl _, by rw [e29]; exact Int.le_refl _⟩, fun c i h => ?_, fun k _ _ => by rw [b.1 24 rfl], fun k _ _ => by rw [b.1 25 rfl], fun k _ _ => by rw [b.1 26 rfl]⟩
  · by_cases q : jm_cC c = true
    · rw [a.1 c q]
    · refine a.2 c i ?_
      simp [fCg, jm_cC] at h q
      rcases h with h | h
      · omega
      · exact h
  · by_cases q : jm_cR c = true
    · rw [b.1 c q]
    · simp [fRg, jm_cR] at h q
      rcases h with h | h
      · omega
      · rw [h.1]
        exact b.2 i h.2
theorem IK.gr (h : IK mu nu) (g : GR mu nu m n) : IK m n := by
  obtain ⟨h1, h2, h3, h4⟩ := h
  obtain ⟨a, ⟨g4, g6, g8⟩, b, gt, gb, gk⟩ := g
  have cc : ∀ (j : Int) (k : Nat), k ≤ 5 → m.1 (jm_kc mu j + k) = mu.1 (jm_kc mu j + k) := fun j k hk => by
    have := jm_kcB mu j
    exact a.cell (fun i => by simp [fCg]; omega)
  have kk : ∀ j, jm_kc m j = jm_kc mu j := fun j => by
    unfold jm_kc
    rw [a 0 15 rfl, a 0 16 rfl]
  have r2 : n.1 2 = nu.1 2 := b.cell (fun _ => rfl)
  refine ⟨by rw [a 0 15 rfl, b 0 3 rfl]; exact h1, by rw [a 0 16 rfl]; exact h2, fun j j0 j1 => ?_, fun i j i0 ij j1 => ?_⟩
  · rw [a 0 15 rfl] at j1
    obtain ⟨k1, k2⟩ := h3 j j0 j1
    have e0 : m.1 (jm_kc mu j) = mu.1 (jm_kc mu j) := cc j 0 (by omega)
    obtain ⟨l4, l6, l8⟩ := k2
    rw [kk, a 6 0 rfl, r2]
    refine ⟨(k1.ext e0 (cc j 1 (by omega)) (cc j 2 (by omega)) (cc j 3 (by omega)) (cc j 4 (by omega)) (cc j 5 (by omega))).ar (fun k k0 k1 => gt k k0 ?_) (fun k k0 k1 => gb k k0 ?_) (fun k k0 k1 => gk k k0 ?_), ?_⟩
    · rw [e0] at k1; omega
    · rw [e0] at k1; omega
    · rw [e0] at k1; omega
    · unfold jm_le
      rw [e0]
      omega
  · rw [a 0 15 rfl] at j1
    rw [kk, kk]
    exact (h4 i j i0 ij j1).ext (cc i 0 (by omega)) (cc j 0 (by omega))
theorem Iv.gr (hI : Iv mu nu) (g : GR mu nu m n) (hc : IC m n) : Iv m n := by
  have g1 := g.1
  have g2 := g.2.2.1
  exact ⟨hI.1.ag (g1.mono fun c i h => by simp [fCA, fCg, jm_fC] at h ⊢; omega) (g2.mono fun c i h => by simp [fRA, fRg, jm_fR] at h ⊢; omega),
    hI.2.1.ag (g1.mono fun c i h => by simp [fCM, fCg, jm_fC] at h ⊢; omega) (g2.mono fun c i h => by simp [fRM, fRg, jm_fR] at h ⊢; omega),
    hI.2.2.1.ag (g1.mono fun c i h => by simp [fCP, fCg, jm_fC] at h ⊢; omega) (g2.mono fun c i h => by simp [fRP, fRg, jm_fR] at h ⊢; omega),
    hI.2.2.2.1.ag (g1.mono fun c i h => by simp [fCL, fCg, jm_fC] at h ⊢; omega) (g2.mono fun c i h => by simp [fRL, fRg, jm_fR] at h ⊢; omega),
    hc, hI.2.2.2.2.2.1.gr g,
    hI.2.2.2.2.2.2.1.ag (g1.mono fun c i h => by simp [fCI, fCg, jm_fC] at h ⊢; omega) (g2.mono fun c i h => by simp [fRI, fRg, jm_fR] at h ⊢; omega),
    hI.2.2.2.2.2.2.2.ag (g1.mono fun c i h => by simp [fCT, fCg, jm_fC] at h ⊢; omega) (g2.mono fun c i h => by simp [fRT, fRg, jm_fR] at h ⊢; omega)⟩
/-- the class and the reference have kept -/
theorem IK.keep (ik : IK mu nu) (ic : IC mu nu) (W8 : mu.1 6 0 ≤ 8) (hm : KPC mu m) (hn : KPR nu n) : IK m n := by
  obtain ⟨⟨c0, c6, c3⟩, ⟨k0, k5⟩, h3, h4⟩ := ik
  obtain ⟨m1, cp, em⟩ := hm
  obtain ⟨u, hu, n3, r1, r2, ro, r0⟩ := hn
  have mo : ∀ c, c ≠ 0 → m.1 c = m1.1 c := fun c hc => by
    funext i
    rw [em, jm_wrO hc, jm_wrO hc]
  have m15 : m.1 0 15 = min 6 (mu.1 0 15 + 1) := by rw [em]; simp [jm_wr]
  have m16 : m.1 0 16 = if mu.1 0 16 = 5 then 0 else mu.1 0 16 + 1 := by rw [em]; simp [jm_wr]
  have off := cp.2.2.2.2.2.2
  have m6 : m.1 6 = mu.1 6 := by rw [mo 6 (by decide)]; exact off 6 (by omega)
  have m29 : m.1 29 = mu.1 29 := by rw [mo 29 (by decide)]; exact off 29 (by omega)
  obtain ⟨o, ho, huo⟩ : ∃ o : Int, (o = 0 ∨ o = 1) ∧ ((o = 0 ∧ mu.1 0 15 < 6 ∧ u = mu.1 0 15) ∨ (o = 1 ∧ mu.1 0 15 = 6 ∧ u = 5)) := by
    rcases hu with ⟨a, b⟩ | ⟨a, b⟩
    · exact ⟨1, Or.inr rfl, Or.inr ⟨rfl, by omega, b⟩⟩
    · exact ⟨0, Or.inl rfl, Or.inl ⟨rfl, by omega, by omega⟩⟩
  have u15 : m.1 0 15 = u + 1 := by rw [m15]; omega
  have kS : jm_kc m u = 94 + 6 * (mu.1 0 16).toNat := by
    unfold jm_kc
    rw [m15, m16]
    split <;> omega
  have kO : ∀ j, 0 ≤ j → j < u → jm_kc m j = jm_kc mu (j + o) ∧ (jm_kc mu (j + o) + 5 < 94 + 6 * (mu.1 0 16).toNat ∨ 94 + 6 * (mu.1 0 16).toNat + 5 < jm_kc mu (j + o)) := fun j j0 j1 => by
    unfold jm_kc
    rw [m15, m16]
    constructor
    · split <;> omega
    · omega
  have ce : ∀ j, 0 ≤ j → j < u → ∀ q : Nat, q ≤ 5 → m.1 (jm_kc mu (j + o) + q) = mu.1 (jm_kc mu (j + o) + q) := fun j j0 j1 q hq => by
    have := jm_kcB mu (j + o)
    have := (kO j j0 j1).2
    rw [mo _ (by omega)]
    exact off _ (by omega)
  have r24 : n.1 24 = nu.1 24 := ro 24 (by decide) (by decide)
  have r25 : n.1 25 = nu.1 25 := ro 25 (by decide) (by decide)
  have r26 : n.1 26 = nu.1 26 := ro 26 (by decide) (by decide)
  have rr : ∀ j, 0 ≤ j → j < u → ∀ k, 0 ≤ k → k < 22 → n.1 2 (22 * j + k) = nu.1 2 (22 * (j + o) + k) := fun j j0 j1 k q0 q1 => by
    rw [r1 (22 * j + k) (by omega) (by omega)]
    rcases huo with ⟨a, b, e⟩ | ⟨a, b, e⟩
    · rw [if_neg (by omega), a, Int.add_zero]
    · rw [if_pos (by omega), a, show 22 * (j + 1) + k = 22 * j + k + 22 by omega]
  have lS : ∀ q : Nat, m.1 (94 + 6 * (mu.1 0 16).toNat + q) = m1.1 (94 + 6 * (mu.1 0 16).toNat + q) := fun q => mo _ (by omega)
  have lS0 : m.1 (94 + 6 * (mu.1 0 16).toNat) = m1.1 (94 + 6 * (mu.1 0 16).toNat) := mo _ (by omega)
  have sl : jm_le m (94 + 6 * (mu.1 0 16).toNat) 29 ∧ jm_le m 29 (94 + 6 * (mu.1 0 16).toNat) := by
    unfold jm_le
    rw [lS0, m29, cp.1.2.2.1, cp.1.2.2.2.1, cp.1.2.2.2.2]
    omega
  refine ⟨⟨by omega, by omega, by omega⟩, ⟨?_, ?_⟩, fun j j0 j1 => ?_, fun i j i0 ij j1 => ?_⟩
  · rw [m16]; split <;> omega
  · rw [m16]; split <;> omega
  · rw [u15] at j1
    rw [r24, r25, r26, m6]
    by_cases q : j = u
    · subst q
      rw [kS]
      refine ⟨?_, sl.1⟩
      have t := cp.crt (row' := fun k => n.1 2 (22 * j + k)) ic W8 (fun k q0 q1 => r2 k q0 q1)
      exact t.ext lS0 (lS 1) (lS 2) (lS 3) (lS 4) (lS 5)
    · have j1 : j < u := by omega
      obtain ⟨t1, t2⟩ := h3 (j + o) (by omega) (by omega)
      have e0 : m.1 (jm_kc mu (j + o)) = mu.1 (jm_kc mu (j + o)) := ce j j0 j1 0 (by omega)
      rw [(kO j j0 j1).1]
      refine ⟨?_, ?_⟩
      · exact t1.tr W8 (by rw [e0]) (by rw [e0]) (by rw [e0]) (by rw [e0]) (by rw [e0]) (fun i _ _ => by rw [ce j j0 j1 1 (by omega)]) (fun i _ _ => by rw [ce j j0 j1 2 (by omega)]) (fun i _ _ => by rw [ce j j0 j1 3 (by omega)]) (fun i _ _ => by rw [ce j j0 j1 4 (by omega)]) (fun i _ _ => by rw [ce j j0 j1 5 (by omega)]) (fun k q0 q1 => rr j j0 j1 k q0 q1)
      · exact t2.ext e0 m29
  · rw [u15] at j1
    by_cases q : j = u
    · subst q
      rw [kS]
      by_cases p : i = j
      · subst p
        rw [kS]
        unfold jm_le
        omega
      · have i1 : i < j := by omega
        rw [(kO i i0 i1).1]
        have e0 : m.1 (jm_kc mu (i + o)) = mu.1 (jm_kc mu (i + o)) := ce i i0 i1 0 (by omega)
        obtain ⟨t1, t2⟩ := h3 (i + o) (by omega) (by omega)
        have t3 : jm_le m (jm_kc mu (i + o)) 29 := t2.ext e0 m29
        have s2 := sl.2
        unfold jm_le at t3 s2 ⊢
        omega
    · have j1 : j < u := by omega
      have j0 : 0 ≤ j := by omega
      have i1 : i < u := by omega
      rw [(kO i i0 i1).1, (kO j j0 j1).1]
      exact (h4 (i + o) (j + o) (by omega) (by omega) (by omega)).ext (ce i i0 i1 0 (by omega)) (ce j j0 j1 0 (by omega))
theorem Iv.keep (hI : Iv mu nu) (hm : KPC mu m) (hn : KPR nu n) : Iv m n := by
  have ik := hI.2.2.2.2.2.1.keep hI.2.2.2.2.1 hI.1.1.2.1 hm hn
  obtain ⟨m1, cp, em⟩ := hm
  obtain ⟨u, hu, n3, r1, r2, ro, r0⟩ := hn
  have k5 := hI.2.2.2.2.2.1.2.1
  have g1 : ∀ S : Nat → Int → Bool, (∀ c i, S c i = true → c < 94 ∧ (c = 0 → i ≠ 15 ∧ i ≠ 16)) → jm_ag S mu m := fun S hS c i hc => by
    obtain ⟨q1, q2⟩ := hS c i hc
    have q3 : ¬ (c = 0 ∧ i = 15) := fun q => (q2 q.1).1 q.2
    have q4 : ¬ (c = 0 ∧ i = 16) := fun q => (q2 q.1).2 q.2
    rw [em]
    show (if c = 0 ∧ i = 15 then _ else if c = 0 ∧ i = 16 then _ else m1.1 c i) = _
    rw [if_neg q3, if_neg q4, cp.2.2.2.2.2.2 c (by omega)]
  have g2 : ∀ S : Nat → Int → Bool, (∀ c i, S c i = true → c ≠ 2 ∧ (c = 0 → i ≠ 3)) → jm_ag S nu n := fun S hS c i hc => by
    obtain ⟨q1, q2⟩ := hS c i hc
    by_cases q : c = 0
    · subst q; exact r0 i (q2 rfl)
    · rw [ro c q q1]
  exact ⟨hI.1.ag (g1 _ fun c i h => by simp [fCA] at h; omega) (g2 _ fun c i h => by simp [fRA] at h; omega),
    hI.2.1.ag (g1 _ fun c i h => by simp [fCM] at h; omega) (g2 _ fun c i h => by simp [fRM] at h; omega),
    hI.2.2.1.ag (g1 _ fun c i h => by simp [fCP] at h; omega) (g2 _ fun c i h => by simp [fRP] at h; omega),
    hI.2.2.2.1.ag (g1 _ fun c i h => by simp [fCL] at h; omega) (g2 _ fun c i h => by simp [fRL] at h; omega),
    hI.2.2.2.2.1.ag (g1 _ fun c i h => by simp [fCC] at h; omega) (g2 _ fun c i h => by simp [fRC] at h; omega),
    ik,
    hI.2.2.2.2.2.2.1.ag (g1 _ fun c i h => by simp [fCI] at h; omega) (g2 _ fun c i h => by simp [fRI] at h; omega),
    hI.2.2.2.2.2.2.2.ag (g1 _ fun c i h => by simp [fCT] at h; omega) (g2 _ fun c i h => by simp [fRT] at h; omega)⟩
/-- such a row there is -/
theorem KPR_ex (u0 : 0 ≤ nu.1 0 3) (u6 : nu.1 0 3 ≤ 6) : ∃ n, KPR nu n := by
  by_cases q : nu.1 0 3 = 6
  · refine ⟨(fun c i => if c = 2 then (if i < 110 then nu.1 2 (i + 22) else nu.1 1 (i - 110)) else if c = 0 ∧ i = 3 then 6 else nu.1 c i, nu.2), 5, Or.inl ⟨q, rfl⟩, by simp, fun k k0 k1 => ?_, fun k k0 k1 => ?_, fun c c0 c2 => ?_, fun i hi => ?_⟩
    · rw [if_pos q]
      have t : k < 110 := by omega
      simp [t]
    · have t1 : ¬ (22 * 5 + k < 110) := by omega
      have t2 : 22 * 5 + k - 110 = k := by omega
      simp only [if_true, if_neg t1, t2]
    · funext i
      simp [c0, c2]
    · simp [hi]
  · refine ⟨(fun c i => if c = 2 then (if i < 22 * nu.1 0 3 then nu.1 2 i else nu.1 1 (i - 22 * nu.1 0 3)) else if c = 0 ∧ i = 3 then nu.1 0 3 + 1 else nu.1 c i, nu.2), nu.1 0 3, Or.inr ⟨q, rfl⟩, by simp, fun k k0 k1 => ?_, fun k k0 k1 => ?_, fun c c0 c2 => ?_, fun i hi => ?_⟩
    · rw [if_neg q]
      simp [k1]
    · have t1 : ¬ (22 * nu.1 0 3 + k < 22 * nu.1 0 3) := by omega
      have t2 : 22 * nu.1 0 3 + k - 22 * nu.1 0 3 = k := by omega
      simp only [if_true, if_neg t1, t2]
    · funext i
      simp [c0, c2]
    · simp [hi]
/-- the reference carries every partner of mu to a partner of m, with result r -/
def jm_pr (l : Launch) (gR : jm_G) (d : Nat) (i : jm_I) (As : List Value) (mu m : jm_M) (r : Option Value) : Prop := ∀ (nu : jm_M) (Q : Option Value → jm_M → Prop), Iv mu nu → (∀ n, Iv m n → Q r n) → jm_R l gR d i As nu Q
theorem d_keep (hC : jm_HC gC) (hR : jm_HR gR) (hI : Iv mu nu) (h : ∀ m, (∃ n, Iv m n) → m.1 6 = mu.1 6 → m.1 29 = mu.1 29 → m.1 32 = mu.1 32 → jm_pr l gR (d + 1) iX12_keepsAhead [.ref 0] mu m none → Q none m) : jm_R l gC (d + 2) iX11_keepCourt [.ref 0] mu Q := by
  obtain ⟨⟨c0, c6, c3⟩, ⟨k0, k5⟩, -, -⟩ := hI.2.2.2.2.2.1
  refine sX11_keepCourt hC k0 k5 c0 c6 (fun m hm => ?_)
  have cl : ∀ c, c ≠ 0 → c < 94 → m.1 c = mu.1 c := fun c h0 h94 => by
    obtain ⟨m1, cp, em⟩ := hm
    funext i
    rw [em, jm_wrO h0, jm_wrO h0, cp.2.2.2.2.2.2 c (by omega)]
  obtain ⟨n, hn⟩ := KPR_ex (nu := nu) (by omega) (by omega)
  refine h m ⟨n, hI.keep hm hn⟩ (cl 6 (by decide) (by decide)) (cl 29 (by decide) (by decide)) (cl 32 (by decide) (by decide)) (fun nu' Q' hI' h' => ?_)
  obtain ⟨⟨c0', c6', c3'⟩, -, -, -⟩ := hI'.2.2.2.2.2.1
  exact sX12_keepsAhead hR (by omega) (by omega) (fun n' hn' => h' n' (hI'.keep hm hn'))
end GW
