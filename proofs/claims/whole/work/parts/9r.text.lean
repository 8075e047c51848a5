section SX
variable {l : Launch} {gC gR : jm_G} {d : Nat} {mu nu m n m0 n0 m' n' : jm_M} {v1 v2 v3 v4 v5 v6 : Int} {Q : Option Value → jm_M → Prop}
theorem fcz_q {z : Int} (h : jm_ag (fcz z) m n) : jm_ag fcq m n := fun c i q => h c i (by
  unfold fcq at q
  unfold fcz
  simp only [Bool.not_eq_true', Bool.or_eq_false_iff, Bool.and_eq_false_iff, decide_eq_false_iff_not, beq_eq_false_iff_ne, ne_eq] at q ⊢
  omega)
theorem fcu_q (h : jm_ag fcu m n) : jm_ag fcq m n := fun c i q => h c i (by
  unfold fcq at q
  unfold fcu
  simp only [Bool.not_eq_true', Bool.or_eq_false_iff, Bool.and_eq_false_iff, decide_eq_false_iff_not, beq_eq_false_iff_ne, ne_eq] at q ⊢
  omega)
theorem frx_q (h : jm_ag frx m n) : jm_ag frq m n := fun c i q => h c i (by
  unfold frq at q
  simp only [Bool.and_eq_true] at q
  exact q.1)
theorem r_start (e : n0 = jm_wr (jm_wr (jm_wr (jm_wr (jm_wr (jm_wr (jm_wr nu 0 0 0) 0 33 0) 0 34 (-1)) 0 14 0) 0 27 0) 0 28 0) 0 26 1) : jm_ag frq nu n0 ∧ n0.1 0 33 = 0 ∧ n0.1 0 34 = -1 ∧ n0.1 0 13 = nu.1 0 13 ∧ n0.1 0 14 = 0 ∧ n0.1 0 26 = 1 ∧ n0.1 0 27 = 0 ∧ n0.1 0 28 = 0 ∧ ∀ c, c ≠ 0 → n0.1 c = nu.1 c := by
  rw [e]
  refine ⟨((((((jm_ag.rf.wr rfl).wr rfl).wr rfl).wr rfl).wr rfl).wr rfl).wr rfl, ?_, ?_, ?_, ?_, jm_wrS, ?_, ?_, fun c hc => ?_⟩
  · rw [jm_wrI (by decide), jm_wrI (by decide), jm_wrI (by decide), jm_wrI (by decide), jm_wrI (by decide), jm_wrS]
  · rw [jm_wrI (by decide), jm_wrI (by decide), jm_wrI (by decide), jm_wrI (by decide), jm_wrS]
  · rw [jm_wrI (by decide), jm_wrI (by decide), jm_wrI (by decide), jm_wrI (by decide), jm_wrI (by decide), jm_wrI (by decide), jm_wrI (by decide)]
  · rw [jm_wrI (by decide), jm_wrI (by decide), jm_wrI (by decide), jm_wrS]
  · rw [jm_wrI (by decide), jm_wrI (by decide), jm_wrS]
  · rw [jm_wrI (by decide), jm_wrS]
  · funext z
    rw [jm_wrO hc, jm_wrO hc, jm_wrO hc, jm_wrO hc, jm_wrO hc, jm_wrO hc, jm_wrO hc]
theorem sim_text (hC : jm_HC gC) (hR : jm_HR gR) (hJ : jm_JS l gC) (hI : Iv mu nu) (h1 : jm_rg v1) : jm_sim l gC gR (d + 27) (d + 27) iX11_text iX12_text [jm_i v1] mu nu := by
  have hI' := hI
  obtain ⟨i1, i2, i3, i4, i5, i6, i7, i8⟩ := hI'
  obtain ⟨T1, T2, T3, T4, T5⟩ := i8
  have iW := i1.1
  obtain ⟨N, eN⟩ : ∃ N : Nat, mu.1 1 1 = N := ⟨(mu.1 1 1).toNat, by omega⟩
  refine eX11_text hC (fun m1 em1 => ?_)
  have y1 : m1.1 1 1 = N := by rw [em1, jm_wrI (by decide), jm_wrI (by decide), eN]
  have y2 : m1.1 2 = mu.1 2 := by rw [em1]; funext z; rw [jm_wrO (by decide), jm_wrO (by decide)]
  obtain ⟨k, hk, ek⟩ : ∃ k : Nat, k < 3 ∧ (v1 = 0 ∧ k = 0 ∨ v1 = 1 ∧ k = 1 ∨ (¬ v1 = 0 ∧ ¬ v1 = 1) ∧ k = 2) := by
    by_cases q0 : v1 = 0
    · exact ⟨0, by decide, Or.inl ⟨q0, rfl⟩⟩
    · by_cases q1 : v1 = 1
      · exact ⟨1, by decide, Or.inr (Or.inl ⟨q1, rfl⟩)⟩
      · exact ⟨2, by decide, Or.inr (Or.inr ⟨⟨q0, q1⟩, rfl⟩)⟩
  refine sX7_cut (d := d + 10) hC hJ (N := N) (by omega) y1 (fun x x0 x1 => by rw [y2]; have := T4 x x0 (by omega); omega) hk ek h1 (fun m3 t g3 q7 q8 tok => jm_qvI (fun m7 em7 => ?_))
  rw [y2] at tok
  have g32 : m3.1 2 = mu.1 2 := by rw [g3.cell (c := 2) (fun _ => rfl), y2]
  have d7 : ∀ c, c ≠ 1 → m7.1 c = m3.1 c := fun c hc => by rw [em7]; funext z; exact jm_wrO hc
  have e72 : m7.1 2 = mu.1 2 := by rw [d7 2 (by decide), g32]
  have e78 : m7.1 1 8 = 0 := by rw [em7, jm_wrI (by decide), q8]
  have e77 : m7.1 1 7 = t := by rw [em7, jm_wrI (by decide), q7]
  have e711 : m7.1 1 1 = 0 := by rw [em7, jm_wrS]
  have e712 : m7.1 1 2 = 0 := by rw [em7, jm_wrI (by decide), g3 1 2 rfl, em1, jm_wrI (by decide), jm_wrS]
  have e713 : m7.1 1 3 = -1 := by rw [em7, jm_wrI (by decide), g3 1 3 rfl, em1, jm_wrS]
  have hp : PHS k (mu.1 2) N (m3.1 3) (m3.1 4) (m3.1 5) t := ⟨tok, ⟨by omega, by omega⟩, fun x x0 x1 => by have := T4 x x0 (by omega); omega, hk⟩
  have tb := hp.T
  have cs : CS m7 (mu.1 2) (m3.1 3) (m3.1 4) (m3.1 5) t m7 := ⟨⟨e72, d7 3 (by decide), d7 4 (by decide), d7 5 (by decide), e77, rfl, by omega, by omega⟩, jm_ag.rf⟩
  have am7 : jm_ag fcq mu m7 := by
    have x1 : jm_ag fcq mu m1 := by rw [em1]; exact (jm_ag.rf.wr rfl).wr rfl
    have x7 : jm_ag fcq m3 m7 := by rw [em7]; exact jm_ag.rf.wr rfl
    exact (x1.tr (fcu_q g3)).tr x7
  have e76 : m7.1 6 0 = mu.1 6 0 := am7 6 0 rfl
  have rstart := fun n0 => r_start (n0 := n0) (nu := nu)
  have ffail : ∀ m' n0 n', jm_ag (fcz 0) m7 m' → jm_ag frq nu n0 → EN n0 m' n' → Iv m' (jm_wr (jm_wr (jm_wr n' 0 33 (n'.1 0 31)) 0 34 ((jm_wr n' 0 33 (n'.1 0 31)).1 0 32)) 0 13 0) := by
    intro m' n0 n' ag aq en
    refine hI.tx (am7.tr (fcz_q ag)) ((aq.tr (frx_q en.1)).tr (((jm_ag.rf.wr rfl).wr rfl).wr rfl)) (by rw [ag 1 1 rfl, e711]) jm_wrS ?_ ?_
    · rw [jm_wrI (by decide), jm_wrI (by decide), jm_wrS, en.2.1]
    · rw [jm_wrI (by decide), jm_wrS, jm_wrI (by decide), en.2.2]
  have fok : ∀ m' n0 n', jm_ag (fcz 1) m7 m' → jm_ag frq nu n0 → n0.1 0 33 = 0 → n0.1 0 34 = -1 → jm_ag frx n0 n' → Iv m' (jm_wr n' 0 13 0) := by
    intro m' n0 n' ag aq w33 w34 an
    refine hI.tx (am7.tr (fcz_q ag)) ((aq.tr (frx_q an)).tr (jm_ag.rf.wr rfl)) (by rw [ag 1 1 rfl, e711]) jm_wrS ?_ ?_
    · rw [jm_wrI (by decide), an 0 33 rfl, w33, ag 1 2 rfl, e712]
    · rw [jm_wrI (by decide), an 0 34 rfl, w34, ag 1 3 rfl, e713]
  refine ⟨h1, fun q0 => ?_, fun q1 => ?_, fun q2 => ?_, fun qx => ?_⟩
  · -- motives
    have k0 : k = 0 := by omega
    subst k0
    refine jm_R.up (d_motives (d := d + 17) (l := l) (gR := gR) (n0 := jm_wr (jm_wr (jm_wr (jm_wr (jm_wr (jm_wr (jm_wr nu 0 0 0) 0 33 0) 0 34 (-1)) 0 14 0) 0 27 0) 0 28 0) 0 26 1) hC hR hp cs (fun m' z z01 agz cz ct => jm_qiI (by rcases z01 with e | e <;> rw [e] <;> exact ⟨by decide, by decide⟩) ⟨fun r => ?_, fun r m14 e14 => ?_⟩)) (by omega)
    · subst r
      refine jm_qiI ⟨by decide, by decide⟩ ?_
      refine eX12_text hR (fun r1 f1 r3 f3 r5 f5 r7 f7 r9 f9 r11 f11 => ⟨h1, fun _ => ?_, fun r => by omega⟩)
      refine eX12_readsText hR (fun n0 en0 => ?_)
      have n0e : n0 = jm_wr (jm_wr (jm_wr (jm_wr (jm_wr (jm_wr (jm_wr nu 0 0 0) 0 33 0) 0 34 (-1)) 0 14 0) 0 27 0) 0 28 0) 0 26 1 := by rw [en0, f11, f9, f7, f5, f3, f1]
      obtain ⟨aq, w33, w34, w13, w14, w26, w27', w28, wc0⟩ := rstart n0 n0e
      refine sX12_reads (d := d + 22) (a := 0) hR hp.1.1 hp.1.2.1 hp.2.1.2 hp.2.2.1 (fun k k0 k1 => by rw [wc0 7 (by decide)]; exact (T4 k k0 (by omega)).2.2) (by rw [w13]; omega) (fun k hk => by rw [wc0 8 (by decide)]; exact T5 k hk) (Int.le_refl 0) (by omega) (by rw [w14, eB_0]) (fun n3 a3 c3 => jm_qvI ?_)
      have pn3 : PN (mu.1 2) N (m3.1 4) (m3.1 5) t 0 n3 := ⟨fun k k0 k1 => by rw [frd_c a3 (by decide), wc0 7 (by decide)]; exact (T4 k k0 (by omega)).2.2, by rw [a3 0 13 rfl, w13]; omega, fun k hk => by rw [frd_c a3 (by decide), wc0 8 (by decide)]; exact T5 k hk, c3⟩
      have ax3 : jm_ag frx n0 n3 := frd_x a3
      rw [e78] at ct
      rw [n0e] at ax3 aq
      refine ⟨h1, fun r => absurd q0 r, fun _ => jm_R.up (ct n3 pn3 ax3 _ (fun r => absurd r (by decide)) (fun _ n' en' => jm_qiI ⟨by decide, by decide⟩ ?_)) (by omega)⟩
      refine jm_qiI ⟨by decide, by decide⟩ ⟨fun r => absurd rfl r, fun _ m18 e18 m20 e20 => bX12_text_69 hR (fun m1' e1' => ⟨⟨by decide, by decide⟩, fun r => absurd rfl r, fun _ => jm_fin ⟨by decide, by decide⟩ rfl ?_⟩)⟩
      rw [e1', e20, e18]
      exact ffail m' _ n' agz aq en'
    · have z1 : z = 1 := by omega
      subst z1
      have cz := cz rfl
      have ans : m14.1 46 0 = m'.1 46 0 := by rw [e14, jm_wrO (by decide), jm_wrO (by decide), jm_cpO (by decide), jm_cpO (by decide), jm_wrO (by decide)]
      rw [← e14, ans]
      refine jm_qiI ⟨by omega, by omega⟩ ?_
      refine eX12_text hR (fun r1 f1 r3 f3 r5 f5 r7 f7 r9 f9 r11 f11 => ⟨h1, fun _ => ?_, fun r => by omega⟩)
      refine eX12_readsText hR (fun n0 en0 => ?_)
      have n0e : n0 = jm_wr (jm_wr (jm_wr (jm_wr (jm_wr (jm_wr (jm_wr nu 0 0 0) 0 33 0) 0 34 (-1)) 0 14 0) 0 27 0) 0 28 0) 0 26 1 := by rw [en0, f11, f9, f7, f5, f3, f1]
      obtain ⟨aq, w33, w34, w13, w14, w26, w27', w28, wc0⟩ := rstart n0 n0e
      refine sX12_reads (d := d + 22) (a := 0) hR hp.1.1 hp.1.2.1 hp.2.1.2 hp.2.2.1 (fun k k0 k1 => by rw [wc0 7 (by decide)]; exact (T4 k k0 (by omega)).2.2) (by rw [w13]; omega) (fun k hk => by rw [wc0 8 (by decide)]; exact T5 k hk) (Int.le_refl 0) (by omega) (by rw [w14, eB_0]) (fun n3 a3 c3 => jm_qvI ?_)
      have pn3 : PN (mu.1 2) N (m3.1 4) (m3.1 5) t 0 n3 := ⟨fun k k0 k1 => by rw [frd_c a3 (by decide), wc0 7 (by decide)]; exact (T4 k k0 (by omega)).2.2, by rw [a3 0 13 rfl, w13]; omega, fun k hk => by rw [frd_c a3 (by decide), wc0 8 (by decide)]; exact T5 k hk, c3⟩
      have ax3 : jm_ag frx n0 n3 := frd_x a3
      rw [e78] at ct
      rw [n0e] at ax3 aq w33 w34
      refine ⟨h1, fun r => absurd q0 r, fun _ => jm_R.up (ct n3 pn3 ax3 _ (fun _ n' an' dm' => jm_qiI ⟨by omega, by omega⟩ (jm_qiI ⟨by omega, by omega⟩ ⟨fun _ => ?_, fun r => by omega⟩)) (fun r => absurd r (by decide))) (by omega)⟩
      have iv := fok m' _ n' agz aq w33 w34 an'
      refine bX12_text_69 hR (fun m1' e1' => ⟨⟨by omega, by omega⟩, fun _ => ⟨h1, fun _ => ?_, fun r => by omega⟩, fun r => by omega⟩)
      rw [← e1'] at iv
      rw [q0]
      refine t_motives (d := d + 25) hR cz.1 cz.2 (fun nF x17 xc x35 x3 xi => jm_qvI (jm_fin ⟨by omega, by omega⟩ rfl (ad_motives iv (dm'.cg rfl rfl ?_) cz.1 cz.2 x17 xc x35 x3 xi e14)))
      rw [e1']
      funext y
      exact jm_wrO (by decide)
  · -- the law
    have k1 : k = 1 := by omega
    subst k1
    refine jm_R.up (d_law (d := d) (l := l) (gR := gR) (n0 := jm_wr (jm_wr (jm_wr (jm_wr (jm_wr (jm_wr (jm_wr nu 0 0 0) 0 33 0) 0 34 (-1)) 0 14 0) 0 27 0) 0 28 0) 0 26 1) hC hR hp cs (fun m' z z01 agz cz ct => jm_qiI (by rcases z01 with e | e <;> rw [e] <;> exact ⟨by decide, by decide⟩) ⟨fun r => ?_, fun r => ?_⟩)) (by omega)
    · subst r
      refine jm_qiI ⟨by decide, by decide⟩ ?_
      refine eX12_text hR (fun r1 f1 r3 f3 r5 f5 r7 f7 r9 f9 r11 f11 => ⟨h1, fun _ => ?_, fun r => by omega⟩)
      refine eX12_readsText hR (fun n0 en0 => ?_)
      have n0e : n0 = jm_wr (jm_wr (jm_wr (jm_wr (jm_wr (jm_wr (jm_wr nu 0 0 0) 0 33 0) 0 34 (-1)) 0 14 0) 0 27 0) 0 28 0) 0 26 1 := by rw [en0, f11, f9, f7, f5, f3, f1]
      obtain ⟨aq, w33, w34, w13, w14, w26, w27', w28, wc0⟩ := rstart n0 n0e
      refine sX12_reads (d := d + 22) (a := 0) hR hp.1.1 hp.1.2.1 hp.2.1.2 hp.2.2.1 (fun k k0 k1 => by rw [wc0 7 (by decide)]; exact (T4 k k0 (by omega)).2.2) (by rw [w13]; omega) (fun k hk => by rw [wc0 8 (by decide)]; exact T5 k hk) (Int.le_refl 0) (by omega) (by rw [w14, eB_0]) (fun n3 a3 c3 => jm_qvI ?_)
      have pn3 : PN (mu.1 2) N (m3.1 4) (m3.1 5) t 0 n3 := ⟨fun k k0 k1 => by rw [frd_c a3 (by decide), wc0 7 (by decide)]; exact (T4 k k0 (by omega)).2.2, by rw [a3 0 13 rfl, w13]; omega, fun k hk => by rw [frd_c a3 (by decide), wc0 8 (by decide)]; exact T5 k hk, c3⟩
      have ax3 : jm_ag frx n0 n3 := frd_x a3
      have b27 : n3.1 0 27 = 0 := by rw [frd_27 a3 (by decide), w27']
      have b28 : n3.1 0 28 = 0 := by rw [frd_27 a3 (by decide), w28]
      rw [e78] at ct
      rw [n0e] at ax3 aq
      refine ⟨h1, fun _ => ⟨fun _ => ct n3 pn3 ax3 b27 b28 _ (fun r => absurd r (by decide)) (fun _ n' en' => jm_qiI ⟨by decide, by decide⟩ ?_), fun r => by omega⟩, fun r => by omega⟩
      refine jm_qiI ⟨by decide, by decide⟩ ⟨fun r => absurd rfl r, fun _ m18 e18 m20 e20 => bX12_text_69 hR (fun m1' e1' => ⟨⟨by decide, by decide⟩, fun r => absurd rfl r, fun _ => jm_fin ⟨by decide, by decide⟩ rfl ?_⟩)⟩
      rw [e1', e20, e18]
      exact ffail m' _ n' agz aq en'
    · have z1 : z = 1 := by omega
      subst z1
      obtain ⟨ci, l01, o0, o1, t8⟩ := cz rfl
      refine eX11_adoptLaw hC (eX3_copyFrom_15_49 (d := d + 24) hC (fun c1 f1 c3 f3 c5 f5 c7 f7 c9 f9 c11 f11 c13 f13 => jm_qvI ?_))
      have em : c13 = jm_cp (jm_cp (jm_cp (jm_cp (jm_cp (jm_wr (jm_wr m' 15 0 (m'.1 49 0)) 15 1 (m'.1 49 1)) 50 0 16 0 400) 51 0 17 0 16) 52 0 18 0 16) 53 0 19 0 16) 54 0 20 0 16 := by
        rw [f13, f11, f9, f7, f5, f3, f1, show (jm_wr m' 15 0 (m'.1 49 0)).1 49 1 = m'.1 49 1 from jm_wrO (by decide)]
      have ans : c13.1 49 0 = m'.1 49 0 := by rw [em, jm_cpO (by decide), jm_cpO (by decide), jm_cpO (by decide), jm_cpO (by decide), jm_cpO (by decide), jm_wrO (by decide), jm_wrO (by decide)]
      rw [ans]
      refine jm_qiI ⟨by omega, by omega⟩ (jm_qiI ⟨by omega, by omega⟩ ?_)
      clear f1 f3 f5 f7 f9 f11 f13
      refine eX12_text hR (fun r1 f1 r3 f3 r5 f5 r7 f7 r9 f9 r11 f11 => ⟨h1, fun _ => ?_, fun r => by omega⟩)
      refine eX12_readsText hR (fun n0 en0 => ?_)
      have n0e : n0 = jm_wr (jm_wr (jm_wr (jm_wr (jm_wr (jm_wr (jm_wr nu 0 0 0) 0 33 0) 0 34 (-1)) 0 14 0) 0 27 0) 0 28 0) 0 26 1 := by rw [en0, f11, f9, f7, f5, f3, f1]
      obtain ⟨aq, w33, w34, w13, w14, w26, w27', w28, wc0⟩ := rstart n0 n0e
      refine sX12_reads (d := d + 22) (a := 0) hR hp.1.1 hp.1.2.1 hp.2.1.2 hp.2.2.1 (fun k k0 k1 => by rw [wc0 7 (by decide)]; exact (T4 k k0 (by omega)).2.2) (by rw [w13]; omega) (fun k hk => by rw [wc0 8 (by decide)]; exact T5 k hk) (Int.le_refl 0) (by omega) (by rw [w14, eB_0]) (fun n3 a3 c3 => jm_qvI ?_)
      have pn3 : PN (mu.1 2) N (m3.1 4) (m3.1 5) t 0 n3 := ⟨fun k k0 k1 => by rw [frd_c a3 (by decide), wc0 7 (by decide)]; exact (T4 k k0 (by omega)).2.2, by rw [a3 0 13 rfl, w13]; omega, fun k hk => by rw [frd_c a3 (by decide), wc0 8 (by decide)]; exact T5 k hk, c3⟩
      have ax3 : jm_ag frx n0 n3 := frd_x a3
      have b27 : n3.1 0 27 = 0 := by rw [frd_27 a3 (by decide), w27']
      have b28 : n3.1 0 28 = 0 := by rw [frd_27 a3 (by decide), w28]
      rw [e78] at ct
      rw [n0e] at ax3 aq w33 w34
      refine ⟨h1, fun _ => ⟨fun _ => ct n3 pn3 ax3 b27 b28 _ (fun _ n' an' dl' => jm_qiI ⟨by omega, by omega⟩ (jm_qiI ⟨by omega, by omega⟩ ⟨fun _ => ?_, fun r => by omega⟩)) (fun r => absurd r (by decide)), fun r => by omega⟩, fun r => by omega⟩
      have iv := fok m' _ n' agz aq w33 w34 an'
      have c27 := dl'.1
      refine bX12_text_69 hR (fun m1' e1' => ⟨⟨by omega, by omega⟩, fun _ => ⟨h1, fun r => absurd q1 r, fun _ => ?_⟩, fun r => by omega⟩)
      have j26 : m1'.1 0 26 = 1 := by rw [e1', jm_wrI (by decide), an' 0 26 rfl, jm_wrS]
      have j27 : m1'.1 0 27 = n'.1 0 27 := by rw [e1', jm_wrI (by decide)]
      have dl2 : DL t 400 m' m1' := dl'.cg (fun _ _ _ => rfl) (fun c c1 c2 => by rw [e1']; funext y; exact jm_wrO (by omega)) j27 c27.2.2
      rw [← e1'] at iv
      exact t_law (d := d + 25) hR l01.1 l01.2 j26 (by omega) (by omega) (fun nF x10 x14 x9 xc => jm_qvI (jm_fin ⟨by omega, by omega⟩ rfl (ad_law iv dl2 ci l01.1 l01.2 o0 o1 (by omega) x10 x14 x9 xc em)))
  · -- a plan
    have k2 : k = 2 := by omega
    subst k2
    rw [e76]
    refine pl_plan (d := d + 17) (l := l) (gR := gR) (n0 := jm_wr (jm_wr (jm_wr (jm_wr (jm_wr (jm_wr (jm_wr nu 0 0 0) 0 33 0) 0 34 (-1)) 0 14 0) 0 27 0) 0 28 0) 0 26 1) hC hR hp (W := mu.1 6 0) (by rw [jm_wrI (by decide), jm_wrI (by decide), jm_wrI (by decide), jm_wrI (by decide), jm_wrI (by decide), jm_wrI (by decide), jm_wrI (by decide)]; exact iW.2.2) iW.1 iW.2.1 cs e78 (fun m' z z01 agz cz ct => jm_qiI (by rcases z01 with e | e <;> rw [e] <;> exact ⟨by decide, by decide⟩) ⟨fun r => ?_, fun r => ?_⟩)
    · subst r
      refine jm_qiI ⟨by decide, by decide⟩ ?_
      refine eX12_text hR (fun r1 f1 r3 f3 r5 f5 r7 f7 r9 f9 r11 f11 => ⟨h1, fun _ => ?_, fun r => by omega⟩)
      refine eX12_readsText hR (fun n0 en0 => ?_)
      have n0e : n0 = jm_wr (jm_wr (jm_wr (jm_wr (jm_wr (jm_wr (jm_wr nu 0 0 0) 0 33 0) 0 34 (-1)) 0 14 0) 0 27 0) 0 28 0) 0 26 1 := by rw [en0, f11, f9, f7, f5, f3, f1]
      obtain ⟨aq, w33, w34, w13, w14, w26, w27', w28, wc0⟩ := rstart n0 n0e
      refine sX12_reads (d := d + 22) (a := 0) hR hp.1.1 hp.1.2.1 hp.2.1.2 hp.2.2.1 (fun k k0 k1 => by rw [wc0 7 (by decide)]; exact (T4 k k0 (by omega)).2.2) (by rw [w13]; omega) (fun k hk => by rw [wc0 8 (by decide)]; exact T5 k hk) (Int.le_refl 0) (by omega) (by rw [w14, eB_0]) (fun n3 a3 c3 => jm_qvI ?_)
      have pn3 : PN (mu.1 2) N (m3.1 4) (m3.1 5) t 0 n3 := ⟨fun k k0 k1 => by rw [frd_c a3 (by decide), wc0 7 (by decide)]; exact (T4 k k0 (by omega)).2.2, by rw [a3 0 13 rfl, w13]; omega, fun k hk => by rw [frd_c a3 (by decide), wc0 8 (by decide)]; exact T5 k hk, c3⟩
      have ax3 : jm_ag frx n0 n3 := frd_x a3
      have b28 : n3.1 0 28 = 0 := by rw [frd_27 a3 (by decide), w28]
      rw [n0e] at ax3 aq
      refine ⟨h1, fun _ => ⟨fun r => absurd q2 r, fun _ => ct n3 pn3 ax3 b28 _ (fun r => absurd r (by decide)) (fun _ n' en' => ?_)⟩, fun r => by omega⟩
      refine jm_qiI ⟨by decide, by decide⟩ ⟨fun r => absurd rfl r, fun _ m18 e18 m20 e20 => bX12_text_69 hR (fun m1' e1' => ⟨⟨by decide, by decide⟩, fun r => absurd rfl r, fun _ => jm_fin ⟨by decide, by decide⟩ rfl ?_⟩)⟩
      rw [e1', e20, e18]
      exact ffail m' _ n' agz aq en'
    · have z1 : z = 1 := by omega
      subst z1
      have cz := cz rfl
      refine eX11_adoptPlan hC (eX6_copyFrom_22_56 (d := d + 24) hC (fun c1 f1 c3 f3 c5 f5 c7 f7 c9 f9 => jm_qvI (fun c11 f11 => ?_)))
      have em : c11 = jm_wr (jm_wr (jm_cp (jm_cp (jm_cp (jm_cp (jm_wr m' 22 0 (m'.1 56 0)) 57 0 23 0 60) 58 0 24 0 60) 59 0 25 0 60) 60 0 26 0 60) 0 15 0) 0 16 0 := by rw [f11, f9, f7, f5, f3, f1]
      have ans : c11.1 56 0 = m'.1 56 0 := by rw [em, jm_wrO (by decide), jm_wrO (by decide), jm_cpO (by decide), jm_cpO (by decide), jm_cpO (by decide), jm_cpO (by decide), jm_wrO (by decide)]
      rw [ans]
      refine jm_qiI ⟨by omega, by omega⟩ (jm_qiI ⟨by omega, by omega⟩ ?_)
      clear f1 f3 f5 f7 f9 f11
      refine eX12_text hR (fun r1 f1 r3 f3 r5 f5 r7 f7 r9 f9 r11 f11 => ⟨h1, fun _ => ?_, fun r => by omega⟩)
      refine eX12_readsText hR (fun n0 en0 => ?_)
      have n0e : n0 = jm_wr (jm_wr (jm_wr (jm_wr (jm_wr (jm_wr (jm_wr nu 0 0 0) 0 33 0) 0 34 (-1)) 0 14 0) 0 27 0) 0 28 0) 0 26 1 := by rw [en0, f11, f9, f7, f5, f3, f1]
      obtain ⟨aq, w33, w34, w13, w14, w26, w27', w28, wc0⟩ := rstart n0 n0e
      refine sX12_reads (d := d + 22) (a := 0) hR hp.1.1 hp.1.2.1 hp.2.1.2 hp.2.2.1 (fun k k0 k1 => by rw [wc0 7 (by decide)]; exact (T4 k k0 (by omega)).2.2) (by rw [w13]; omega) (fun k hk => by rw [wc0 8 (by decide)]; exact T5 k hk) (Int.le_refl 0) (by omega) (by rw [w14, eB_0]) (fun n3 a3 c3 => jm_qvI ?_)
      have pn3 : PN (mu.1 2) N (m3.1 4) (m3.1 5) t 0 n3 := ⟨fun k k0 k1 => by rw [frd_c a3 (by decide), wc0 7 (by decide)]; exact (T4 k k0 (by omega)).2.2, by rw [a3 0 13 rfl, w13]; omega, fun k hk => by rw [frd_c a3 (by decide), wc0 8 (by decide)]; exact T5 k hk, c3⟩
      have ax3 : jm_ag frx n0 n3 := frd_x a3
      have b28 : n3.1 0 28 = 0 := by rw [frd_27 a3 (by decide), w28]
      rw [n0e] at ax3 aq w33 w34
      refine ⟨h1, fun _ => ⟨fun r => absurd q2 r, fun _ => ct n3 pn3 ax3 b28 _ (fun _ n' an' dp' => jm_qiI ⟨by omega, by omega⟩ ⟨fun _ => ?_, fun r => by omega⟩) (fun r => absurd r (by decide))⟩, fun r => by omega⟩
      have iv := fok m' _ n' agz aq w33 w34 an'
      refine bX12_text_69 hR (fun m1' e1' => ⟨⟨by omega, by omega⟩, fun _ => ⟨h1, fun _ => ?_, fun r => by omega⟩, fun r => by omega⟩)
      have dp2 : DPF (mu.1 6 0) m' m1' := fun k k0 k1 => by
        rw [show m1'.1 19 = n'.1 19 from by rw [e1']; funext y; exact jm_wrO (by decide)]
        exact dp' k k0 k1
      rw [← e1'] at iv
      rw [q2]
      exact t_plan (d := d + 25) hR cz.1 cz.2 (fun nF x19 xc x39 x3 xi => jm_qvI (jm_fin ⟨by omega, by omega⟩ rfl (ad_plan iv (by rw [agz 6 0 rfl, e76]) dp2 cz.1 cz.2 x19 xc x39 x3 xi em)))
  · -- no such one
    refine jm_qiI ⟨by decide, by decide⟩ ?_
    refine eX12_text hR (fun r1 f1 r3 f3 r5 f5 r7 f7 r9 f9 r11 f11 => ⟨h1, fun r => by omega, fun _ => ?_⟩)
    refine bX12_text_69 hR (fun m1' e1' => ⟨⟨by decide, by decide⟩, fun r => absurd rfl r, fun _ => jm_fin ⟨by decide, by decide⟩ rfl ?_⟩)
    rw [e1', f11, f9, f7, f5, f3, f1]
    refine hI.tx am7 (((((((jm_ag.rf.wr rfl).wr rfl).wr rfl).wr rfl).wr rfl).wr rfl).wr rfl) e711 jm_wrS ?_ ?_
    · rw [jm_wrI (by decide), jm_wrI (by decide), jm_wrI (by decide), jm_wrI (by decide), jm_wrI (by decide), jm_wrS, e712]
    · rw [jm_wrI (by decide), jm_wrI (by decide), jm_wrI (by decide), jm_wrI (by decide), jm_wrS, e713]
end SX
