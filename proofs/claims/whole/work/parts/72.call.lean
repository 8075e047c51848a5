section CL
variable {l : Launch} {gC gR : jm_G} {d : Nat} {mu nu m n : jm_M} {v1 v2 v3 v4 v5 : Int} {Q : Option Value → jm_M → Prop}
theorem sX1_addBar (hC : jm_HC gC) {b : Int} (eb : mu.1 29 6 = b) (b0 : 0 ≤ b) (b1 : b < 200) (r1 : jm_rg v1) (h : Q none (jm_wr (jm_wr mu 33 b v1) 29 6 (b + 1))) : jm_R l gC (d + 1) iX1_addBar [.ref 29, jm_i v1] mu Q := by
  subst eb
  refine eX1_addBar hC ⟨fun q => by omega, fun _ => ⟨⟨b0, b1⟩, r1, fun m3 e3 => ?_⟩⟩
  have e : m3.1 29 6 = mu.1 29 6 := by rw [e3, jm_wrO (by decide)]
  rw [e]
  refine ⟨⟨by omega, by omega⟩, fun m6 e6 => ?_⟩
  rw [e6, e3]
  exact h
def SGM (mu m : jm_M) : Prop := (∀ c, c ≠ 29 → c ≠ 33 → c ≠ 36 → c ≠ 21 → m.1 c = mu.1 c) ∧ ∀ i, i ≠ 0 → i ≠ 6 → m.1 29 i = mu.1 29 i
theorem SGM.bar (h : SGM mu m) {b x y : Int} : SGM mu (jm_wr (jm_wr m 33 b x) 29 6 y) := by
  refine ⟨fun c c1 c2 c3 c4 => ?_, fun i i0 i6 => ?_⟩
  · funext i
    rw [jm_wrO c1, jm_wrO c2, h.1 c c1 c2 c3 c4]
  · rw [jm_wrI i6, jm_wrO (by decide), h.2 i i0 i6]
theorem SGM.draw (h : SGM mu m) {x : Int} : SGM mu (jm_wr m 29 0 x) := by
  refine ⟨fun c c1 c2 c3 c4 => ?_, fun i i0 i6 => ?_⟩
  · funext i
    rw [jm_wrO c1, h.1 c c1 c2 c3 c4]
  · rw [jm_wrI i0, h.2 i i0 i6]
theorem SGM.t (h : SGM mu m) {m' : jm_M} (t : jm_t 36 21 m m') : SGM mu m' := ⟨fun c c1 c2 c3 c4 => by rw [t c c3 c4, h.1 c c1 c2 c3 c4], fun i i0 i6 => by rw [t 29 (by decide) (by decide), h.2 i i0 i6]⟩
def SV (l : Launch) (gR : jm_G) (d : Nat) (w f key wh v fb : Int) (pc : Nat) (z i : Int) (nu : jm_M) (Q : Option Value → jm_M → Prop) : Prop := jm_V l gR (d + 7) iX12_sings pc [(0, .ref 0), (1, jm_i w), (2, jm_i f), (3, jm_i key), (4, jm_i wh), (5, jm_i v), (6, jm_i fb), (7, jm_i z), (8, jm_i i)] [] nu Q
theorem rs1 {a b : Int} (b1 : 1 ≤ b) (b9 : b ≤ 9) : (a + b) / b = a / b + 1 := by
  have h : b = 1 ∨ b = 2 ∨ b = 3 ∨ b = 4 ∨ b = 5 ∨ b = 6 ∨ b = 7 ∨ b = 8 ∨ b = 9 := by omega
  rcases h with h | h | h | h | h | h | h | h | h <;> · subst h; omega
theorem rs2 {i s b : Int} (b1 : 1 ≤ b) (b9 : b ≤ 9) (i1 : 0 < i) (s1 : 1 ≤ s) (sb : s ≤ b) (h : (i - s) % b = 0) : s = b ↔ i % b = 0 := by
  have h : b = 1 ∨ b = 2 ∨ b = 3 ∨ b = 4 ∨ b = 5 ∨ b = 6 ∨ b = 7 ∨ b = 8 ∨ b = 9 := by omega
  rcases h with h | h | h | h | h | h | h | h | h <;> · subst h; omega
theorem rs3 {a b : Int} (a0 : 0 ≤ a) (b1 : 1 ≤ b) : 0 ≤ a / b := Int.ediv_nonneg a0 (by omega)
theorem l_sing (hC : jm_HC gC) (hR : jm_HR gR) {w f key v fb : Int} (hs : sng mu w f key) (hA0 : IA mu nu) (hM0 : IM mu nu) (hv : v = clm mu w f) (j : Nat) : ∀ (m n : jm_M) (i : Nat) (s x z : Int), (i : Int) + j = mu.1 13 (mot mu w f) → Iv m n → SGM mu m → ((i = 0 ∧ s = 0) ∨ (0 < i ∧ 1 ≤ s ∧ s ≤ mu.1 9 w ∧ ((i : Int) - s) % mu.1 9 w = 0)) → (0 < j → m.1 29 6 + j + ((j : Int) - 1 + s) / mu.1 9 w ≤ 200) → (0 < j → x = key + 1 + abN (stf mu (mot mu w f)) i) → 0 ≤ z → z ≤ i → (∀ m' z', (∃ n', Iv m' n') → SGM mu m' → m.1 29 6 ≤ m'.1 29 6 → 0 ≤ z' → z' ≤ mu.1 13 (mot mu w f) → (∀ nu Q', Iv m nu → (∀ n', Iv m' n' → SV l gR d w f key (mot mu w f) v fb 30 z' (mu.1 13 (mot mu w f)) n' Q') → SV l gR d w f key (mot mu w f) v fb 30 z i nu Q') → Q (some (jm_i z')) m') → jm_V l gC (d + 6) iX2_singNotes 14 [(0, .ref 37), (1, jm_i w), (2, jm_i (mot mu w f)), (4, jm_i z), (5, jm_i s), (6, jm_i x), (7, jm_i i)] [] m Q := by
  obtain ⟨q, klo, khi⟩ := hs
  obtain ⟨⟨⟨w0, w1⟩, f0, f5⟩, em, nc, ⟨mo0, mo1⟩, nz⟩ := mot_in hA0 q
  have cb := clm_bd hA0 w f
  have W8 := hA0.1.2.1
  obtain ⟨L1, LH, H60, B1, B9, L3, H4, B5⟩ := hA0.2.1 w w0 w1
  obtain ⟨n0, n8, n17⟩ := hM0.2.1 (mot mu w f) mo0 mo1
  generalize hwh : mot mu w f = wh at *
  have e1 : wh / 4 = f := by omega
  have e2 : wh % 4 = v := by omega
  have hn : (nst mu wh : Int) = mu.1 13 wh - 1 := by unfold nst; omega
  unfold loK at klo
  unfold hiK at khi
  induction j with
  | zero =>
    intro m n i s x z hi J sg sr _ _ z0 zi h
    have e13 : m.1 13 = mu.1 13 := sg.1 13 (by decide) (by decide) (by decide) (by decide)
    refine bX2_singNotes_14 hC ⟨⟨mo0, mo1⟩, ⟨by omega, by omega⟩, fun _ => h m z ⟨n, J⟩ sg (Int.le_refl _) z0 (by omega) (fun nu' Q' J' h' => ?_), fun r => by rw [e13] at r; omega⟩
    have := h' nu' J'
    rwa [show mu.1 13 wh = (i : Int) by omega] at this
  | succ j ih =>
    intro m n i s x z hi J sg sr bd hx z0 zi h
    have e13 : m.1 13 = mu.1 13 := sg.1 13 (by decide) (by decide) (by decide) (by decide)
    have e9 : m.1 9 = mu.1 9 := sg.1 9 (by decide) (by decide) (by decide) (by decide)
    have hi1 : i ≤ nst mu wh := by omega
    have bd := bd (by omega)
    have hx := hx (by omega)
    have up := riN_le (stf mu wh) (nst mu wh) i hi1
    have dn := faN_le (stf mu wh) (nst mu wh) i hi1
    have ab := abN_bd (stf mu wh) (nst mu wh) (stf_bd hM0 mo0 mo1) i hi1
    have xb : 1 ≤ x ∧ x ≤ 60 := by omega
    have ir : jm_rg (i : Int) := ⟨by omega, by omega⟩
    have zr : jm_rg z := ⟨by omega, by omega⟩
    -- one note, behind the breath
    have body : ∀ (m1 n1 : jm_M) (s' : Int), Iv m1 n1 → SGM mu m1 → 0 ≤ s' → s' < mu.1 9 w → ((i : Int) - s') % mu.1 9 w = 0 → m1.1 29 6 + ((j : Int) + 1) + ((j : Int) + s') / mu.1 9 w ≤ 200 → m.1 29 6 ≤ m1.1 29 6 → (∀ nu Q', Iv m nu → (∀ n', Iv m1 n' → SV l gR d w f key wh v fb 63 z i n' Q') → SV l gR d w f key wh v fb 30 z i nu Q') → jm_V l gC (d + 6) iX2_singNotes 56 [(0, .ref 37), (1, jm_i w), (2, jm_i wh), (4, jm_i z), (5, jm_i s'), (6, jm_i x), (7, jm_i i)] [] m1 Q := by
      intro m1 n1 s' J1 sg1 s0 sb sd bd1 le1 co1
      have dq := rs3 (a := (j : Int) + s') (b := mu.1 9 w) (by omega) B1
      have b0 := J1.2.2.2.2.1.2.2.2.1
      have w1' : w < m1.1 6 0 := by rw [sg1.1 6 (by decide) (by decide) (by decide) (by decide)]; exact w1
      refine bX2_singNotes_56 hC (sX1_draw hC (by decide) (by decide) (jm_qiI (jm_tmB _ (by decide) (by decide)) ?_))
      generalize hst : jm_nm (m1.1 29 0 * 1664525 + 1013904223) = st
      have J2 := J1.draw st
      have sg2 := sg1.draw (x := st)
      have w2' : w < (jm_wr m1 29 0 st).1 6 0 := by rw [jm_wrO (by decide)]; exact w1'
      refine sX0_slipOf hC J2.1 J2.2.2.2.1 J2.2.2.2.2.1 w0 w2' mo0 mo1 ir ⟨by omega, by omega⟩ (fun m5 t5 => ?_)
      rw [e1, e2]
      generalize hsl : slp (jm_wr m1 29 0 st) w f v i x = sl
      have slb : 0 ≤ sl ∧ sl ≤ 1000 := by rw [← hsl]; unfold slp; omega
      have sg5 := sg2.t t5
      have e56 : m5.1 29 6 = m1.1 29 6 := by rw [t5 29 (by decide) (by decide), jm_wrI (by decide)]
      have J5 : Iv m5 _ := J2.ext t5.aC (jm_aR.rf _)
      have tail : ∀ fl bv : Int, ((fl = 0 ∧ bv = x ∧ sl ≤ Int.tmod (jm_ushr st 8) 1000) ∨ (fl = 1 ∧ bv = x - 1 ∧ Int.tmod (jm_ushr st 8) 1000 < sl)) → jm_V l gC (d + 6) iX2_singNotes 107 [(0, .ref 37), (1, jm_i w), (2, jm_i wh), (4, jm_i z), (5, jm_i s'), (6, jm_i x), (7, jm_i i), (8, jm_i fl)] [jm_i bv, .ref 29] m5 Q := by
        intro fl bv hf
        have bvb : 0 ≤ bv ∧ bv ≤ 60 := by omega
        have flb : 0 ≤ fl ∧ fl ≤ 1 := by omega
        have J6 := J5.bar (b := m1.1 29 6) (x := bv) e56 (by omega) bvb.1 bvb.2
        have sg6 := sg5.bar (b := m1.1 29 6) (x := bv) (y := m1.1 29 6 + 1)
        have go : jm_V l gC (d + 6) iX2_singNotes 122 [(0, .ref 37), (1, jm_i w), (2, jm_i wh), (5, jm_i s'), (6, jm_i x), (7, jm_i i)] [jm_i fl, jm_i z] (jm_wr (jm_wr m5 33 (m1.1 29 6) bv) 29 6 (m1.1 29 6 + 1)) Q := by
          refine bX2_singNotes_122 hC (fun x1 ex1 => ?_)
          have nxt : ∀ x6 : Int, (0 < j → x6 = key + 1 + abN (stf mu wh) (i + 1)) → jm_V l gC (d + 6) iX2_singNotes 14 [(0, .ref 37), (1, jm_i w), (2, jm_i wh), (4, jm_i x1), (5, jm_i (s' + 1)), (6, jm_i x6), (7, jm_i ((i : Int) + 1))] [] (jm_wr (jm_wr m5 33 (m1.1 29 6) bv) 29 6 (m1.1 29 6 + 1)) Q := by
            intro x6 hx6
            rw [show ((i : Int) + 1) = ((i + 1 : Nat) : Int) by omega]
            refine ih _ _ (i + 1) (s' + 1) x6 x1 (by omega) J6 sg6 (Or.inr ⟨by omega, by omega, by omega, ?_⟩) (fun j0 => ?_) hx6 (by omega) (by omega) (fun m' z' x' sg' le' z0' z1' co => h m' z' x' sg' ?_ z0' z1' (fun nu' Q' J' h' => ?_))
            · rw [show ((i + 1 : Nat) : Int) - (s' + 1) = (i : Int) - s' by omega]
              exact sd
            · rw [jm_wrS, show (j : Int) - 1 + (s' + 1) = (j : Int) + s' by omega]
              omega
            · rw [jm_wrS] at le'
              omega
            · refine co1 nu' Q' J' (fun n1' J1' => ?_)
              have st14 : m1.1 14 = mu.1 14 := sg1.1 14 (by decide) (by decide) (by decide) (by decide)
              have st13 : m1.1 13 = mu.1 13 := sg1.1 13 (by decide) (by decide) (by decide) (by decide)
              have eS : stf m1 wh = stf mu wh := by unfold stf; rw [st14]
              have eN : nst m1 wh = nst mu wh := by unfold nst; rw [st13]
              refine bX12_sings_63 hR (sX12_aboveOf hR J1'.2.1 mo0 mo1 (N := i) (by rw [eN]; exact hi1) ?_)
              rw [eS]
              refine jm_qiI ⟨by omega, by omega⟩ (fun x5 ex5 m6 em6 => ?_)
              rw [← hx] at ex5
              subst ex5
              have est : jm_nm (1664525 * n1'.1 1 1 + 1013904223) = st := by
                rw [J1'.2.2.2.2.1.2.1, Int.mul_comm]
                exact hst
              rw [est] at em6
              rw [est, jm_wrS]
              have J2' := J1'.draw st
              rw [← em6] at J2'
              refine sX12_slipOf hR J2'.1 J2'.2.2.2.1 J2'.2.2.2.2.1 w0 w2' ⟨by omega, by omega⟩ ⟨by omega, by omega⟩ ir ⟨by omega, by omega⟩ (fun n8' t8 => ?_)
              rw [hsl]
              have J5' : Iv m5 n8' := J2'.ext t5.aC t8.aR
              have J6' := J5'.bar (b := m1.1 29 6) (x := bv) e56 (by omega) bvb.1 bvb.2
              have b3 : n8'.1 1 3 = m1.1 29 6 := by rw [J5'.2.2.2.2.1.2.2.2.1.2.2, e56]
              have fin : ∀ fl2 : Int, fl2 = fl → jm_V l gR (d + 7) iX12_sings 121 [(0, .ref 0), (1, jm_i w), (2, jm_i f), (3, jm_i key), (4, jm_i wh), (5, jm_i v), (6, jm_i fb), (7, jm_i z), (8, jm_i i), (10, jm_i fl2)] [jm_i bv, .ref 0] n8' Q' := by
                intro fl2 hfl
                subst hfl
                refine bX12_sings_121 hR ⟨⟨by omega, by omega⟩, ⟨by omega, by omega⟩, ?_⟩
                rw [b3]
                have b3' : (jm_wr n8' 25 (m1.1 29 6) bv).1 1 3 = m1.1 29 6 := by rw [jm_wrO (by decide)]; exact b3
                rw [b3']
                refine ⟨⟨by omega, by omega⟩, fun m4 em4 => ?_⟩
                subst em4
                have go2 : SV l gR d w f key wh v fb 30 x1 ((i : Int) + 1) (jm_wr (jm_wr n8' 25 (m1.1 29 6) bv) 1 3 (m1.1 29 6 + 1)) Q' := by
                  rw [show ((i : Int) + 1) = ((i + 1 : Nat) : Int) by omega]
                  exact co _ Q' J6' h'
                refine ⟨⟨by omega, by omega⟩, fun r => ?_, fun r x7 ex7 => ?_⟩
                · rw [show z = x1 by omega]
                  exact go2
                · rw [show x7 = x1 by omega]
                  exact go2
              refine jm_qiI ⟨by omega, by omega⟩ ⟨jm_tmB _ (by decide) (by decide), fun r => ?_, fun r => ?_⟩
              · rcases hf with ⟨a1, a2, a3⟩ | ⟨a1, a2, a3⟩
                · rw [← a2]
                  exact fin 0 a1.symm
                · omega
              · rcases hf with ⟨a1, a2, a3⟩ | ⟨a1, a2, a3⟩
                · omega
                · rw [← a2]
                  exact fin 1 a1.symm
          by_cases q7 : (i : Int) ≤ 6
          · have e14 : (jm_wr (jm_wr m5 33 (m1.1 29 6) bv) 29 6 (m1.1 29 6 + 1)).1 14 = mu.1 14 := sg6.1 14 (by decide) (by decide) (by decide) (by decide)
            refine jm_RmrI (fun hm => sX5_stepOf hC ⟨mo0, by omega⟩ ⟨by omega, q7⟩ (jm_qiI (hm _ _) (fun x6 ex6 => nxt x6 (fun j0 => ?_))))
            rw [ex6, e14, hx, ← abN_st]
            show key + 1 + abN (stf mu wh) i + stf mu wh i = _
            omega
          · refine sX5_stepOf0 hC ⟨by omega, by omega⟩ ir (by omega) (jm_qiI ⟨by decide, by decide⟩ (fun x6 ex6 => nxt x6 (fun j0 => by omega)))
        refine bX2_singNotes_107 hC (sX1_addBar hC e56 b0.1 (by omega) ⟨by omega, by omega⟩ (jm_qvI ⟨⟨by omega, by omega⟩, fun r => ?_, fun r => ?_⟩))
        · rw [r] at go; exact go
        · rw [show fl = 1 by omega] at go; exact go
      refine jm_qiI ⟨by omega, by omega⟩ ⟨fun r => ?_, fun r => ?_⟩
      · exact bX2_singNotes_87 hC ⟨⟨by decide, by decide⟩, fun _ => tail 0 x (Or.inl ⟨rfl, rfl, r⟩), fun r => absurd rfl r⟩
      · exact bX2_singNotes_87 hC ⟨⟨by decide, by decide⟩, fun r => absurd r (by decide), fun _ => tail 1 (x - 1) (Or.inr ⟨rfl, rfl, r⟩)⟩
    have b0 := J.2.2.2.2.1.2.2.2.1
    have srb : 0 ≤ s ∧ s ≤ mu.1 9 w := by omega
    refine bX2_singNotes_14 hC ⟨⟨mo0, mo1⟩, ir, fun r => by rw [e13] at r; omega, fun _ => ⟨⟨w0, by omega⟩, ⟨by omega, by omega⟩, ?_⟩⟩
    rw [e9]
    refine ⟨fun r => ?_, fun r => ?_⟩
    · refine body m n s J sg srb.1 (by omega) ?_ ?_ (Int.le_refl _) (fun nu' Q' J' h' => ?_)
      · rcases sr with ⟨a, b⟩ | ⟨a, b, c, e⟩
        · rw [a, b]
          exact Int.zero_emod _
        · exact e
      · rw [show ((j + 1 : Nat) : Int) - 1 + s = (j : Int) + s by omega] at bd
        omega
      · have w17 : nu'.1 17 (8 * wh) = mu.1 13 wh := by rw [(J'.2.1.2.1 wh mo0 mo1).2.2, e13]
        refine bX12_sings_30 hR ⟨⟨by omega, by omega⟩, ir, fun r2 => by rw [w17] at r2; omega, fun _ => ⟨fun _ => h' nu' J', fun r2 => ⟨⟨w0, by omega⟩, ?_⟩⟩⟩
        have w5 : nu'.1 5 w = mu.1 9 w := by rw [(J'.1.2.1 w w0 (by rw [sg.1 6 (by decide) (by decide) (by decide) (by decide)]; exact w1)).2.2.2.2.2.2.2, e9]
        rw [w5, Int.tmod_eq_emod_of_nonneg (by omega)]
        have mb : 0 ≤ (i : Int) % mu.1 9 w ∧ (i : Int) % mu.1 9 w < mu.1 9 w := ⟨Int.emod_nonneg _ (by omega), Int.emod_lt_of_pos _ (by omega)⟩
        refine ⟨by omega, ⟨by omega, by omega⟩, fun _ => h' nu' J', fun r3 => ?_⟩
        rcases sr with ⟨a, b⟩ | ⟨a, b, c, e⟩
        · omega
        · exact absurd ((rs2 B1 B9 (by omega) b c e).2 r3) r
    · have i0 : 0 < i := by omega
      have sr' : 1 ≤ s ∧ ((i : Int) - s) % mu.1 9 w = 0 := by
        rcases sr with ⟨a, b⟩ | ⟨a, b, c, e⟩
        · omega
        · exact ⟨b, e⟩
      have im : (i : Int) % mu.1 9 w = 0 := (rs2 B1 B9 (by omega) sr'.1 srb.2 sr'.2).1 r
      have bd2 : m.1 29 6 + ((j : Int) + 1) + ((j : Int) / mu.1 9 w + 1) ≤ 200 := by
        rw [← rs1 B1 B9]
        rw [show ((j + 1 : Nat) : Int) - 1 + s = (j : Int) + mu.1 9 w by omega] at bd
        omega
      have dq := rs3 (a := (j : Int)) (b := mu.1 9 w) (by omega) B1
      refine sX1_addBar hC rfl b0.1 (by omega) ⟨by decide, by decide⟩ (jm_qvI ?_)
      refine body _ _ 0 (J.bar (b := m.1 29 6) (x := 0) rfl (by omega) (by decide) (by decide)) sg.bar (by decide) (by omega) (by rw [Int.sub_zero]; exact im) ?_ (by rw [jm_wrS]; omega) (fun nu' Q' J' h' => ?_)
      · rw [jm_wrS, Int.add_zero]
        omega
      · have w17 : nu'.1 17 (8 * wh) = mu.1 13 wh := by rw [(J'.2.1.2.1 wh mo0 mo1).2.2, e13]
        refine bX12_sings_30 hR ⟨⟨by omega, by omega⟩, ir, fun r2 => by rw [w17] at r2; omega, fun _ => ⟨fun r2 => by omega, fun r2 => ⟨⟨w0, by omega⟩, ?_⟩⟩⟩
        have w5 : nu'.1 5 w = mu.1 9 w := by rw [(J'.1.2.1 w w0 (by rw [sg.1 6 (by decide) (by decide) (by decide) (by decide)]; exact w1)).2.2.2.2.2.2.2, e9]
        rw [w5, Int.tmod_eq_emod_of_nonneg (by omega), im]
        refine ⟨by omega, ⟨by decide, by decide⟩, fun r3 => absurd rfl r3, fun _ => ?_⟩
        have b3 : nu'.1 1 3 = m.1 29 6 := J'.2.2.2.2.1.2.2.2.1.2.2
        rw [b3]
        have b3' : (jm_wr nu' 25 (m.1 29 6) 0).1 1 3 = m.1 29 6 := by rw [jm_wrO (by decide)]; exact b3
        rw [b3']
        refine ⟨⟨by omega, by omega⟩, ⟨by omega, by omega⟩, fun m49 e49 => ?_⟩
        rw [e49]
        exact h' _ (J'.bar (b := m.1 29 6) (x := 0) rfl (by omega) (by decide) (by decide))
end CL
