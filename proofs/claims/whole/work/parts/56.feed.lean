section FD
variable {l : Launch} {gC gR : jm_G} {d : Nat} {mu nu : jm_M} {v1 v2 v3 v4 v5 : Int} {Q : Option Value → jm_M → Prop}
/-- one sign more on a tape at cell b whose length is the field i of cell c -/
def jm_p1 (mu : jm_M) (b c : Nat) (i x : Int) : jm_M := jm_wr (jm_wr mu b (mu.1 c i) x) c i (mu.1 c i + 1)
def jm_by (v s : Int) : Int := jm_and (jm_shr v s) 255
def jm_p4 (mu : jm_M) (b c : Nat) (i v : Int) : jm_M := jm_p1 (jm_p1 (jm_p1 (jm_p1 mu b c i (jm_by v 24)) b c i (jm_by v 16)) b c i (jm_by v 8)) b c i (jm_by v 0)
theorem jm_p1L {b c : Nat} {i x : Int} : (jm_p1 mu b c i x).1 c i = mu.1 c i + 1 := by simp [jm_p1, jm_wr]
theorem jm_p4L {b c : Nat} {i v : Int} : (jm_p4 mu b c i v).1 c i = mu.1 c i + 4 := by
  unfold jm_p4
  rw [jm_p1L, jm_p1L, jm_p1L, jm_p1L]
  omega
theorem jm_p1ag {S : Nat → Int → Bool} {m n : jm_M} (h : jm_ag S m n) {b c : Nat} {i x : Int} (hb : ∀ k, S b k = false) (hc : S c i = false) : jm_ag S m (jm_p1 n b c i x) := (h.wr (hb _)).wr hc
theorem jm_p4ag {S : Nat → Int → Bool} {m n : jm_M} (h : jm_ag S m n) {b c : Nat} {i v : Int} (hb : ∀ k, S b k = false) (hc : S c i = false) : jm_ag S m (jm_p4 n b c i v) := jm_p1ag (jm_p1ag (jm_p1ag (jm_p1ag h hb hc) hb hc) hb hc) hb hc
theorem aX7 (hC : jm_HC gC) {s : Int} (hs : 0 ≤ s ∧ s ≤ 24) (x : Int) (hx : jm_and (jm_ushr v1 s) 255 = x) (h0 : 0 ≤ mu.1 1 1) (h4 : mu.1 1 1 < 400) (k : jm_V l gC (d + 1) iX7_addNumber 3 [(0, .ref 1), (1, jm_i v1), (2, jm_i (s + -8))] [] (jm_p1 mu 2 1 1 x) Q) : jm_V l gC (d + 1) iX7_addNumber 3 [(0, .ref 1), (1, jm_i v1), (2, jm_i s)] [] mu Q := by
  refine bX7_addNumber_3 hC ⟨⟨by omega, by omega⟩, fun r => by omega, fun _ => ⟨fun r => by omega, fun _ => ⟨⟨h0, h4⟩, fun m3 e3 => ?_⟩⟩⟩
  subst e3
  have e1 : (jm_wr mu 2 (mu.1 1 1) (jm_and (jm_ushr v1 s) 255)).1 1 1 = mu.1 1 1 := by simp [jm_wr]
  rw [e1]
  refine ⟨⟨by omega, by omega⟩, fun m6 e6 => ?_⟩
  subst e6
  subst hx
  exact k
theorem sX7_addNumber (hC : jm_HC gC) (h0 : 0 ≤ mu.1 1 1) (h4 : mu.1 1 1 ≤ 396) (h : Q none (jm_p4 mu 2 1 1 v1)) : jm_R l gC (d + 1) iX7_addNumber [.ref 1, jm_i v1] mu Q := by
  refine eX7_addNumber hC ?_
  refine aX7 hC (by omega) _ (jm_ush24 v1) h0 (by omega) ?_
  refine aX7 hC (by omega) _ (jm_ush16 v1) (by rw [jm_p1L]; omega) (by rw [jm_p1L]; omega) ?_
  refine aX7 hC (by omega) _ (jm_ush8 v1) (by rw [jm_p1L, jm_p1L]; omega) (by rw [jm_p1L, jm_p1L]; omega) ?_
  refine aX7 hC (by omega) _ (jm_ush0 v1) (by rw [jm_p1L, jm_p1L, jm_p1L]; omega) (by rw [jm_p1L, jm_p1L, jm_p1L]; omega) ?_
  exact bX7_addNumber_3 hC ⟨⟨by decide, by decide⟩, fun _ => h, fun r => absurd r (by decide)⟩
theorem aX12 (hR : jm_HR gR) {s : Int} (hs : 0 ≤ s ∧ s ≤ 24) (h0 : 0 ≤ nu.1 0 13) (h4 : nu.1 0 13 < 400) (k : jm_V l gR (d + 1) iX12_types 3 [(0, .ref 0), (1, jm_i v1), (2, jm_i (s + -8))] [] (jm_p1 nu 7 0 13 (jm_by v1 s)) Q) : jm_V l gR (d + 1) iX12_types 3 [(0, .ref 0), (1, jm_i v1), (2, jm_i s)] [] nu Q := by
  refine bX12_types_3 hR ⟨⟨by omega, by omega⟩, fun r => by omega, fun _ => ⟨⟨h0, h4⟩, fun m3 e3 => ?_⟩⟩
  subst e3
  have e1 : (jm_wr nu 7 (nu.1 0 13) (jm_and (jm_shr v1 s) 255)).1 0 13 = nu.1 0 13 := by simp [jm_wr]
  rw [e1]
  refine ⟨⟨by omega, by omega⟩, fun m6 e6 => ?_⟩
  subst e6
  exact k
theorem sX12_types (hR : jm_HR gR) (h0 : 0 ≤ nu.1 0 13) (h4 : nu.1 0 13 ≤ 396) (h : Q none (jm_p4 nu 7 0 13 v1)) : jm_R l gR (d + 1) iX12_types [.ref 0, jm_i v1] nu Q := by
  refine eX12_types hR ?_
  refine aX12 hR (by omega) h0 (by omega) ?_
  refine aX12 hR (by omega) (by rw [jm_p1L]; omega) (by rw [jm_p1L]; omega) ?_
  refine aX12 hR (by omega) (by rw [jm_p1L, jm_p1L]; omega) (by rw [jm_p1L, jm_p1L]; omega) ?_
  refine aX12 hR (by omega) (by rw [jm_p1L, jm_p1L, jm_p1L]; omega) (by rw [jm_p1L, jm_p1L, jm_p1L]; omega) ?_
  exact bX12_types_3 hR ⟨⟨by decide, by decide⟩, fun _ => h, fun r => absurd r (by decide)⟩
theorem IT.p1 (h : IT mu nu) (h4 : mu.1 1 1 < 400) {x : Int} (hx : 0 ≤ x ∧ x ≤ 255) : IT (jm_p1 mu 2 1 1 x) (jm_p1 nu 7 0 13 x) := by
  obtain ⟨⟨t1, t2, t3⟩, f1, f2, f3, f4⟩ := h
  refine ⟨⟨by rw [jm_p1L]; omega, by rw [jm_p1L]; omega, by rw [jm_p1L, jm_p1L]; omega⟩, by simpa [jm_p1, jm_wr] using f1, by simpa [jm_p1, jm_wr] using f2, fun k k0 k1 => ?_, by simpa [jm_p1, jm_wr] using f4⟩
  rw [jm_p1L] at k1
  by_cases hk : k = mu.1 1 1
  · subst hk
    simp [jm_p1, jm_wr, t3]
    omega
  · have := f3 k k0 (by omega)
    simpa [jm_p1, jm_wr, t3, hk] using this
theorem IT.p4 (h : IT mu nu) (h4 : mu.1 1 1 ≤ 396) : IT (jm_p4 mu 2 1 1 v1) (jm_p4 nu 7 0 13 v1) := by
  have a1 := h.p1 (by omega) (x := jm_by v1 24) (jm_and255 _)
  have a2 := a1.p1 (by rw [jm_p1L]; omega) (x := jm_by v1 16) (jm_and255 _)
  have a3 := a2.p1 (by rw [jm_p1L, jm_p1L]; omega) (x := jm_by v1 8) (jm_and255 _)
  exact a3.p1 (by rw [jm_p1L, jm_p1L, jm_p1L]; omega) (x := jm_by v1 0) (jm_and255 _)
def jm_p20 (mu : jm_M) (b c : Nat) (i v1 v2 v3 v4 v5 : Int) : jm_M := jm_p4 (jm_p4 (jm_p4 (jm_p4 (jm_p4 mu b c i v1) b c i v2) b c i v3) b c i v4) b c i v5
theorem sim_feed (hC : jm_HC gC) (hR : jm_HR gR) (hI : Iv mu nu) (h1 : jm_rg v1) (h2 : jm_rg v2) (h3 : jm_rg v3) (h4 : jm_rg v4) (h5 : jm_rg v5) : jm_sim l gC gR (d + 2) (d + 2) iX11_feed iX12_feed [jm_i v1, jm_i v2, jm_i v3, jm_i v4, jm_i v5] mu nu := by
  have t0 := hI.t0.2.2.2.2.2.2.2
  obtain ⟨t1, t2, t3⟩ := t0.1
  refine eX11_feed hC ⟨⟨by omega, by omega⟩, fun q => ?_, fun q => ?_⟩
  · refine sX7_addNumber hC t1 (by omega) (jm_qvI ?_)
    refine sX7_addNumber hC (by rw [jm_p4L]; omega) (by rw [jm_p4L]; omega) (jm_qvI ?_)
    refine sX7_addNumber hC (by rw [jm_p4L, jm_p4L]; omega) (by rw [jm_p4L, jm_p4L]; omega) (jm_qvI ?_)
    refine sX7_addNumber hC (by rw [jm_p4L, jm_p4L, jm_p4L]; omega) (by rw [jm_p4L, jm_p4L, jm_p4L]; omega) (jm_qvI ?_)
    refine sX7_addNumber hC (by rw [jm_p4L, jm_p4L, jm_p4L, jm_p4L]; omega) (by rw [jm_p4L, jm_p4L, jm_p4L, jm_p4L]; omega) (jm_qvI ?_)
    have eL : (jm_p20 mu 2 1 1 v1 v2 v3 v4 v5).1 1 1 = mu.1 1 1 + 20 := by
      unfold jm_p20
      rw [jm_p4L, jm_p4L, jm_p4L, jm_p4L, jm_p4L]
      omega
    refine jm_qiI (by show jm_rg ((jm_p20 mu 2 1 1 v1 v2 v3 v4 v5).1 1 1); rw [eL]; exact ⟨by omega, by omega⟩) (eX12_feed hR (fun m1 e1 => ?_))
    subst e1
    refine ⟨fun _ => ?_, fun r => by omega⟩
    refine sX12_types hR (by omega) (by omega) (jm_qvI ?_)
    refine sX12_types hR (by rw [jm_p4L]; omega) (by rw [jm_p4L]; omega) (jm_qvI ?_)
    refine sX12_types hR (by rw [jm_p4L, jm_p4L]; omega) (by rw [jm_p4L, jm_p4L]; omega) (jm_qvI ?_)
    refine sX12_types hR (by rw [jm_p4L, jm_p4L, jm_p4L]; omega) (by rw [jm_p4L, jm_p4L, jm_p4L]; omega) (jm_qvI ?_)
    refine sX12_types hR (by rw [jm_p4L, jm_p4L, jm_p4L, jm_p4L]; omega) (by rw [jm_p4L, jm_p4L, jm_p4L, jm_p4L]; omega) (jm_qvI ?_)
    have a5 : IT (jm_p20 mu 2 1 1 v1 v2 v3 v4 v5) (jm_p20 (jm_wr nu 0 0 0) 7 0 13 v1 v2 v3 v4 v5) := by
      have b1 := t0.p4 (v1 := v1) (by omega)
      have b2 := b1.p4 (v1 := v2) (by rw [jm_p4L]; omega)
      have b3 := b2.p4 (v1 := v3) (by rw [jm_p4L, jm_p4L]; omega)
      have b4 := b3.p4 (v1 := v4) (by rw [jm_p4L, jm_p4L, jm_p4L]; omega)
      exact b4.p4 (v1 := v5) (by rw [jm_p4L, jm_p4L, jm_p4L, jm_p4L]; omega)
    have gc : ∀ {S : Nat → Int → Bool}, (∀ k, S 2 k = false) → S 1 1 = false → jm_ag S mu (jm_p20 mu 2 1 1 v1 v2 v3 v4 v5) := fun x y => jm_p4ag (jm_p4ag (jm_p4ag (jm_p4ag (jm_p4ag jm_ag.rf x y) x y) x y) x y) x y
    have gr : ∀ {S : Nat → Int → Bool}, (∀ k, S 7 k = false) → S 0 13 = false → jm_ag S (jm_wr nu 0 0 0) (jm_p20 (jm_wr nu 0 0 0) 7 0 13 v1 v2 v3 v4 v5) := fun x y => jm_p4ag (jm_p4ag (jm_p4ag (jm_p4ag (jm_p4ag jm_ag.rf x y) x y) x y) x y) x y
    obtain ⟨i1, i2, i3, i4, i5, i6, i7, i8⟩ := hI.t0
    exact jm_fin (z := (jm_p20 mu 2 1 1 v1 v2 v3 v4 v5).1 1 1) (by rw [eL]; exact ⟨by omega, by omega⟩) a5.1.2.2 ⟨i1.ag (gc (fun _ => rfl) rfl) (gr (fun _ => rfl) rfl), i2.ag (gc (fun _ => rfl) rfl) (gr (fun _ => rfl) rfl), i3.ag (gc (fun _ => rfl) rfl) (gr (fun _ => rfl) rfl), i4.ag (gc (fun _ => rfl) rfl) (gr (fun _ => rfl) rfl), i5.ag (gc (fun _ => rfl) rfl) (gr (fun _ => rfl) rfl), i6.ag (gc (fun _ => rfl) rfl) (gr (fun _ => rfl) rfl), i7.ag (gc (fun _ => rfl) rfl) (gr (fun _ => rfl) rfl), a5⟩
  · refine jm_qiI ⟨by decide, by decide⟩ (eX12_feed hR (fun m1 e1 => ?_))
    subst e1
    exact ⟨fun r => by omega, fun _ => jm_fin ⟨by decide, by decide⟩ rfl hI.t0⟩
end FD
