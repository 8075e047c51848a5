section IG
variable {l : Launch} {gC gR : jm_G} {d : Nat} {mu nu m n : jm_M} {v1 v2 v3 v4 v5 v6 : Int} {Q : Option Value → jm_M → Prop}
def TLD (s t : Nat) (mu m : jm_M) : Prop := (∀ c i, clP c i → m.1 (c + t) i = mu.1 (c + s) i) ∧ ∀ k, k < 6 + t ∨ 34 + t < k → m.1 k = mu.1 k
theorem sX8_copyFrom_64_6 (hC : jm_HC gC) (h : ∀ m, TLD 0 58 mu m → Q none m) : jm_R l gC (d + 2) iX8_copyFrom [.ref 64, .ref 6] mu Q := by
  refine eX8_copyFrom_64_6 hC (fun m1 e1 m3 e3 m5 e5 m7 e7 m9 e9 m11 e11 m13 e13 m15 e15 m17 e17 m19 e19 m21 e21 => ?_)
  obtain ⟨a1, f1⟩ : ∃ a, a = jm_wr m19 70 0 (m19.1 12 0) := ⟨_, rfl⟩
  obtain ⟨a2, f2⟩ : ∃ a, a = jm_cp a1 13 0 71 0 24 := ⟨_, rfl⟩
  rw [← f1, ← f2] at e21
  refine eX3_copyFrom_73_15 hC (fun b1 g1 b3 g3 b5 g5 b7 g7 b9 g9 b11 g11 b13 g13 => jm_qvI ?_)
  refine eX6_copyFrom_80_22 hC (fun c1 h1 c3 h3 c5 h5 c7 h7 c9 h9 => jm_qvI (h c9 ?_))
  have K := CPD.rf 0 58 mu
  replace K := K.st (Or.inl rfl) (a := 6) (by decide) rfl rfl (OPC.wr e1)
  replace K := K.st (Or.inl rfl) (a := 7) (by decide) rfl rfl (OPC.cp e3)
  replace K := K.st (Or.inl rfl) (a := 8) (by decide) rfl rfl (OPC.cp e5)
  replace K := K.st (Or.inl rfl) (a := 9) (by decide) rfl rfl (OPC.cp e7)
  replace K := K.st (Or.inl rfl) (a := 10) (by decide) rfl rfl (OPC.cp e9)
  replace K := K.st (Or.inl rfl) (a := 6) (by decide) rfl rfl (OPC.wr e11)
  replace K := K.st (Or.inl rfl) (a := 6) (by decide) rfl rfl (OPC.wr e13)
  replace K := K.st (Or.inl rfl) (a := 6) (by decide) rfl rfl (OPC.wr e15)
  replace K := K.st (Or.inl rfl) (a := 6) (by decide) rfl rfl (OPC.wr e17)
  replace K := K.st (Or.inl rfl) (a := 11) (by decide) rfl rfl (OPC.cp e19)
  replace K := K.st (Or.inl rfl) (a := 12) (by decide) rfl rfl (OPC.wr f1)
  replace K := K.st (Or.inl rfl) (a := 13) (by decide) rfl rfl (OPC.cp f2)
  replace K := K.st (Or.inl rfl) (a := 14) (by decide) rfl rfl (OPC.cp e21)
  replace K := K.st (Or.inl rfl) (a := 15) (by decide) rfl rfl (OPC.wr g1)
  replace K := K.st (Or.inl rfl) (a := 15) (by decide) rfl rfl (OPC.wr g3)
  replace K := K.st (Or.inl rfl) (a := 16) (by decide) rfl rfl (OPC.cp g5)
  replace K := K.st (Or.inl rfl) (a := 17) (by decide) rfl rfl (OPC.cp g7)
  replace K := K.st (Or.inl rfl) (a := 18) (by decide) rfl rfl (OPC.cp g9)
  replace K := K.st (Or.inl rfl) (a := 19) (by decide) rfl rfl (OPC.cp g11)
  replace K := K.st (Or.inl rfl) (a := 20) (by decide) rfl rfl (OPC.cp g13)
  replace K := K.st (Or.inl rfl) (a := 22) (by decide) rfl rfl (OPC.wr h1)
  replace K := K.st (Or.inl rfl) (a := 23) (by decide) rfl rfl (OPC.cp h3)
  replace K := K.st (Or.inl rfl) (a := 24) (by decide) rfl rfl (OPC.cp h5)
  replace K := K.st (Or.inl rfl) (a := 25) (by decide) rfl rfl (OPC.cp h7)
  replace K := K.st (Or.inl rfl) (a := 26) (by decide) rfl rfl (OPC.cp h9)
  refine ⟨fun c i h => ?_, fun k hk => funext fun i => K.2.2 k i (fun c e z => ?_)⟩
  · clear e1 e3 e5 e7 e9 e11 e13 e15 e17 e19 e21 f1 f2 g1 g3 g5 g7 g9 g11 g13 h1 h3 h5 h7 h9
    unfold clP at h
    rcases h with ⟨rfl, h⟩ | ⟨h1, h⟩ | ⟨rfl, h⟩ | ⟨rfl, h⟩ | ⟨rfl, h⟩ | ⟨rfl, h⟩ | ⟨rfl, h⟩ | ⟨rfl, h⟩ | ⟨rfl, h⟩ | ⟨h1, h⟩ | ⟨rfl, h⟩ | ⟨h1, h⟩
    · rcases h with rfl | rfl | rfl | rfl | rfl
      · exact K.2.1 6 0 (Or.inl (Or.inl (Or.inl (Or.inl (Or.inl (Or.inl (Or.inl (Or.inl (Or.inl (Or.inl (Or.inl (Or.inl (Or.inl (Or.inl (Or.inl (Or.inl (Or.inl (Or.inl (Or.inl (Or.inl (Or.inl (Or.inl (Or.inl (Or.inl (Or.inr ⟨rfl, by decide, by decide⟩)))))))))))))))))))))))))
      · exact K.2.1 6 5 (Or.inl (Or.inl (Or.inl (Or.inl (Or.inl (Or.inl (Or.inl (Or.inl (Or.inl (Or.inl (Or.inl (Or.inl (Or.inl (Or.inl (Or.inl (Or.inl (Or.inl (Or.inl (Or.inl (Or.inr ⟨rfl, by decide, by decide⟩))))))))))))))))))))
      · exact K.2.1 6 6 (Or.inl (Or.inl (Or.inl (Or.inl (Or.inl (Or.inl (Or.inl (Or.inl (Or.inl (Or.inl (Or.inl (Or.inl (Or.inl (Or.inl (Or.inl (Or.inl (Or.inl (Or.inl (Or.inr ⟨rfl, by decide, by decide⟩)))))))))))))))))))
      · exact K.2.1 6 7 (Or.inl (Or.inl (Or.inl (Or.inl (Or.inl (Or.inl (Or.inl (Or.inl (Or.inl (Or.inl (Or.inl (Or.inl (Or.inl (Or.inl (Or.inl (Or.inl (Or.inl (Or.inr ⟨rfl, by decide, by decide⟩))))))))))))))))))
      · exact K.2.1 6 8 (Or.inl (Or.inl (Or.inl (Or.inl (Or.inl (Or.inl (Or.inl (Or.inl (Or.inl (Or.inl (Or.inl (Or.inl (Or.inl (Or.inl (Or.inl (Or.inl (Or.inr ⟨rfl, by decide, by decide⟩)))))))))))))))))
    · rcases h1 with rfl | rfl | rfl
      · exact K.2.1 7 i (Or.inl (Or.inl (Or.inl (Or.inl (Or.inl (Or.inl (Or.inl (Or.inl (Or.inl (Or.inl (Or.inl (Or.inl (Or.inl (Or.inl (Or.inl (Or.inl (Or.inl (Or.inl (Or.inl (Or.inl (Or.inl (Or.inl (Or.inl (Or.inr ⟨rfl, by omega, by omega⟩))))))))))))))))))))))))
      · exact K.2.1 8 i (Or.inl (Or.inl (Or.inl (Or.inl (Or.inl (Or.inl (Or.inl (Or.inl (Or.inl (Or.inl (Or.inl (Or.inl (Or.inl (Or.inl (Or.inl (Or.inl (Or.inl (Or.inl (Or.inl (Or.inl (Or.inl (Or.inl (Or.inr ⟨rfl, by omega, by omega⟩)))))))))))))))))))))))
      · exact K.2.1 9 i (Or.inl (Or.inl (Or.inl (Or.inl (Or.inl (Or.inl (Or.inl (Or.inl (Or.inl (Or.inl (Or.inl (Or.inl (Or.inl (Or.inl (Or.inl (Or.inl (Or.inl (Or.inl (Or.inl (Or.inl (Or.inl (Or.inr ⟨rfl, by omega, by omega⟩))))))))))))))))))))))
    · exact K.2.1 10 i (Or.inl (Or.inl (Or.inl (Or.inl (Or.inl (Or.inl (Or.inl (Or.inl (Or.inl (Or.inl (Or.inl (Or.inl (Or.inl (Or.inl (Or.inl (Or.inl (Or.inl (Or.inl (Or.inl (Or.inl (Or.inr ⟨rfl, by omega, by omega⟩)))))))))))))))))))))
    · exact K.2.1 11 i (Or.inl (Or.inl (Or.inl (Or.inl (Or.inl (Or.inl (Or.inl (Or.inl (Or.inl (Or.inl (Or.inl (Or.inl (Or.inl (Or.inl (Or.inl (Or.inr ⟨rfl, by omega, by omega⟩))))))))))))))))
    · exact K.2.1 12 i (Or.inl (Or.inl (Or.inl (Or.inl (Or.inl (Or.inl (Or.inl (Or.inl (Or.inl (Or.inl (Or.inl (Or.inl (Or.inl (Or.inl (Or.inr ⟨rfl, by omega, by omega⟩)))))))))))))))
    · exact K.2.1 13 i (Or.inl (Or.inl (Or.inl (Or.inl (Or.inl (Or.inl (Or.inl (Or.inl (Or.inl (Or.inl (Or.inl (Or.inl (Or.inl (Or.inr ⟨rfl, by omega, by omega⟩))))))))))))))
    · exact K.2.1 14 i (Or.inl (Or.inl (Or.inl (Or.inl (Or.inl (Or.inl (Or.inl (Or.inl (Or.inl (Or.inl (Or.inl (Or.inl (Or.inr ⟨rfl, by omega, by omega⟩)))))))))))))
    · rcases h with rfl | rfl
      · exact K.2.1 15 0 (Or.inl (Or.inl (Or.inl (Or.inl (Or.inl (Or.inl (Or.inl (Or.inl (Or.inl (Or.inl (Or.inl (Or.inr ⟨rfl, by decide, by decide⟩))))))))))))
      · exact K.2.1 15 1 (Or.inl (Or.inl (Or.inl (Or.inl (Or.inl (Or.inl (Or.inl (Or.inl (Or.inl (Or.inl (Or.inr ⟨rfl, by decide, by decide⟩)))))))))))
    · exact K.2.1 16 i (Or.inl (Or.inl (Or.inl (Or.inl (Or.inl (Or.inl (Or.inl (Or.inl (Or.inl (Or.inr ⟨rfl, by omega, by omega⟩))))))))))
    · rcases h1 with rfl | rfl | rfl | rfl
      · exact K.2.1 17 i (Or.inl (Or.inl (Or.inl (Or.inl (Or.inl (Or.inl (Or.inl (Or.inl (Or.inr ⟨rfl, by omega, by omega⟩)))))))))
      · exact K.2.1 18 i (Or.inl (Or.inl (Or.inl (Or.inl (Or.inl (Or.inl (Or.inl (Or.inr ⟨rfl, by omega, by omega⟩))))))))
      · exact K.2.1 19 i (Or.inl (Or.inl (Or.inl (Or.inl (Or.inl (Or.inl (Or.inr ⟨rfl, by omega, by omega⟩)))))))
      · exact K.2.1 20 i (Or.inl (Or.inl (Or.inl (Or.inl (Or.inl (Or.inr ⟨rfl, by omega, by omega⟩))))))
    · exact K.2.1 22 i (Or.inl (Or.inl (Or.inl (Or.inl (Or.inr ⟨rfl, by omega, by omega⟩)))))
    · rcases h1 with rfl | rfl | rfl | rfl
      · exact K.2.1 23 i (Or.inl (Or.inl (Or.inl (Or.inr ⟨rfl, by omega, by omega⟩))))
      · exact K.2.1 24 i (Or.inl (Or.inl (Or.inr ⟨rfl, by omega, by omega⟩)))
      · exact K.2.1 25 i (Or.inl (Or.inr ⟨rfl, by omega, by omega⟩))
      · exact K.2.1 26 i (Or.inr ⟨rfl, by omega, by omega⟩)
  · have := K.1 c i z
    omega
theorem sX8_copyFrom_6_64 (hC : jm_HC gC) (h : ∀ m, TLD 58 0 mu m → Q none m) : jm_R l gC (d + 2) iX8_copyFrom [.ref 6, .ref 64] mu Q := by
  refine eX8_copyFrom_6_64 hC (fun m1 e1 m3 e3 m5 e5 m7 e7 m9 e9 m11 e11 m13 e13 m15 e15 m17 e17 m19 e19 m21 e21 => ?_)
  obtain ⟨a1, f1⟩ : ∃ a, a = jm_wr m19 12 0 (m19.1 70 0) := ⟨_, rfl⟩
  obtain ⟨a2, f2⟩ : ∃ a, a = jm_cp a1 71 0 13 0 24 := ⟨_, rfl⟩
  rw [← f1, ← f2] at e21
  refine eX3_copyFrom_15_73 hC (fun b1 g1 b3 g3 b5 g5 b7 g7 b9 g9 b11 g11 b13 g13 => jm_qvI ?_)
  refine eX6_copyFrom_22_80 hC (fun c1 h1 c3 h3 c5 h5 c7 h7 c9 h9 => jm_qvI (h c9 ?_))
  have K := CPD.rf 58 0 mu
  replace K := K.st (Or.inr rfl) (a := 6) (by decide) rfl rfl (OPC.wr e1)
  replace K := K.st (Or.inr rfl) (a := 7) (by decide) rfl rfl (OPC.cp e3)
  replace K := K.st (Or.inr rfl) (a := 8) (by decide) rfl rfl (OPC.cp e5)
  replace K := K.st (Or.inr rfl) (a := 9) (by decide) rfl rfl (OPC.cp e7)
  replace K := K.st (Or.inr rfl) (a := 10) (by decide) rfl rfl (OPC.cp e9)
  replace K := K.st (Or.inr rfl) (a := 6) (by decide) rfl rfl (OPC.wr e11)
  replace K := K.st (Or.inr rfl) (a := 6) (by decide) rfl rfl (OPC.wr e13)
  replace K := K.st (Or.inr rfl) (a := 6) (by decide) rfl rfl (OPC.wr e15)
  replace K := K.st (Or.inr rfl) (a := 6) (by decide) rfl rfl (OPC.wr e17)
  replace K := K.st (Or.inr rfl) (a := 11) (by decide) rfl rfl (OPC.cp e19)
  replace K := K.st (Or.inr rfl) (a := 12) (by decide) rfl rfl (OPC.wr f1)
  replace K := K.st (Or.inr rfl) (a := 13) (by decide) rfl rfl (OPC.cp f2)
  replace K := K.st (Or.inr rfl) (a := 14) (by decide) rfl rfl (OPC.cp e21)
  replace K := K.st (Or.inr rfl) (a := 15) (by decide) rfl rfl (OPC.wr g1)
  replace K := K.st (Or.inr rfl) (a := 15) (by decide) rfl rfl (OPC.wr g3)
  replace K := K.st (Or.inr rfl) (a := 16) (by decide) rfl rfl (OPC.cp g5)
  replace K := K.st (Or.inr rfl) (a := 17) (by decide) rfl rfl (OPC.cp g7)
  replace K := K.st (Or.inr rfl) (a := 18) (by decide) rfl rfl (OPC.cp g9)
  replace K := K.st (Or.inr rfl) (a := 19) (by decide) rfl rfl (OPC.cp g11)
  replace K := K.st (Or.inr rfl) (a := 20) (by decide) rfl rfl (OPC.cp g13)
  replace K := K.st (Or.inr rfl) (a := 22) (by decide) rfl rfl (OPC.wr h1)
  replace K := K.st (Or.inr rfl) (a := 23) (by decide) rfl rfl (OPC.cp h3)
  replace K := K.st (Or.inr rfl) (a := 24) (by decide) rfl rfl (OPC.cp h5)
  replace K := K.st (Or.inr rfl) (a := 25) (by decide) rfl rfl (OPC.cp h7)
  replace K := K.st (Or.inr rfl) (a := 26) (by decide) rfl rfl (OPC.cp h9)
  refine ⟨fun c i h => ?_, fun k hk => funext fun i => K.2.2 k i (fun c e z => ?_)⟩
  · clear e1 e3 e5 e7 e9 e11 e13 e15 e17 e19 e21 f1 f2 g1 g3 g5 g7 g9 g11 g13 h1 h3 h5 h7 h9
    unfold clP at h
    rcases h with ⟨rfl, h⟩ | ⟨h1, h⟩ | ⟨rfl, h⟩ | ⟨rfl, h⟩ | ⟨rfl, h⟩ | ⟨rfl, h⟩ | ⟨rfl, h⟩ | ⟨rfl, h⟩ | ⟨rfl, h⟩ | ⟨h1, h⟩ | ⟨rfl, h⟩ | ⟨h1, h⟩
    · rcases h with rfl | rfl | rfl | rfl | rfl
      · exact K.2.1 6 0 (Or.inl (Or.inl (Or.inl (Or.inl (Or.inl (Or.inl (Or.inl (Or.inl (Or.inl (Or.inl (Or.inl (Or.inl (Or.inl (Or.inl (Or.inl (Or.inl (Or.inl (Or.inl (Or.inl (Or.inl (Or.inl (Or.inl (Or.inl (Or.inl (Or.inr ⟨rfl, by decide, by decide⟩)))))))))))))))))))))))))
      · exact K.2.1 6 5 (Or.inl (Or.inl (Or.inl (Or.inl (Or.inl (Or.inl (Or.inl (Or.inl (Or.inl (Or.inl (Or.inl (Or.inl (Or.inl (Or.inl (Or.inl (Or.inl (Or.inl (Or.inl (Or.inl (Or.inr ⟨rfl, by decide, by decide⟩))))))))))))))))))))
      · exact K.2.1 6 6 (Or.inl (Or.inl (Or.inl (Or.inl (Or.inl (Or.inl (Or.inl (Or.inl (Or.inl (Or.inl (Or.inl (Or.inl (Or.inl (Or.inl (Or.inl (Or.inl (Or.inl (Or.inl (Or.inr ⟨rfl, by decide, by decide⟩)))))))))))))))))))
      · exact K.2.1 6 7 (Or.inl (Or.inl (Or.inl (Or.inl (Or.inl (Or.inl (Or.inl (Or.inl (Or.inl (Or.inl (Or.inl (Or.inl (Or.inl (Or.inl (Or.inl (Or.inl (Or.inl (Or.inr ⟨rfl, by decide, by decide⟩))))))))))))))))))
      · exact K.2.1 6 8 (Or.inl (Or.inl (Or.inl (Or.inl (Or.inl (Or.inl (Or.inl (Or.inl (Or.inl (Or.inl (Or.inl (Or.inl (Or.inl (Or.inl (Or.inl (Or.inl (Or.inr ⟨rfl, by decide, by decide⟩)))))))))))))))))
    · rcases h1 with rfl | rfl | rfl
      · exact K.2.1 7 i (Or.inl (Or.inl (Or.inl (Or.inl (Or.inl (Or.inl (Or.inl (Or.inl (Or.inl (Or.inl (Or.inl (Or.inl (Or.inl (Or.inl (Or.inl (Or.inl (Or.inl (Or.inl (Or.inl (Or.inl (Or.inl (Or.inl (Or.inl (Or.inr ⟨rfl, by omega, by omega⟩))))))))))))))))))))))))
      · exact K.2.1 8 i (Or.inl (Or.inl (Or.inl (Or.inl (Or.inl (Or.inl (Or.inl (Or.inl (Or.inl (Or.inl (Or.inl (Or.inl (Or.inl (Or.inl (Or.inl (Or.inl (Or.inl (Or.inl (Or.inl (Or.inl (Or.inl (Or.inl (Or.inr ⟨rfl, by omega, by omega⟩)))))))))))))))))))))))
      · exact K.2.1 9 i (Or.inl (Or.inl (Or.inl (Or.inl (Or.inl (Or.inl (Or.inl (Or.inl (Or.inl (Or.inl (Or.inl (Or.inl (Or.inl (Or.inl (Or.inl (Or.inl (Or.inl (Or.inl (Or.inl (Or.inl (Or.inl (Or.inr ⟨rfl, by omega, by omega⟩))))))))))))))))))))))
    · exact K.2.1 10 i (Or.inl (Or.inl (Or.inl (Or.inl (Or.inl (Or.inl (Or.inl (Or.inl (Or.inl (Or.inl (Or.inl (Or.inl (Or.inl (Or.inl (Or.inl (Or.inl (Or.inl (Or.inl (Or.inl (Or.inl (Or.inr ⟨rfl, by omega, by omega⟩)))))))))))))))))))))
    · exact K.2.1 11 i (Or.inl (Or.inl (Or.inl (Or.inl (Or.inl (Or.inl (Or.inl (Or.inl (Or.inl (Or.inl (Or.inl (Or.inl (Or.inl (Or.inl (Or.inl (Or.inr ⟨rfl, by omega, by omega⟩))))))))))))))))
    · exact K.2.1 12 i (Or.inl (Or.inl (Or.inl (Or.inl (Or.inl (Or.inl (Or.inl (Or.inl (Or.inl (Or.inl (Or.inl (Or.inl (Or.inl (Or.inl (Or.inr ⟨rfl, by omega, by omega⟩)))))))))))))))
    · exact K.2.1 13 i (Or.inl (Or.inl (Or.inl (Or.inl (Or.inl (Or.inl (Or.inl (Or.inl (Or.inl (Or.inl (Or.inl (Or.inl (Or.inl (Or.inr ⟨rfl, by omega, by omega⟩))))))))))))))
    · exact K.2.1 14 i (Or.inl (Or.inl (Or.inl (Or.inl (Or.inl (Or.inl (Or.inl (Or.inl (Or.inl (Or.inl (Or.inl (Or.inl (Or.inr ⟨rfl, by omega, by omega⟩)))))))))))))
    · rcases h with rfl | rfl
      · exact K.2.1 15 0 (Or.inl (Or.inl (Or.inl (Or.inl (Or.inl (Or.inl (Or.inl (Or.inl (Or.inl (Or.inl (Or.inl (Or.inr ⟨rfl, by decide, by decide⟩))))))))))))
      · exact K.2.1 15 1 (Or.inl (Or.inl (Or.inl (Or.inl (Or.inl (Or.inl (Or.inl (Or.inl (Or.inl (Or.inl (Or.inr ⟨rfl, by decide, by decide⟩)))))))))))
    · exact K.2.1 16 i (Or.inl (Or.inl (Or.inl (Or.inl (Or.inl (Or.inl (Or.inl (Or.inl (Or.inl (Or.inr ⟨rfl, by omega, by omega⟩))))))))))
    · rcases h1 with rfl | rfl | rfl | rfl
      · exact K.2.1 17 i (Or.inl (Or.inl (Or.inl (Or.inl (Or.inl (Or.inl (Or.inl (Or.inl (Or.inr ⟨rfl, by omega, by omega⟩)))))))))
      · exact K.2.1 18 i (Or.inl (Or.inl (Or.inl (Or.inl (Or.inl (Or.inl (Or.inl (Or.inr ⟨rfl, by omega, by omega⟩))))))))
      · exact K.2.1 19 i (Or.inl (Or.inl (Or.inl (Or.inl (Or.inl (Or.inl (Or.inr ⟨rfl, by omega, by omega⟩)))))))
      · exact K.2.1 20 i (Or.inl (Or.inl (Or.inl (Or.inl (Or.inl (Or.inr ⟨rfl, by omega, by omega⟩))))))
    · exact K.2.1 22 i (Or.inl (Or.inl (Or.inl (Or.inl (Or.inr ⟨rfl, by omega, by omega⟩)))))
    · rcases h1 with rfl | rfl | rfl | rfl
      · exact K.2.1 23 i (Or.inl (Or.inl (Or.inl (Or.inr ⟨rfl, by omega, by omega⟩))))
      · exact K.2.1 24 i (Or.inl (Or.inl (Or.inr ⟨rfl, by omega, by omega⟩)))
      · exact K.2.1 25 i (Or.inl (Or.inr ⟨rfl, by omega, by omega⟩))
      · exact K.2.1 26 i (Or.inr ⟨rfl, by omega, by omega⟩)
  · have := K.1 c i z
    omega
theorem sim_image (hC : jm_HC gC) (hR : jm_HR gR) (hI : Iv mu nu) (h1 : v1 = 0 ∨ v1 = 1) : jm_sim l gC gR (d + 3) (d + 3) iX11_image iX12_image [jm_i v1] mu nu := by
  have I0 := hI.t0
  obtain ⟨i1, i2, i3, i4, i5, i6, i7, i8⟩ := I0
  have W8 := i1.1.2.1
  refine eX11_image hC ⟨⟨by omega, by omega⟩, fun q => ⟨fun q2 => ?_, fun q2 => ?_⟩, fun q => ?_⟩
  · have t13 : mu.1 0 13 = 1 := by have := i7.2.1; omega
    obtain ⟨k1, k2, k3, k4, k5⟩ := i7.2.2 t13
    refine sX8_copyFrom_6_64 hC (fun m2 t2 => jm_qvI ((sX1_copyFrom (d := d) gC (jm_ct29 hC) (jm_ct87 hC) (by omega) (fun m6 c6 => jm_qvI (fun m10 e10 => jm_qiI ⟨by decide, by decide⟩ ?_))).up (by omega)))
    refine eX12_image hR (fun n1 en => ?_)
    subst en
    have z56 : (jm_wr nu 0 0 0).1 0 56 = 1 := by rw [i7.1]; exact t13
    refine ⟨⟨by omega, by omega⟩, fun r => absurd q r, fun _ => ⟨fun _ => ?_, fun r => by rw [z56] at r; omega⟩⟩
    refine lX12_image hR h1 (fun r => by omega) (fun _ n u => ?_)
    obtain ⟨-, -, u56, -, u0⟩ := u
    obtain ⟨ua, ub, uc⟩ := u0 q
    obtain ⟨⟨c0, c1, c4, c6', c8⟩, d1, d2, d3, d4, d5, d6⟩ := c6
    have mo : ∀ c, c ≠ 0 → m10.1 c = m6.1 c := fun c h => by
      funext i
      rw [e10, jm_wrO h, jm_wrO h]
    have mz : ∀ i, i ≠ 15 → i ≠ 16 → m10.1 0 i = m6.1 0 i := fun i a b => by rw [e10, jm_wrI b, jm_wrI a]
    have m2o : ∀ c, c < 6 ∨ 34 < c → m2.1 c = mu.1 c := fun c h => t2.2 c (by omega)
    have m6o : ∀ c, c < 29 ∨ 34 < c → m6.1 c = m2.1 c := fun c h => d6 c (by omega)
    have no : ∀ c i, ¬ (c = 0 ∧ i = 3) → (jm_wr n 0 3 0).1 c i = n.1 c i := fun c i h => by
      by_cases z : c = 0
      · rw [jm_wrI (fun r => h ⟨z, r⟩)]
      · rw [jm_wrO z]
    have hCl : ∀ c i, clP c i → m10.1 c i = mu.1 (c + 58) i := fun c i h => by
      have b : 6 ≤ c ∧ c ≤ 26 := by unfold clP at h; omega
      rw [mo c (by omega), m6o c (by omega)]
      exact t2.1 c i h
    have hRe : ∀ c i, plP c i → (jm_wr n 0 3 0).1 c i = (jm_wr nu 0 0 0).1 30 (plV c i) := fun c i h => by
      rw [no c i (by unfold plP at h; omega)]
      exact ub c i h (pl_in h).2.2.2
    have w64 : m10.1 6 0 = mu.1 64 0 := hCl 6 0 (by unfold clP; omega)
    have Wi := k1.1.2.1
    have s87 : ∀ x, m2.1 (87 + x) = mu.1 (87 + x) := fun x => m2o _ (by omega)
    have crt : jm_crt m10 29 ((jm_wr n 0 3 0).1 1) ((jm_wr n 0 3 0).1 24) ((jm_wr n 0 3 0).1 25) ((jm_wr n 0 3 0).1 26) (m10.1 6 0) := by
      rw [w64]
      have t := k5.tr (m := m10) (c' := 29) (row' := (jm_wr n 0 3 0).1 1) Wi (by rw [mo 29 (by decide), c0]; exact congrFun (s87 0) 0) (by rw [mo 29 (by decide), c1]; exact congrFun (s87 0) 1) (by rw [mo 29 (by decide), c4]; exact congrFun (s87 0) 4) (by rw [mo 29 (by decide), c6']; exact congrFun (s87 0) 6) (by rw [mo 29 (by decide), c8]; exact congrFun (s87 0) 8) (fun i a b => by rw [mo 30 (by decide), d1 i a b]; exact congrFun (s87 1) i) (fun i a b => by rw [mo 31 (by decide), d2 i a b]; exact congrFun (s87 2) i) (fun i a b => by rw [mo 32 (by decide), d3 i a b]; exact congrFun (s87 3) i) (fun i a b => by rw [mo 33 (by decide), d4 i a b]; exact congrFun (s87 4) i) (fun i a b => by rw [mo 34 (by decide), d5 i a b]; exact congrFun (s87 5) i) (fun k a b => hRe 1 k (by unfold plP; omega))
      have b8 := t.2.2.1
      have b6 := t.2.2.2.1
      have b4 := t.2.2.2.2.1
      exact t.ar (fun k a b => hRe 24 k (by unfold plP; omega)) (fun k a b => hRe 25 k (by unfold plP; omega)) (fun k a b => hRe 26 k (by unfold plP; omega))
    have aI : jm_ag fCI mu m10 := fun c i h => by
      unfold fCI at h
      simp only [Bool.or_eq_true, Bool.and_eq_true, decide_eq_true_eq, beq_iff_eq] at h
      by_cases z : c = 0
      · subst z
        rw [mz i (by omega) (by omega), m6o 0 (by omega), m2o 0 (by omega)]
      · rw [mo c z, m6o c (by omega), m2o c (by omega)]
    have bI : jm_ag fRI (jm_wr nu 0 0 0) (jm_wr n 0 3 0) := fun c i h => by
      unfold fRI at h
      simp only [Bool.or_eq_true, Bool.and_eq_true, beq_iff_eq] at h
      rw [no c i (by omega)]
      rcases h with h | ⟨h, h'⟩
      · rw [h]
        exact ua i
      · rw [h, h', u56, z56]
    have aT : jm_ag fCT mu m10 := fun c i h => by
      unfold fCT at h
      simp only [Bool.or_eq_true, Bool.and_eq_true, beq_iff_eq] at h
      rw [mo c (by omega), m6o c (by omega), m2o c (by omega)]
    have bT : jm_ag fRT (jm_wr nu 0 0 0) (jm_wr n 0 3 0) := fun c i h => by
      unfold fRT at h
      simp only [Bool.or_eq_true, Bool.and_eq_true, decide_eq_true_eq, beq_iff_eq] at h
      rw [no c i (by omega)]
      exact uc c i (by unfold plQ; omega) (fun r => by have := r.1; unfold plP at this; omega)
    refine jm_fin ⟨by decide, by decide⟩ rfl ⟨IA_g.2 ((IAi_g.1 k1).cg hCl hRe), IM_g.2 ((IMi_g.1 k2).cg hCl hRe), IP_g.2 ((IPi_g.1 k3).cg hCl hRe), IL_g.2 ((ILi_g.1 k4).cg hCl hRe), crt, ?_, i7.ag aI bI, i8.ag aT bT⟩
    rw [e10]
    exact IK_clear m6 n
  · refine jm_qiI ⟨by decide, by decide⟩ (eX12_image hR (fun n1 en => ?_))
    subst en
    have z56 : (jm_wr nu 0 0 0).1 0 56 = 0 := by rw [i7.1]; exact q2
    exact ⟨⟨by omega, by omega⟩, fun r => absurd q r, fun _ => ⟨fun r => absurd z56 r, fun _ => jm_fin ⟨by decide, by decide⟩ rfl ⟨i1, i2, i3, i4, i5, i6, i7, i8⟩⟩⟩
  · have v1 : v1 = 1 := by omega
    refine sX8_copyFrom_64_6 hC (fun m2 t2 => jm_qvI ((sX1_copyFrom (d := d) gC (jm_ct87 hC) (jm_ct29 hC) (by omega) (fun m6 c6 => jm_qvI (fun m10 e10 => jm_qiI ⟨by decide, by decide⟩ ?_))).up (by omega)))
    refine eX12_image hR (fun n1 en => ?_)
    subst en
    refine ⟨⟨by omega, by omega⟩, fun _ => ?_, fun r => absurd r q⟩
    refine lX12_image hR h1 (fun _ n u => ?_) (fun r => by omega)
    obtain ⟨-, -, u56, u1, -⟩ := u
    obtain ⟨ua, ub⟩ := u1 v1
    obtain ⟨⟨c0, c1, c4, c6', c8⟩, d1, d2, d3, d4, d5, d6⟩ := c6
    have mo : ∀ c, c ≠ 0 → m10.1 c = m6.1 c := fun c h => by
      funext i
      rw [e10, jm_wrO h]
    have mz : ∀ i, i ≠ 13 → m10.1 0 i = m6.1 0 i := fun i a => by rw [e10, jm_wrI a]
    have m13 : m10.1 0 13 = 1 := by rw [e10, jm_wrS]
    have m2o : ∀ c, c < 64 ∨ 92 < c → m2.1 c = mu.1 c := fun c h => t2.2 c (by omega)
    have m6o : ∀ c, c < 87 ∨ 92 < c → m6.1 c = m2.1 c := fun c h => d6 c (by omega)
    have same : ∀ c i, c < 64 ∨ 92 < c → ¬ (c = 0 ∧ i = 13) → m10.1 c i = mu.1 c i := fun c i a b => by
      by_cases z : c = 0
      · subst z
        rw [mz i (fun r => b ⟨rfl, r⟩), m6o 0 (by omega), m2o 0 (by omega)]
      · rw [mo c z, m6o c (by omega), m2o c (by omega)]
    have hCl : ∀ c i, clP c i → (fun c i => m10.1 (c + 58) i) c i = mu.1 c i := fun c i h => by
      have b : 6 ≤ c ∧ c ≤ 26 := by unfold clP at h; omega
      show m10.1 (c + 58) i = mu.1 c i
      rw [mo _ (by omega), m6o _ (by omega)]
      exact t2.1 c i h
    have hRe : ∀ c i, plP c i → (fun c i => n.1 30 (plV c i)) c i = (jm_wr nu 0 0 0).1 c i := fun c i h => ua c i h (pl_in h).2.2.2
    have w64 : m10.1 64 0 = mu.1 6 0 := hCl 6 0 (by unfold clP; omega)
    have s29 : ∀ x, x ≤ 5 → m2.1 (29 + x) = mu.1 (29 + x) := fun x h => m2o _ (by omega)
    have crt : jm_crt m10 87 (n.1 30) (fun k => n.1 30 (545 + k)) (fun k => n.1 30 (665 + k)) (fun k => n.1 30 (865 + k)) (m10.1 64 0) := by
      rw [w64]
      have k5 : jm_crt mu 29 ((jm_wr nu 0 0 0).1 1) ((jm_wr nu 0 0 0).1 24) ((jm_wr nu 0 0 0).1 25) ((jm_wr nu 0 0 0).1 26) (mu.1 6 0) := i5
      have t := k5.tr (m := m10) (c' := 87) (row' := n.1 30) W8 (by rw [mo 87 (by decide), c0]; exact congrFun (s29 0 (by decide)) 0) (by rw [mo 87 (by decide), c1]; exact congrFun (s29 0 (by decide)) 1) (by rw [mo 87 (by decide), c4]; exact congrFun (s29 0 (by decide)) 4) (by rw [mo 87 (by decide), c6']; exact congrFun (s29 0 (by decide)) 6) (by rw [mo 87 (by decide), c8]; exact congrFun (s29 0 (by decide)) 8) (fun i a b => by rw [mo 88 (by decide), d1 i a b]; exact congrFun (s29 1 (by decide)) i) (fun i a b => by rw [mo 89 (by decide), d2 i a b]; exact congrFun (s29 2 (by decide)) i) (fun i a b => by rw [mo 90 (by decide), d3 i a b]; exact congrFun (s29 3 (by decide)) i) (fun i a b => by rw [mo 91 (by decide), d4 i a b]; exact congrFun (s29 4 (by decide)) i) (fun i a b => by rw [mo 92 (by decide), d5 i a b]; exact congrFun (s29 5 (by decide)) i) (fun k a b => hRe 1 k (by unfold plP; omega))
      have b8 := t.2.2.1
      have b6 := t.2.2.2.1
      have b4 := t.2.2.2.2.1
      exact t.ar (fun k a b => hRe 24 k (by unfold plP; omega)) (fun k a b => hRe 25 k (by unfold plP; omega)) (fun k a b => hRe 26 k (by unfold plP; omega))
    have aA : jm_ag fCA mu m10 := fun c i h => by
      unfold fCA at h
      simp only [Bool.or_eq_true, Bool.and_eq_true, decide_eq_true_eq, beq_iff_eq] at h
      exact same c i (by omega) (by omega)
    have bA : jm_ag fRA (jm_wr nu 0 0 0) n := fun c i h => by
      unfold fRA at h
      simp only [Bool.or_eq_true, Bool.and_eq_true, decide_eq_true_eq, beq_iff_eq] at h
      exact ub c i (by unfold plQ; omega)
    have aM : jm_ag fCM mu m10 := fun c i h => by
      unfold fCM at h
      simp only [Bool.or_eq_true, Bool.and_eq_true, decide_eq_true_eq, beq_iff_eq] at h
      exact same c i (by omega) (by omega)
    have bM : jm_ag fRM (jm_wr nu 0 0 0) n := fun c i h => by
      unfold fRM at h
      simp only [Bool.or_eq_true, Bool.and_eq_true, decide_eq_true_eq, beq_iff_eq] at h
      exact ub c i (by unfold plQ; omega)
    have aP : jm_ag fCP mu m10 := fun c i h => by
      unfold fCP at h
      simp only [Bool.or_eq_true, Bool.and_eq_true, decide_eq_true_eq, beq_iff_eq] at h
      exact same c i (by omega) (by omega)
    have bP : jm_ag fRP (jm_wr nu 0 0 0) n := fun c i h => by
      unfold fRP at h
      simp only [Bool.or_eq_true, Bool.and_eq_true, decide_eq_true_eq, beq_iff_eq] at h
      exact ub c i (by unfold plQ; omega)
    have aL : jm_ag fCL mu m10 := fun c i h => by
      unfold fCL at h
      simp only [Bool.or_eq_true, Bool.and_eq_true, decide_eq_true_eq, beq_iff_eq] at h
      exact same c i (by omega) (by omega)
    have bL : jm_ag fRL (jm_wr nu 0 0 0) n := fun c i h => by
      unfold fRL at h
      simp only [Bool.or_eq_true, Bool.and_eq_true, decide_eq_true_eq, beq_iff_eq] at h
      exact ub c i (by unfold plQ; omega)
    have aC : jm_ag fCC mu m10 := fun c i h => by
      unfold fCC at h
      simp only [Bool.or_eq_true, Bool.and_eq_true, decide_eq_true_eq, beq_iff_eq] at h
      exact same c i (by omega) (by omega)
    have bC : jm_ag fRC (jm_wr nu 0 0 0) n := fun c i h => by
      unfold fRC at h
      simp only [Bool.or_eq_true, Bool.and_eq_true, decide_eq_true_eq, beq_iff_eq] at h
      exact ub c i (by unfold plQ; omega)
    have aK : jm_ag fCK mu m10 := fun c i h => by
      unfold fCK at h
      simp only [Bool.or_eq_true, Bool.and_eq_true, decide_eq_true_eq, beq_iff_eq] at h
      exact same c i (by omega) (by omega)
    have bK : jm_ag fRK (jm_wr nu 0 0 0) n := fun c i h => by
      unfold fRK at h
      simp only [Bool.or_eq_true, Bool.and_eq_true, decide_eq_true_eq, beq_iff_eq] at h
      exact ub c i (by unfold plQ; omega)
    have aT : jm_ag fCT mu m10 := fun c i h => by
      unfold fCT at h
      simp only [Bool.or_eq_true, Bool.and_eq_true, decide_eq_true_eq, beq_iff_eq] at h
      exact same c i (by omega) (by omega)
    have bT : jm_ag fRT (jm_wr nu 0 0 0) n := fun c i h => by
      unfold fRT at h
      simp only [Bool.or_eq_true, Bool.and_eq_true, decide_eq_true_eq, beq_iff_eq] at h
      exact ub c i (by unfold plQ; omega)
    refine jm_fin ⟨by decide, by decide⟩ rfl ⟨i1.ag aA bA, i2.ag aM bM, i3.ag aP bP, i4.ag aL bL, i5.ag aC bC, i6.ag aK bK, ⟨by rw [u56, m13], Or.inr m13, fun _ => ⟨IAi_g.2 ((IA_g.1 i1).cg hCl hRe), IMi_g.2 ((IM_g.1 i2).cg hCl hRe), IPi_g.2 ((IP_g.1 i3).cg hCl hRe), ILi_g.2 ((IL_g.1 i4).cg hCl hRe), crt⟩⟩, i8.ag aT bT⟩
end IG
