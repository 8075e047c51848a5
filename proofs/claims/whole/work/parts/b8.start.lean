section IV0
/-- the memories of new objects -/
def mu0C : jm_M := (fun c i => match c with | 1 => if i = 3 then -1 else 0 | 6 => if i = 5 then 953 else if i = 6 then 10 else if i = 7 then 1 else 0 | 64 => if i = 5 then 953 else if i = 6 then 10 else if i = 7 then 1 else 0 | _ => 0, fun _ _ => 0)
def nu0R (f : Nat → Int32) : jm_M := (fun c i => match c with | 0 => if i = 34 then -1 else 0 | 8 => (f i.toNat).toInt | _ => 0, fun _ _ => 0)
theorem mu0C_mr : jm_mr mu0C := by
  intro c i
  unfold mu0C
  dsimp only
  split
  · split <;> exact ⟨by decide, by decide⟩
  · split
    · exact ⟨by decide, by decide⟩
    · split
      · exact ⟨by decide, by decide⟩
      · split <;> exact ⟨by decide, by decide⟩
  · split
    · exact ⟨by decide, by decide⟩
    · split
      · exact ⟨by decide, by decide⟩
      · split <;> exact ⟨by decide, by decide⟩
  · exact ⟨by decide, by decide⟩
theorem nu0R_mr (f : Nat → Int32) : jm_mr (nu0R f) := by
  intro c i
  unfold nu0R
  dsimp only
  split
  · split <;> exact ⟨by decide, by decide⟩
  · exact jm_rgT _
  · exact ⟨by decide, by decide⟩
theorem Iv0 {f : Nat → Int32} (hf : ∀ t, t < 143 → f t = Int32.ofInt (wGl t)) : Iv mu0C (nu0R f) := by
  have a6 : mu0C.1 6 0 = 0 := rfl
  have a68 : mu0C.1 6 8 = 0 := rfl
  have a13 : ∀ k, mu0C.1 13 k = 0 := fun _ => rfl
  have a22 : mu0C.1 22 0 = 0 := rfl
  have a15 : mu0C.1 15 0 = 0 := rfl
  have a151 : mu0C.1 15 1 = 0 := rfl
  have a29 : ∀ i, mu0C.1 29 i = 0 := fun _ => rfl
  have a11 : mu0C.1 1 1 = 0 := rfl
  refine ⟨⟨⟨by omega, by omega, rfl⟩, fun w w0 w1 => by omega, fun k k0 k1 => by omega, ⟨by decide, by decide, by show (0 : Int) = jm_xor 953 953; decide +kernel⟩, ⟨by decide, by decide, rfl⟩, ⟨by decide, by decide, rfl⟩, ⟨by omega, by omega, rfl⟩, fun k k0 k1 => by omega⟩, ⟨⟨by decide, by decide, rfl⟩, fun k k0 k1 => ⟨by rw [a13]; decide, by rw [a13]; decide, rfl⟩, fun k i k0 k1 i0 i1 => by rw [a13] at i1; omega⟩, ⟨⟨by omega, by omega, rfl⟩, fun k k0 k1 => by omega⟩, ⟨⟨by omega, by omega, rfl⟩, ⟨by omega, by omega⟩, fun _ => 0, rfl, by decide, fun i i0 i1 => by omega, fun l l0 l1 => by omega⟩, ?_, IK.zero rfl rfl rfl, ⟨rfl, Or.inl rfl, fun r => absurd (show (0 : Int) = 1 from r) (by decide)⟩, ⟨by omega, by omega, rfl⟩, rfl, rfl, fun k k0 k1 => by omega, fun k hk => ?_⟩
  · refine ⟨⟨by rw [a29]; decide, by rw [a29]; decide, rfl⟩, rfl, ⟨by rw [a29]; decide, by rw [a29]; decide, rfl⟩, ⟨by rw [a29]; decide, by rw [a29]; decide, rfl⟩, ⟨by rw [a29]; decide, by rw [a29]; decide, rfl⟩, ⟨Int.le_refl 0, by rw [a29]; show (0 : Int) < 2 ^ Int.toNat 0; decide⟩, fun w w0 w1 => by omega, fun i i0 i1 => by rw [a29] at i1; omega, fun i j i0 i1 => by rw [a29] at i1; omega, fun k k0 k1 => by rw [a29] at k1; omega, fun k k0 k1 => by rw [a29] at k1; omega⟩
  · show (f ((k : Int).toNat)).toInt = _
    rw [Int.toNat_natCast, hf k hk]
    have b := w_rg ⟨k, hk⟩
    have b1 : 0 ≤ wGl k := b.1
    have b2 : wGl k ≤ 255 := b.2
    rw [jm_ti ⟨by omega, by omega⟩]
    rfl
end IV0
