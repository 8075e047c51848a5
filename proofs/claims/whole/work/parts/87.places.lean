section PL
variable {l : Launch} {gC gR : jm_G} {d : Nat} {mu nu m n : jm_M} {v1 v2 v3 v4 v5 v6 : Int} {Q : Option Value → jm_M → Prop}
/-- where the image keeps what: a place of the reference and its number in the image -/
def plP (c : Nat) (i : Int) : Prop := (c = 0 ∧ (i = 4 ∨ i = 9 ∨ i = 10 ∨ i = 11 ∨ i = 35 ∨ i = 39 ∨ i = 52)) ∨ (c = 1 ∧ 0 ≤ i ∧ i < 22) ∨ ((c = 3 ∨ c = 4 ∨ c = 5) ∧ 0 ≤ i ∧ i < 8) ∨ (c = 6 ∧ 0 ≤ i ∧ i < 48) ∨ (c = 28 ∧ 0 ≤ i ∧ i < 12) ∨ (c = 17 ∧ 0 ≤ i ∧ i < 192) ∨ (c = 19 ∧ 0 ≤ i ∧ i < 240) ∨ (c = 24 ∧ 0 ≤ i ∧ i < 120) ∨ (c = 25 ∧ 0 ≤ i ∧ i < 200) ∨ (c = 26 ∧ 0 ≤ i ∧ i < 600) ∨ (c = 9 ∧ i = 1) ∨ ((c = 10 ∨ c = 11 ∨ c = 12 ∨ c = 13) ∧ 16 ≤ i ∧ i < 32) ∨ ((c = 14 ∨ c = 15) ∧ 400 ≤ i ∧ i < 800)
def plV (c : Nat) (i : Int) : Int := match c with
  | 0 => if i = 4 then 22 else if i = 9 then 23 else if i = 10 then 24 else if i = 11 then 25 else if i = 35 then 26 else if i = 39 then 27 else 28
  | 1 => i
  | 3 => 29 + 3 * i
  | 4 => 30 + 3 * i
  | 5 => 31 + 3 * i
  | 6 => 53 + i
  | 28 => 101 + i
  | 17 => 113 + i
  | 19 => 305 + i
  | 24 => 545 + i
  | 25 => 665 + i
  | 26 => 865 + i
  | 9 => 1465
  | 10 => 1466 + 4 * (i - 16)
  | 11 => 1467 + 4 * (i - 16)
  | 12 => 1468 + 4 * (i - 16)
  | 13 => 1469 + 4 * (i - 16)
  | 14 => 1530 + 2 * (i - 400)
  | 15 => 1531 + 2 * (i - 400)
  | _ => 0
def plC (p : Int) : Nat := if p < 22 then 1 else if p < 29 then 0 else if p < 53 then 3 + ((p - 29) % 3).toNat else if p < 101 then 6 else if p < 113 then 28 else if p < 305 then 17 else if p < 545 then 19 else if p < 665 then 24 else if p < 865 then 25 else if p < 1465 then 26 else if p < 1466 then 9 else if p < 1530 then 10 + ((p - 1466) % 4).toNat else 14 + ((p - 1530) % 2).toNat
def plI (p : Int) : Int := if p < 22 then p else if p < 23 then 4 else if p < 24 then 9 else if p < 25 then 10 else if p < 26 then 11 else if p < 27 then 35 else if p < 28 then 39 else if p < 29 then 52 else if p < 53 then (p - 29) / 3 else if p < 101 then p - 53 else if p < 113 then p - 101 else if p < 305 then p - 113 else if p < 545 then p - 305 else if p < 665 then p - 545 else if p < 865 then p - 665 else if p < 1465 then p - 865 else if p < 1466 then 1 else if p < 1530 then 16 + (p - 1466) / 4 else 400 + (p - 1530) / 2
theorem pl_in {c : Nat} {i : Int} (h : plP c i) : plC (plV c i) = c ∧ plI (plV c i) = i ∧ 0 ≤ plV c i ∧ plV c i < 2330 := by
  unfold plP at h
  rcases h with ⟨rfl, h⟩ | ⟨rfl, h⟩ | ⟨h1, h⟩ | ⟨rfl, h⟩ | ⟨rfl, h⟩ | ⟨rfl, h⟩ | ⟨rfl, h⟩ | ⟨rfl, h⟩ | ⟨rfl, h⟩ | ⟨rfl, h⟩ | ⟨rfl, h⟩ | ⟨h1, h⟩ | ⟨h1, h⟩
  · rcases h with rfl | rfl | rfl | rfl | rfl | rfl | rfl <;> decide
  · show plC i = 1 ∧ plI i = i ∧ 0 ≤ i ∧ i < 2330
    unfold plC plI
    rw [if_pos (by omega), if_pos (by omega)]
    omega
  · rcases h1 with rfl | rfl | rfl
    · show plC (29 + 3 * i) = 3 ∧ plI (29 + 3 * i) = i ∧ 0 ≤ 29 + 3 * i ∧ 29 + 3 * i < 2330
      unfold plC plI
      simp only [show ¬ 29 + 3 * i < 22 by omega, show ¬ 29 + 3 * i < 23 by omega, show ¬ 29 + 3 * i < 24 by omega, show ¬ 29 + 3 * i < 25 by omega, show ¬ 29 + 3 * i < 26 by omega, show ¬ 29 + 3 * i < 27 by omega, show ¬ 29 + 3 * i < 28 by omega, show ¬ 29 + 3 * i < 29 by omega, show 29 + 3 * i < 53 by omega, if_true, if_false]
      first | omega | exact ⟨trivial, by omega, by omega, by omega⟩ | exact ⟨rfl, by omega, by omega, by omega⟩
    · show plC (30 + 3 * i) = 4 ∧ plI (30 + 3 * i) = i ∧ 0 ≤ 30 + 3 * i ∧ 30 + 3 * i < 2330
      unfold plC plI
      simp only [show ¬ 30 + 3 * i < 22 by omega, show ¬ 30 + 3 * i < 23 by omega, show ¬ 30 + 3 * i < 24 by omega, show ¬ 30 + 3 * i < 25 by omega, show ¬ 30 + 3 * i < 26 by omega, show ¬ 30 + 3 * i < 27 by omega, show ¬ 30 + 3 * i < 28 by omega, show ¬ 30 + 3 * i < 29 by omega, show 30 + 3 * i < 53 by omega, if_true, if_false]
      first | omega | exact ⟨trivial, by omega, by omega, by omega⟩ | exact ⟨rfl, by omega, by omega, by omega⟩
    · show plC (31 + 3 * i) = 5 ∧ plI (31 + 3 * i) = i ∧ 0 ≤ 31 + 3 * i ∧ 31 + 3 * i < 2330
      unfold plC plI
      simp only [show ¬ 31 + 3 * i < 22 by omega, show ¬ 31 + 3 * i < 23 by omega, show ¬ 31 + 3 * i < 24 by omega, show ¬ 31 + 3 * i < 25 by omega, show ¬ 31 + 3 * i < 26 by omega, show ¬ 31 + 3 * i < 27 by omega, show ¬ 31 + 3 * i < 28 by omega, show ¬ 31 + 3 * i < 29 by omega, show 31 + 3 * i < 53 by omega, if_true, if_false]
      first | omega | exact ⟨trivial, by omega, by omega, by omega⟩ | exact ⟨rfl, by omega, by omega, by omega⟩
  · show plC (53 + i) = 6 ∧ plI (53 + i) = i ∧ 0 ≤ 53 + i ∧ 53 + i < 2330
    unfold plC plI
    simp only [show ¬ 53 + i < 22 by omega, show ¬ 53 + i < 23 by omega, show ¬ 53 + i < 24 by omega, show ¬ 53 + i < 25 by omega, show ¬ 53 + i < 26 by omega, show ¬ 53 + i < 27 by omega, show ¬ 53 + i < 28 by omega, show ¬ 53 + i < 29 by omega, show ¬ 53 + i < 53 by omega, show 53 + i < 101 by omega, if_true, if_false]
    first | omega | exact ⟨trivial, by omega, by omega, by omega⟩ | exact ⟨rfl, by omega, by omega, by omega⟩
  · show plC (101 + i) = 28 ∧ plI (101 + i) = i ∧ 0 ≤ 101 + i ∧ 101 + i < 2330
    unfold plC plI
    simp only [show ¬ 101 + i < 22 by omega, show ¬ 101 + i < 23 by omega, show ¬ 101 + i < 24 by omega, show ¬ 101 + i < 25 by omega, show ¬ 101 + i < 26 by omega, show ¬ 101 + i < 27 by omega, show ¬ 101 + i < 28 by omega, show ¬ 101 + i < 29 by omega, show ¬ 101 + i < 53 by omega, show ¬ 101 + i < 101 by omega, show 101 + i < 113 by omega, if_true, if_false]
    first | omega | exact ⟨trivial, by omega, by omega, by omega⟩ | exact ⟨rfl, by omega, by omega, by omega⟩
  · show plC (113 + i) = 17 ∧ plI (113 + i) = i ∧ 0 ≤ 113 + i ∧ 113 + i < 2330
    unfold plC plI
    simp only [show ¬ 113 + i < 22 by omega, show ¬ 113 + i < 23 by omega, show ¬ 113 + i < 24 by omega, show ¬ 113 + i < 25 by omega, show ¬ 113 + i < 26 by omega, show ¬ 113 + i < 27 by omega, show ¬ 113 + i < 28 by omega, show ¬ 113 + i < 29 by omega, show ¬ 113 + i < 53 by omega, show ¬ 113 + i < 101 by omega, show ¬ 113 + i < 113 by omega, show 113 + i < 305 by omega, if_true, if_false]
    first | omega | exact ⟨trivial, by omega, by omega, by omega⟩ | exact ⟨rfl, by omega, by omega, by omega⟩
  · show plC (305 + i) = 19 ∧ plI (305 + i) = i ∧ 0 ≤ 305 + i ∧ 305 + i < 2330
    unfold plC plI
    simp only [show ¬ 305 + i < 22 by omega, show ¬ 305 + i < 23 by omega, show ¬ 305 + i < 24 by omega, show ¬ 305 + i < 25 by omega, show ¬ 305 + i < 26 by omega, show ¬ 305 + i < 27 by omega, show ¬ 305 + i < 28 by omega, show ¬ 305 + i < 29 by omega, show ¬ 305 + i < 53 by omega, show ¬ 305 + i < 101 by omega, show ¬ 305 + i < 113 by omega, show ¬ 305 + i < 305 by omega, show 305 + i < 545 by omega, if_true, if_false]
    first | omega | exact ⟨trivial, by omega, by omega, by omega⟩ | exact ⟨rfl, by omega, by omega, by omega⟩
  · show plC (545 + i) = 24 ∧ plI (545 + i) = i ∧ 0 ≤ 545 + i ∧ 545 + i < 2330
    unfold plC plI
    simp only [show ¬ 545 + i < 22 by omega, show ¬ 545 + i < 23 by omega, show ¬ 545 + i < 24 by omega, show ¬ 545 + i < 25 by omega, show ¬ 545 + i < 26 by omega, show ¬ 545 + i < 27 by omega, show ¬ 545 + i < 28 by omega, show ¬ 545 + i < 29 by omega, show ¬ 545 + i < 53 by omega, show ¬ 545 + i < 101 by omega, show ¬ 545 + i < 113 by omega, show ¬ 545 + i < 305 by omega, show ¬ 545 + i < 545 by omega, show 545 + i < 665 by omega, if_true, if_false]
    first | omega | exact ⟨trivial, by omega, by omega, by omega⟩ | exact ⟨rfl, by omega, by omega, by omega⟩
  · show plC (665 + i) = 25 ∧ plI (665 + i) = i ∧ 0 ≤ 665 + i ∧ 665 + i < 2330
    unfold plC plI
    simp only [show ¬ 665 + i < 22 by omega, show ¬ 665 + i < 23 by omega, show ¬ 665 + i < 24 by omega, show ¬ 665 + i < 25 by omega, show ¬ 665 + i < 26 by omega, show ¬ 665 + i < 27 by omega, show ¬ 665 + i < 28 by omega, show ¬ 665 + i < 29 by omega, show ¬ 665 + i < 53 by omega, show ¬ 665 + i < 101 by omega, show ¬ 665 + i < 113 by omega, show ¬ 665 + i < 305 by omega, show ¬ 665 + i < 545 by omega, show ¬ 665 + i < 665 by omega, show 665 + i < 865 by omega, if_true, if_false]
    first | omega | exact ⟨trivial, by omega, by omega, by omega⟩ | exact ⟨rfl, by omega, by omega, by omega⟩
  · show plC (865 + i) = 26 ∧ plI (865 + i) = i ∧ 0 ≤ 865 + i ∧ 865 + i < 2330
    unfold plC plI
    simp only [show ¬ 865 + i < 22 by omega, show ¬ 865 + i < 23 by omega, show ¬ 865 + i < 24 by omega, show ¬ 865 + i < 25 by omega, show ¬ 865 + i < 26 by omega, show ¬ 865 + i < 27 by omega, show ¬ 865 + i < 28 by omega, show ¬ 865 + i < 29 by omega, show ¬ 865 + i < 53 by omega, show ¬ 865 + i < 101 by omega, show ¬ 865 + i < 113 by omega, show ¬ 865 + i < 305 by omega, show ¬ 865 + i < 545 by omega, show ¬ 865 + i < 665 by omega, show ¬ 865 + i < 865 by omega, show 865 + i < 1465 by omega, if_true, if_false]
    first | omega | exact ⟨trivial, by omega, by omega, by omega⟩ | exact ⟨rfl, by omega, by omega, by omega⟩
  · subst h
    decide
  · rcases h1 with rfl | rfl | rfl | rfl
    · show plC (1466 + 4 * (i - 16)) = 10 ∧ plI (1466 + 4 * (i - 16)) = i ∧ 0 ≤ 1466 + 4 * (i - 16) ∧ 1466 + 4 * (i - 16) < 2330
      unfold plC plI
      simp only [show ¬ 1466 + 4 * (i - 16) < 22 by omega, show ¬ 1466 + 4 * (i - 16) < 23 by omega, show ¬ 1466 + 4 * (i - 16) < 24 by omega, show ¬ 1466 + 4 * (i - 16) < 25 by omega, show ¬ 1466 + 4 * (i - 16) < 26 by omega, show ¬ 1466 + 4 * (i - 16) < 27 by omega, show ¬ 1466 + 4 * (i - 16) < 28 by omega, show ¬ 1466 + 4 * (i - 16) < 29 by omega, show ¬ 1466 + 4 * (i - 16) < 53 by omega, show ¬ 1466 + 4 * (i - 16) < 101 by omega, show ¬ 1466 + 4 * (i - 16) < 113 by omega, show ¬ 1466 + 4 * (i - 16) < 305 by omega, show ¬ 1466 + 4 * (i - 16) < 545 by omega, show ¬ 1466 + 4 * (i - 16) < 665 by omega, show ¬ 1466 + 4 * (i - 16) < 865 by omega, show ¬ 1466 + 4 * (i - 16) < 1465 by omega, show ¬ 1466 + 4 * (i - 16) < 1466 by omega, show 1466 + 4 * (i - 16) < 1530 by omega, if_true, if_false]
      first | omega | exact ⟨trivial, by omega, by omega, by omega⟩ | exact ⟨rfl, by omega, by omega, by omega⟩
    · show plC (1467 + 4 * (i - 16)) = 11 ∧ plI (1467 + 4 * (i - 16)) = i ∧ 0 ≤ 1467 + 4 * (i - 16) ∧ 1467 + 4 * (i - 16) < 2330
      unfold plC plI
      simp only [show ¬ 1467 + 4 * (i - 16) < 22 by omega, show ¬ 1467 + 4 * (i - 16) < 23 by omega, show ¬ 1467 + 4 * (i - 16) < 24 by omega, show ¬ 1467 + 4 * (i - 16) < 25 by omega, show ¬ 1467 + 4 * (i - 16) < 26 by omega, show ¬ 1467 + 4 * (i - 16) < 27 by omega, show ¬ 1467 + 4 * (i - 16) < 28 by omega, show ¬ 1467 + 4 * (i - 16) < 29 by omega, show ¬ 1467 + 4 * (i - 16) < 53 by omega, show ¬ 1467 + 4 * (i - 16) < 101 by omega, show ¬ 1467 + 4 * (i - 16) < 113 by omega, show ¬ 1467 + 4 * (i - 16) < 305 by omega, show ¬ 1467 + 4 * (i - 16) < 545 by omega, show ¬ 1467 + 4 * (i - 16) < 665 by omega, show ¬ 1467 + 4 * (i - 16) < 865 by omega, show ¬ 1467 + 4 * (i - 16) < 1465 by omega, show ¬ 1467 + 4 * (i - 16) < 1466 by omega, show 1467 + 4 * (i - 16) < 1530 by omega, if_true, if_false]
      first | omega | exact ⟨trivial, by omega, by omega, by omega⟩ | exact ⟨rfl, by omega, by omega, by omega⟩
    · show plC (1468 + 4 * (i - 16)) = 12 ∧ plI (1468 + 4 * (i - 16)) = i ∧ 0 ≤ 1468 + 4 * (i - 16) ∧ 1468 + 4 * (i - 16) < 2330
      unfold plC plI
      simp only [show ¬ 1468 + 4 * (i - 16) < 22 by omega, show ¬ 1468 + 4 * (i - 16) < 23 by omega, show ¬ 1468 + 4 * (i - 16) < 24 by omega, show ¬ 1468 + 4 * (i - 16) < 25 by omega, show ¬ 1468 + 4 * (i - 16) < 26 by omega, show ¬ 1468 + 4 * (i - 16) < 27 by omega, show ¬ 1468 + 4 * (i - 16) < 28 by omega, show ¬ 1468 + 4 * (i - 16) < 29 by omega, show ¬ 1468 + 4 * (i - 16) < 53 by omega, show ¬ 1468 + 4 * (i - 16) < 101 by omega, show ¬ 1468 + 4 * (i - 16) < 113 by omega, show ¬ 1468 + 4 * (i - 16) < 305 by omega, show ¬ 1468 + 4 * (i - 16) < 545 by omega, show ¬ 1468 + 4 * (i - 16) < 665 by omega, show ¬ 1468 + 4 * (i - 16) < 865 by omega, show ¬ 1468 + 4 * (i - 16) < 1465 by omega, show ¬ 1468 + 4 * (i - 16) < 1466 by omega, show 1468 + 4 * (i - 16) < 1530 by omega, if_true, if_false]
      first | omega | exact ⟨trivial, by omega, by omega, by omega⟩ | exact ⟨rfl, by omega, by omega, by omega⟩
    · show plC (1469 + 4 * (i - 16)) = 13 ∧ plI (1469 + 4 * (i - 16)) = i ∧ 0 ≤ 1469 + 4 * (i - 16) ∧ 1469 + 4 * (i - 16) < 2330
      unfold plC plI
      simp only [show ¬ 1469 + 4 * (i - 16) < 22 by omega, show ¬ 1469 + 4 * (i - 16) < 23 by omega, show ¬ 1469 + 4 * (i - 16) < 24 by omega, show ¬ 1469 + 4 * (i - 16) < 25 by omega, show ¬ 1469 + 4 * (i - 16) < 26 by omega, show ¬ 1469 + 4 * (i - 16) < 27 by omega, show ¬ 1469 + 4 * (i - 16) < 28 by omega, show ¬ 1469 + 4 * (i - 16) < 29 by omega, show ¬ 1469 + 4 * (i - 16) < 53 by omega, show ¬ 1469 + 4 * (i - 16) < 101 by omega, show ¬ 1469 + 4 * (i - 16) < 113 by omega, show ¬ 1469 + 4 * (i - 16) < 305 by omega, show ¬ 1469 + 4 * (i - 16) < 545 by omega, show ¬ 1469 + 4 * (i - 16) < 665 by omega, show ¬ 1469 + 4 * (i - 16) < 865 by omega, show ¬ 1469 + 4 * (i - 16) < 1465 by omega, show ¬ 1469 + 4 * (i - 16) < 1466 by omega, show 1469 + 4 * (i - 16) < 1530 by omega, if_true, if_false]
      first | omega | exact ⟨trivial, by omega, by omega, by omega⟩ | exact ⟨rfl, by omega, by omega, by omega⟩
  · rcases h1 with rfl | rfl
    · show plC (1530 + 2 * (i - 400)) = 14 ∧ plI (1530 + 2 * (i - 400)) = i ∧ 0 ≤ 1530 + 2 * (i - 400) ∧ 1530 + 2 * (i - 400) < 2330
      unfold plC plI
      simp only [show ¬ 1530 + 2 * (i - 400) < 22 by omega, show ¬ 1530 + 2 * (i - 400) < 23 by omega, show ¬ 1530 + 2 * (i - 400) < 24 by omega, show ¬ 1530 + 2 * (i - 400) < 25 by omega, show ¬ 1530 + 2 * (i - 400) < 26 by omega, show ¬ 1530 + 2 * (i - 400) < 27 by omega, show ¬ 1530 + 2 * (i - 400) < 28 by omega, show ¬ 1530 + 2 * (i - 400) < 29 by omega, show ¬ 1530 + 2 * (i - 400) < 53 by omega, show ¬ 1530 + 2 * (i - 400) < 101 by omega, show ¬ 1530 + 2 * (i - 400) < 113 by omega, show ¬ 1530 + 2 * (i - 400) < 305 by omega, show ¬ 1530 + 2 * (i - 400) < 545 by omega, show ¬ 1530 + 2 * (i - 400) < 665 by omega, show ¬ 1530 + 2 * (i - 400) < 865 by omega, show ¬ 1530 + 2 * (i - 400) < 1465 by omega, show ¬ 1530 + 2 * (i - 400) < 1466 by omega, show ¬ 1530 + 2 * (i - 400) < 1530 by omega, if_true, if_false]
      first | omega | exact ⟨trivial, by omega, by omega, by omega⟩ | exact ⟨rfl, by omega, by omega, by omega⟩
    · show plC (1531 + 2 * (i - 400)) = 15 ∧ plI (1531 + 2 * (i - 400)) = i ∧ 0 ≤ 1531 + 2 * (i - 400) ∧ 1531 + 2 * (i - 400) < 2330
      unfold plC plI
      simp only [show ¬ 1531 + 2 * (i - 400) < 22 by omega, show ¬ 1531 + 2 * (i - 400) < 23 by omega, show ¬ 1531 + 2 * (i - 400) < 24 by omega, show ¬ 1531 + 2 * (i - 400) < 25 by omega, show ¬ 1531 + 2 * (i - 400) < 26 by omega, show ¬ 1531 + 2 * (i - 400) < 27 by omega, show ¬ 1531 + 2 * (i - 400) < 28 by omega, show ¬ 1531 + 2 * (i - 400) < 29 by omega, show ¬ 1531 + 2 * (i - 400) < 53 by omega, show ¬ 1531 + 2 * (i - 400) < 101 by omega, show ¬ 1531 + 2 * (i - 400) < 113 by omega, show ¬ 1531 + 2 * (i - 400) < 305 by omega, show ¬ 1531 + 2 * (i - 400) < 545 by omega, show ¬ 1531 + 2 * (i - 400) < 665 by omega, show ¬ 1531 + 2 * (i - 400) < 865 by omega, show ¬ 1531 + 2 * (i - 400) < 1465 by omega, show ¬ 1531 + 2 * (i - 400) < 1466 by omega, show ¬ 1531 + 2 * (i - 400) < 1530 by omega, if_true, if_false]
      first | omega | exact ⟨trivial, by omega, by omega, by omega⟩ | exact ⟨rfl, by omega, by omega, by omega⟩
theorem pl_inj {c c' : Nat} {i i' : Int} (h : plP c i) (h' : plP c' i') (e : plV c i = plV c' i') : c = c' ∧ i = i' := by
  have a := pl_in h
  have b := pl_in h'
  rw [e] at a
  exact ⟨a.1.symm.trans b.1, a.2.1.symm.trans b.2.1⟩
/-- the image's walk up to its p-th place: taken (v = 1) or brought back (v = 0) -/
def plQ (c : Nat) (i : Int) : Prop := c ≠ 30 ∧ ¬ (c = 0 ∧ (i = 55 ∨ i = 56 ∨ i = 57))
def PW (v : Int) (nu : jm_M) (p : Int) (n : jm_M) : Prop := n.1 0 57 = p ∧ n.1 0 55 = v ∧ n.1 0 56 = 1
  ∧ (v = 1 → (∀ c i, plP c i → plV c i < p → n.1 30 (plV c i) = nu.1 c i) ∧ ∀ c i, plQ c i → n.1 c i = nu.1 c i)
  ∧ (v = 0 → (∀ i, n.1 30 i = nu.1 30 i) ∧ (∀ c i, plP c i → plV c i < p → n.1 c i = nu.1 30 (plV c i)) ∧ ∀ c i, plQ c i → ¬ (plP c i ∧ plV c i < p) → n.1 c i = nu.1 c i)
theorem pl_q {c : Nat} {i : Int} (h : plP c i) : plQ c i := by
  unfold plP at h
  unfold plQ
  omega
theorem keeps_st (hR : jm_HR gR) {v p : Int} (hU : PW v nu p n) (v01 : v = 0 ∨ v = 1) {c : Nat} {i : Int} (hp : plP c i) (ep : plV c i = p) {F : jm_M → Prop} (hF : ∀ m', PW v nu (p + 1) m' → F m') : jm_R l gR (d + 1) iX12_keeps [.ref 0, jm_i (n.1 c i)] n (jm_qi fun z m => ∀ m', m' = jm_wr m c i z → F m') := by
  refine jm_RmrI (fun hm => ?_)
  obtain ⟨u57, u55, u56, u1, u0⟩ := hU
  have pi := pl_in hp
  have pq := pl_q hp
  rw [ep] at pi
  have c30 : c ≠ 30 := pq.1
  have n57 : ¬ (c = 0 ∧ i = 57) := fun q => pq.2 ⟨q.1, Or.inr (Or.inr q.2)⟩
  have n55 : ¬ (c = 0 ∧ i = 55) := fun q => pq.2 ⟨q.1, Or.inl q.2⟩
  have n56 : ¬ (c = 0 ∧ i = 56) := fun q => pq.2 ⟨q.1, Or.inr (Or.inl q.2)⟩
  refine eX12_keeps hR ⟨by rw [u57]; exact ⟨by omega, by omega⟩, fun m2 e2 => ?_⟩
  have w57 : m2.1 0 57 = p + 1 := by rw [e2, jm_wrS, u57]
  have w55 : m2.1 0 55 = v := by rw [e2, jm_wrI (by decide)]; exact u55
  have wo : ∀ c' i', ¬ (c' = 0 ∧ i' = 57) → m2.1 c' i' = n.1 c' i' := fun c' i' q => by
    rw [e2]
    by_cases z : c' = 0
    · rw [jm_wrI (fun r => q ⟨z, r⟩)]
    · rw [jm_wrO z]
  rw [w57, w55, show p + 1 - 1 = p by omega]
  refine ⟨fun q => ⟨⟨by omega, by omega⟩, hm c i, fun m6 e6 => jm_qiI (hm c i) (fun m' e' => hF m' ?_)⟩, fun q => ⟨⟨by omega, by omega⟩, ?_⟩⟩
  · have v1 : v = 1 := by omega
    have k := u1 v1
    have x : ∀ c' i', c' ≠ 30 → ¬ (c' = c ∧ i' = i) → m'.1 c' i' = m2.1 c' i' := fun c' i' a b => by
      rw [e']
      by_cases z : c' = c
      · rw [jm_wrI (fun r => b ⟨z, r⟩), e6, jm_wrO a]
      · rw [jm_wrO z, e6, jm_wrO a]
    have xs : m'.1 c i = n.1 c i := by rw [e', jm_wrS]
    have x30 : ∀ j, m'.1 30 j = if j = p then n.1 c i else n.1 30 j := fun j => by
      rw [e', jm_wrO (fun r => c30 r.symm), e6]
      split
      · rename_i z
        rw [z, jm_wrS]
      · rename_i z
        rw [jm_wrI z]
        exact wo 30 j (fun r => absurd r.1 (by decide))
    refine ⟨?_, ?_, ?_, fun _ => ⟨fun c' i' a b => ?_, fun c' i' a => ?_⟩, fun r => by omega⟩
    · rw [x 0 57 (by decide) (fun r => n57 ⟨r.1.symm, r.2.symm⟩), w57]
    · rw [x 0 55 (by decide) (fun r => n55 ⟨r.1.symm, r.2.symm⟩), w55]
    · rw [x 0 56 (by decide) (fun r => n56 ⟨r.1.symm, r.2.symm⟩), wo 0 56 (fun r => absurd r.2 (by decide))]
      exact u56
    · rw [x30]
      by_cases z : plV c' i' = p
      · rw [if_pos z]
        obtain ⟨ec, ei⟩ := pl_inj a hp (z.trans ep.symm)
        rw [ec, ei]
        exact k.2 c i pq
      · rw [if_neg z]
        exact k.1 c' i' a (by omega)
    · by_cases z : c' = c ∧ i' = i
      · rw [z.1, z.2, xs]
        exact k.2 c i pq
      · rw [x c' i' a.1 z, wo c' i' (fun r => a.2 ⟨r.1, Or.inr (Or.inr r.2)⟩)]
        exact k.2 c' i' a
  · have k := u0 q
    have m30 : m2.1 30 p = nu.1 30 p := by rw [wo 30 p (fun r => absurd r.1 (by decide)), k.1]
    have r30 : jm_rg (nu.1 30 p) := by rw [← k.1]; exact hm 30 p
    rw [m30]
    refine jm_qiI r30 (fun m' e' => hF m' ?_)
    have x : ∀ c' i', ¬ (c' = c ∧ i' = i) → m'.1 c' i' = m2.1 c' i' := fun c' i' b => by
      rw [e']
      by_cases z : c' = c
      · rw [jm_wrI (fun r => b ⟨z, r⟩)]
      · rw [jm_wrO z]
    have xs : m'.1 c i = nu.1 30 p := by rw [e', jm_wrS]
    refine ⟨?_, ?_, ?_, fun r => by omega, fun _ => ⟨fun j => ?_, fun c' i' a b => ?_, fun c' i' a b => ?_⟩⟩
    · rw [x 0 57 (fun r => n57 ⟨r.1.symm, r.2.symm⟩), w57]
    · rw [x 0 55 (fun r => n55 ⟨r.1.symm, r.2.symm⟩), w55]
    · rw [x 0 56 (fun r => n56 ⟨r.1.symm, r.2.symm⟩), wo 0 56 (fun r => absurd r.2 (by decide))]
      exact u56
    · rw [x 30 j (fun r => c30 r.1.symm), wo 30 j (fun r => absurd r.1 (by decide))]
      exact k.1 j
    · by_cases z : c' = c ∧ i' = i
      · rw [z.1, z.2, xs, ep]
      · have ne : ¬ plV c' i' = p := fun r => z (pl_inj a hp (r.trans ep.symm))
        have q' := pl_q a
        rw [x c' i' z, wo c' i' (fun r => q'.2 ⟨r.1, Or.inr (Or.inr r.2)⟩)]
        exact k.2.1 c' i' a (by omega)
    · have z : ¬ (c' = c ∧ i' = i) := fun r => b (by rw [r.1, r.2]; exact ⟨hp, by omega⟩)
      rw [x c' i' z, wo c' i' (fun r => a.2 ⟨r.1, Or.inr (Or.inr r.2)⟩)]
      exact k.2.2 c' i' a (fun r => b ⟨r.1, by omega⟩)
end PL
