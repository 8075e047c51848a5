section JW9
/-- a stretch of cells from cell s on -/
def jm_sg (g : jm_G) (mu : jm_M) : Nat → List jm_S → va_W
  | _, [] => []
  | s, x :: L => (g.2.2.1 s, jm_el g mu s x) :: jm_sg g mu (s + 1) L
theorem jm_sg_mi (g : jm_G) (mu : jm_M) : ∀ (L : List jm_S) (s : Nat), L.mapIdx (fun k sh => (g.2.2.1 (k + s), jm_el g mu (k + s) sh)) = jm_sg g mu s L
  | [], _ => rfl
  | x :: L, s => by
    rw [List.mapIdx_cons, Nat.zero_add]
    have h := jm_sg_mi g mu L (s + 1)
    show _ = (g.2.2.1 s, jm_el g mu s x) :: jm_sg g mu (s + 1) L
    rw [← h]
    refine congrArg _ (congrArg (fun F => List.mapIdx F L) ?_)
    funext k sh
    rw [show k + 1 + s = k + (s + 1) by omega]
theorem jm_sg_w (g : jm_G) (mu : jm_M) : jm_w g mu = jm_sg g mu 0 g.1 := jm_sg_mi g mu g.1 0
theorem jm_sg_app (g : jm_G) (mu : jm_M) (B : List jm_S) : ∀ (A : List jm_S) (s : Nat), jm_sg g mu s (A ++ B) = jm_sg g mu s A ++ jm_sg g mu (s + A.length) B
  | [], s => rfl
  | x :: A, s => by
    have h := jm_sg_app g mu B A (s + 1)
    show (g.2.2.1 s, jm_el g mu s x) :: jm_sg g mu (s + 1) (A ++ B) = (g.2.2.1 s, jm_el g mu s x) :: jm_sg g mu (s + 1) A ++ jm_sg g mu (s + (A.length + 1)) B
    rw [h, show s + 1 + A.length = s + (A.length + 1) by omega]
    rfl
theorem jm_sgz {g : jm_G} {mu : jm_M} {s n : Nat} {L : List jm_S} {W : va_W} (h : ∀ j : Nat, mu.1 s j = 0) (hW : jm_sg g mu (s + 1) L = W) : jm_sg g mu s (.inl n :: L) = (g.2.2.1 s, .inl (g.2.2.2.1.1, n, .inl (fun _ => 0))) :: W := by
  subst hW
  show (g.2.2.1 s, Sum.inl (g.2.2.2.1.1, n, Sum.inl (fun j : Nat => Int32.ofInt (mu.1 s j)))) :: _ = _
  rw [show (fun j : Nat => Int32.ofInt (mu.1 s j)) = (fun _ => (0 : Int32)) from funext (fun j => by rw [h j]; rfl)]
/-- fields from place j on -/
def jm_fq (g : jm_G) (mu : jm_M) (k : Nat) : Nat → List (Option Nat) → List Value
  | _, [] => []
  | j, x :: L => jm_fv g mu k j x :: jm_fq g mu k (j + 1) L
theorem jm_fq_mi (g : jm_G) (mu : jm_M) (k : Nat) : ∀ (L : List (Option Nat)) (s : Nat), L.mapIdx (fun j x => jm_fv g mu k (j + s) x) = jm_fq g mu k s L
  | [], _ => rfl
  | x :: L, s => by
    rw [List.mapIdx_cons, Nat.zero_add]
    have h := jm_fq_mi g mu k L (s + 1)
    show _ = jm_fv g mu k s x :: jm_fq g mu k (s + 1) L
    rw [← h]
    refine congrArg _ (congrArg (fun F => List.mapIdx F L) ?_)
    funext j y
    rw [show j + 1 + s = j + (s + 1) by omega]
theorem jm_fqr {g : jm_G} {mu : jm_M} {k j r : Nat} {L : List (Option Nat)} {V : List Value} (h : jm_fq g mu k (j + 1) L = V) : jm_fq g mu k j (some r :: L) = .ref (g.2.2.1 r) :: V := by
  rw [← h]
  rfl
theorem jm_fqi {g : jm_G} {mu : jm_M} {k j : Nat} {L : List (Option Nat)} {V : List Value} {z : Int32} (e : mu.1 k j = z.toInt) (h : jm_fq g mu k (j + 1) L = V) : jm_fq g mu k j (none :: L) = .int z :: V := by
  rw [← h]
  show jm_i (mu.1 k j) :: _ = _
  rw [e]
  show Value.int (Int32.ofInt z.toInt) :: _ = _
  rw [Int32.ofInt_toInt]
theorem jm_sgo {g : jm_G} {mu : jm_M} {s c : Nat} {o : List (Option Nat)} {V : List Value} {L : List jm_S} {W : va_W} (h : jm_fq g mu s 0 o = V) (hW : jm_sg g mu (s + 1) L = W) : jm_sg g mu s (.inr (.inr (.inr (c, o))) :: L) = (g.2.2.1 s, .inr (c, V)) :: W := by
  subst hW
  rw [← h, ← jm_fq_mi]
  rfl
theorem jm_sge {g : jm_G} {mu : jm_M} {s : Nat} {x : jm_S} {e : va_E} {L : List jm_S} {W : va_W} (h : jm_el g mu s x = e) (hW : jm_sg g mu (s + 1) L = W) : jm_sg g mu s (x :: L) = (g.2.2.1 s, e) :: W := by
  subst hW
  rw [← h]
  rfl
def gC0 (g : jc_G) (ad : Nat → Nat) (P : State → Prop) : jm_G := (jm_LC, g.1, ad, (g.2.1, g.2.2.1, g.2.2.2), P)
def gR0 (g : jc_G) (ad : Nat → Nat) (P : State → Prop) : jm_G := (jm_LR, g.1, ad, (g.2.1, g.2.2.1, g.2.2.2), P)
theorem wR_8 {g : jc_G} {ad : Nat → Nat} {P : State → Prop} {f : Nat → Int32} : jm_el (gR0 g ad P) (nu0R f) 8 (.inl 143) = .inl (g.2.1, 143, .inl f) := by
  show Sum.inl (g.2.1, 143, Sum.inl (fun j : Nat => Int32.ofInt (f ((j : Int).toNat)).toInt)) = _
  rw [show (fun j : Nat => Int32.ofInt (f ((j : Int).toNat)).toInt) = f from funext (fun j => by rw [Int.toNat_natCast, Int32.ofInt_toInt])]
theorem wR0 {g : jc_G} {ad : Nat → Nat} {P : State → Prop} {f : Nat → Int32} : jm_w (gR0 g ad P) (nu0R f) = wX12 g f ad := by
  rw [jm_sg_w]
  refine jm_sgo ?_ ?_
  · repeat (first | refine jm_fqr ?_ | refine jm_fqi rfl ?_)
    rfl
  iterate 7 refine jm_sgz (fun _ => rfl) ?_
  refine jm_sge wR_8 ?_
  iterate 22 refine jm_sgz (fun _ => rfl) ?_
  rfl
end JW9
