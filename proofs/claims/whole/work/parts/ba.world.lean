section JWA
theorem wC_93 {g : jc_G} {ad : Nat → Nat} {P : State → Prop} : jm_el (gC0 g ad P) mu0C 93 (.inr (.inr (.inl [94, 100, 106, 112, 118, 124]))) = .inl (g.2.2.2, 6, .inr (.inr (.inr (.inr (va_up (va_up (va_up (va_up (va_up (va_up (fun _ => none) (0 : Int32).toNatClampNeg (some (ad 94))) (1 : Int32).toNatClampNeg (some (ad 100))) (2 : Int32).toNatClampNeg (some (ad 106))) (3 : Int32).toNatClampNeg (some (ad 112))) (4 : Int32).toNatClampNeg (some (ad 118))) (5 : Int32).toNatClampNeg (some (ad 124))))))) := by
  show Sum.inl (g.2.2.2, 6, Sum.inr (Sum.inr (Sum.inr (Sum.inr _)))) = _
  refine congrArg (fun z => Sum.inl (g.2.2.2, 6, Sum.inr (Sum.inr (Sum.inr (Sum.inr z))))) ?_
  funext j
  match j with
  | 0 => rfl
  | 1 => rfl
  | 2 => rfl
  | 3 => rfl
  | 4 => rfl
  | 5 => rfl
  | j + 6 => rfl
set_option maxRecDepth 20000 in
theorem wC0 {g : jc_G} {ad : Nat → Nat} {P : State → Prop} : jm_w (gC0 g ad P) mu0C = wX11 g (ad 0) (fun j => ad (1 + j)) (fun j => ad (6 + j)) (fun j => ad (29 + j)) (fun j => ad (35 + j)) (fun j => ad (37 + j)) (fun j => ad (38 + j)) (fun j => ad (41 + j)) (fun j => ad (46 + j)) (fun j => ad (49 + j)) (fun j => ad (56 + j)) (fun j => ad (63 + j)) (fun j => ad (64 + j)) (fun j => ad (87 + j)) (ad 93) (fun j => ad (94 + j)) (fun j => ad (100 + j)) (fun j => ad (106 + j)) (fun j => ad (112 + j)) (fun j => ad (118 + j)) (fun j => ad (124 + j)) := by
  rw [jm_sg_w]
  simp only [wX11, wX7, wX8, wX5, wX3, wX6, wX1, wX0, wX2, wX4, wX9, wX10, List.cons_append, List.nil_append, List.append_assoc]
  show jm_sg (gC0 g ad P) mu0C 0 jm_LC = _
  unfold jm_LC
  repeat (first | refine jm_sgz (fun _ => rfl) ?_ | refine jm_sge wC_93 ?_ | (refine jm_sgo ?_ ?_; · (repeat (first | refine jm_fqr ?_ | refine jm_fqi rfl ?_)); rfl) | refine jm_sge rfl ?_)
  rfl
end JWA
