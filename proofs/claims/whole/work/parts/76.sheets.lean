/-! sheets -/
section SHT
variable {x : Bool} {C M : tI} {J Jc : tJ}
theorem Rl.wst (h : Rl x C M J) {C' M' : tI} (hW' : rl_W C' M') (hC : ∀ a b, (a = 0 → b ≠ 8) → C' a b = C a b) (hM : ∀ a b, (a = 0 → b ≠ 91) → M' a b = M a b) : Rl x C' M' J := by
  have n74 := h.n74
  have hx := tc_P4 x
  obtain ⟨hB, hT, hF, hN, _, hO, hV, hOw, hP, hH⟩ := h
  refine ⟨?_, ?_, ?_, ?_, hW', ?_, ?_, ?_, ?_, ?_⟩
  · rw [hM 0 12 (by omega)]; exact hB
  · exact hT.fr (fun a b _ => hC _ b (by omega)) (fun a b _ => hM _ b (by omega))
  · exact hF.fr (fun b _ => hC 1 b (by omega)) (fun b _ => hM 0 b (by omega))
  · exact hN.fr (fun b => hC _ b (by omega)) (fun b => hM _ b (by omega))
  · exact hO.fr (fun a b _ => hC _ b (by omega)) (fun a b _ => hM _ b (by omega))
  · exact hV.fr n74 (fun a b _ => hC _ b (by omega)) (fun a b _ => hM _ b (by omega))
  · exact hOw.fr (fun b => hC _ b (by omega))
  · exact hP.fr (fun a b _ => hC _ b (by omega)) (fun a b _ => hM _ b (by omega)) (fun _ _ _ => rfl)
  · exact hH.fr (fun a b _ => hC _ b (by omega)) (fun a b _ => hM _ b (by omega))
end SHT
