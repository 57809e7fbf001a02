/-! THE RELATION at the start -/
theorem ST_init : ST 1 2 0 0 0 (fun _ => 1) I02 (I02 165) := by
  have h1 : ∀ p, p < 64 → I02 (2 + 2) p = I02 165 p ∧ I02 (2 + 9) p = I02 165 (64 + p) := by decide +kernel
  have h2 : ∀ i, i < 20 → I02 (2 + 5) ((0 + 20 - i) % 20) = I02 165 (704 + 4 * i) ∧ I02 (2 + 6) ((0 + 20 - i) % 20) = I02 165 (705 + 4 * i) ∧ I02 (2 + 7) ((0 + 20 - i) % 20) = I02 165 (706 + 4 * i) ∧ I02 (2 + 8) ((0 + 20 - i) % 20) = I02 165 (707 + 4 * i) := by decide +kernel
  refine ST.of ⟨⟨by omega, by omega, by omega, by omega⟩, ⟨?_, ?_, ?_, ?_, ?_, ?_⟩, fun j hj => by omega, ⟨fun p hp => (h1 p hp).1, ?_, ?_, 0, by omega, ?_, ?_⟩, fun h => by omega⟩ ⟨⟨0, by omega, ?_, ?_⟩, Or.inl ?_⟩ ⟨⟨50, by omega, ?_, ?_⟩, ⟨?_, Or.inl ?_⟩, ⟨0, by omega, ?_, ?_⟩, ?_, ?_, ⟨0, by omega, ?_, Or.inr ⟨rfl, ?_⟩⟩, fun p hp => (h1 p hp).2, ?_, fun i hi => h2 i hi⟩ <;> decide +kernel
