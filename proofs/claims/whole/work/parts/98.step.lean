/-! every call keeps it -/
theorem inv_step : ∀ st, Inv st → ∀ c a1 a2 a3 a4 a5, CaseP c a1 a2 a3 a4 a5 st Inv := by
  intro st hI c a1 a2 a3 a4 a5
  have b5 : (if a5 = 0 then 0 else 1 : Int32) = 0 ∨ (if a5 = 0 then 0 else 1 : Int32) = 1 := by
    by_cases e : a5 = 0
    · rw [if_pos e]; exact Or.inl rfl
    · rw [if_neg e]; exact Or.inr rfl
  exact ⟨fun _ => c_feed hI, fun _ => c_dale hI, fun _ => c_fault hI, fun _ => c_count hI, fun _ => c_person hI, fun _ => c_bride hI, fun _ => c_years hI, fun _ => c_weight hI, fun _ => c_days hI, fun _ => c_train hI, fun _ => c_onions hI, fun _ => c_putOff hI, fun _ => c_tie hI, fun _ => c_undo hI, fun _ => c_leader hI, fun _ => c_then hI, fun _ => c_led hI, fun _ => c_dog hI, fun _ => c_rank hI, fun _ => c_toTrain hI, fun _ => c_instead hI, fun _ => c_bestDay hI, fun _ => c_choice hI, fun _ => c_unloved hI, fun _ => c_tug hI, fun _ => c_decisive hI, fun _ => c_steps hI, fun _ => c_busiest hI, fun _ => c_crowd hI, fun _ => c_common hI, fun _ => c_see b5 hI, fun _ => c_hidden hI, fun _ => c_next hI, fun _ => c_forget hI, fun _ => c_game hI, fun _ => c_drawn hI, fun _ => c_image hI, fun _ => c_restore hI, fun _ => hI⟩
