/-! THE WHOLE -/
theorem Rel_0 : Rel (Kq (Qs KP)) X0 M0 := by
  refine ⟨⟨0, by omega, rfl, rfl, fun i hi => absurd hi (by omega)⟩, ⟨0, by omega, rfl, rfl, fun i hi => absurd hi (by omega), rfl, bnd_0 _, rfl, bnd_0 _⟩, ⟨rfl, bnd_0 _⟩, ⟨rfl, ?_⟩, ⟨0, by omega, rfl, rfl, fun i hi => absurd hi (by omega)⟩, ⟨0, by omega, rfl, rfl, fun i hi => absurd hi (by omega)⟩, ⟨0, 0, by omega, rfl, by omega, rfl, rfl, fun i hi => absurd hi (by omega)⟩, ⟨0, rfl, by omega, fun i hi => ⟨?_, Or.inl ?_⟩⟩, ⟨0, fun _ => 0, ⟨rfl, by omega, fun i hi => absurd hi (by omega)⟩, Or.inl rfl, Or.inl rfl, Or.inl rfl⟩⟩
  · show bnd (4194303 : Int32) 22
    unfold bnd
    decide
  · rfl
  · rfl
theorem pure_all : Pure := by
  have hF : 2 ^ 40 < 2 ^ 41 := by decide
  have hK : KOK (Kq (Qs KP)) := Kq_ok Qs_ok
  refine ⟨2 ^ 41, Rel (Kq (Qs KP)), Rel_0, p_sign hK hF, p_end hK _, p_told Qs_ok hF, p_saying _, p_mark hK _, p_lives hK _, p_want hK _, p_forget hK _, p_sheet hK hF, p_holds Qs_ok hF, p_follows Qs_ok hF, p_decided Qs_ok hF, p_from Qs_ok hF, p_needs Qs_ok hF, p_fewest Qs_ok hF, p_idle Qs_ok hF, p_alike Qs_ok hF, p_clash Qs_ok hF, p_liars Qs_ok hF, p_truth Qs_ok hF, p_trusts Qs_ok hF, p_convicts Qs_ok hF, p_all Qs_ok hF, p_empty Qs_ok hF, p_chain Qs_ok hF, p_sorts KP_ok hF, p_sort KP_ok hF, p_both KP_ok hF, p_town Qs_ok KP_ok hF, p_refute Qs_ok KP_ok hF, p_judge Qs_ok hF, p_mood Qs_ok hF, p_figure Qs_ok hF, p_forms KP_ok Qs_ok hF, p_allow hK _, p_step hF, p_proof hF, p_rests hF, p_proved hF, p_gap hF, p_plead Qs_ok hF, p_pleaded _, p_stands hF, p_marks Qs_ok hF, p_strike hK _, p_keep hK _, p_again hK _, p_count _, p_row _⟩
