def N0 : Nat := 5000
def Rel (σ τ : St) : Prop := True
theorem e_man {σ τ : St} (hR : Rel σ τ) (a1 : Int32) (a2 : Int32) (a3 : Int32) : ∃ (σ1 τ1 : St) (r : Int32), fC_man N0 σ a1 a2 a3 = some (σ1, r) ∧ fM_man N0 τ a1 a2 a3 = some (τ1, r) ∧ Rel σ1 τ1 := sorry
theorem e_part {σ τ : St} (hR : Rel σ τ) (a1 : Int32) (a2 : Int32) (a3 : Int32) : ∃ (σ1 τ1 : St) (r : Int32), fC_part N0 σ a1 a2 a3 = some (σ1, r) ∧ fM_part N0 τ a1 a2 a3 = some (τ1, r) ∧ Rel σ1 τ1 := sorry
theorem e_move {σ τ : St} (hR : Rel σ τ) (a1 : Int32) (a2 : Int32) (a3 : Int32) : ∃ (σ1 τ1 : St) (r : Int32), fC_move N0 σ a1 a2 a3 = some (σ1, r) ∧ fM_move N0 τ a1 a2 a3 = some (τ1, r) ∧ Rel σ1 τ1 := sorry
theorem e_front {σ τ : St} (hR : Rel σ τ) (a1 : Int32) (a2 : Int32) (a3 : Int32) : ∃ (σ1 τ1 : St) (r : Int64), fC_front N0 σ a1 a2 a3 = some (σ1, r) ∧ fM_front N0 τ a1 a2 a3 = some (τ1, r) ∧ Rel σ1 τ1 := sorry
theorem e_camera {σ τ : St} (hR : Rel σ τ) (a1 : Int32) (a2 : Int32) (a3 : Int32) : ∃ (σ1 τ1 : St) (r : Int32), fC_camera N0 σ a1 a2 a3 = some (σ1, r) ∧ fM_camera N0 τ a1 a2 a3 = some (τ1, r) ∧ Rel σ1 τ1 := sorry
theorem e_frame {σ τ : St} (hR : Rel σ τ) (a1 : Int32) (a2 : Int32) : ∃ (σ1 τ1 : St) (r : Int32), fC_frame N0 σ a1 a2 = some (σ1, r) ∧ fM_frame N0 τ a1 a2 = some (τ1, r) ∧ Rel σ1 τ1 := sorry
theorem e_sees {σ τ : St} (hR : Rel σ τ) (a1 : Int32) (a2 : Int32) : ∃ (σ1 τ1 : St) (r : Int64), fC_sees N0 σ a1 a2 = some (σ1, r) ∧ fM_sees N0 τ a1 a2 = some (τ1, r) ∧ Rel σ1 τ1 := sorry
theorem e_crosser {σ τ : St} (hR : Rel σ τ) (a1 : Int32) (a2 : Int32) : ∃ (σ1 τ1 : St) (r : Int32), fC_crosser N0 σ a1 a2 = some (σ1, r) ∧ fM_crosser N0 τ a1 a2 = some (τ1, r) ∧ Rel σ1 τ1 := sorry
theorem e_feed {σ τ : St} (hR : Rel σ τ) (a1 : Int32) (a2 : Int64) : ∃ (σ1 τ1 : St) (r : Int32), fC_feed N0 σ a1 a2 = some (σ1, r) ∧ fM_feed N0 τ a1 a2 = some (τ1, r) ∧ Rel σ1 τ1 := sorry
theorem e_text {σ τ : St} (hR : Rel σ τ) : ∃ (σ1 τ1 : St) (r : Int32), fC_text N0 σ = some (σ1, r) ∧ fM_text N0 τ = some (τ1, r) ∧ Rel σ1 τ1 := sorry
theorem e_force {σ τ : St} (hR : Rel σ τ) (a1 : Int32) : ∃ (σ1 τ1 : St) (r : Int32), fC_force N0 σ a1 = some (σ1, r) ∧ fM_force N0 τ a1 = some (τ1, r) ∧ Rel σ1 τ1 := sorry
theorem e_says {σ τ : St} (hR : Rel σ τ) (a1 : Int32) (a2 : Int32) (a3 : Int32) (a4 : Int32) : ∃ (σ1 τ1 : St) (r : Int64), fC_says N0 σ a1 a2 a3 a4 = some (σ1, r) ∧ fM_says N0 τ a1 a2 a3 a4 = some (τ1, r) ∧ Rel σ1 τ1 := sorry
theorem e_width {σ τ : St} (hR : Rel σ τ) (a1 : Int32) : ∃ (σ1 τ1 : St) (r : Int32), fC_width N0 σ a1 = some (σ1, r) ∧ fM_width N0 τ a1 = some (τ1, r) ∧ Rel σ1 τ1 := sorry
theorem e_call {σ τ : St} (hR : Rel σ τ) (a1 : Int32) (a2 : Int32) (a3 : Int32) (a4 : Int32) (a5 : Int32) : ∃ (σ1 τ1 : St) (r : Int32), fC_call N0 σ a1 a2 a3 a4 a5 = some (σ1, r) ∧ fM_call N0 τ a1 a2 a3 a4 a5 = some (τ1, r) ∧ Rel σ1 τ1 := sorry
theorem e_told {σ τ : St} (hR : Rel σ τ) (a1 : Int32) (a2 : Int32) : ∃ (σ1 τ1 : St) (r : Int64), fC_told N0 σ a1 a2 = some (σ1, r) ∧ fM_told N0 τ a1 a2 = some (τ1, r) ∧ Rel σ1 τ1 := sorry
theorem e_offside {σ τ : St} (hR : Rel σ τ) : ∃ (σ1 τ1 : St) (r : Int32), fC_offside N0 σ = some (σ1, r) ∧ fM_offside N0 τ = some (τ1, r) ∧ Rel σ1 τ1 := sorry
theorem e_wrong {σ τ : St} (hR : Rel σ τ) (a1 : Int32) (a2 : Int32) (a3 : Int32) (a4 : Int32) : ∃ (σ1 τ1 : St) (r : Int32), fC_wrong N0 σ a1 a2 a3 a4 = some (σ1, r) ∧ fM_wrong N0 τ a1 a2 a3 a4 = some (τ1, r) ∧ Rel σ1 τ1 := sorry
theorem e_best {σ τ : St} (hR : Rel σ τ) (a1 : Int32) (a2 : Int32) (a3 : Int32) : ∃ (σ1 τ1 : St) (r : Int32), fC_best N0 σ a1 a2 a3 = some (σ1, r) ∧ fM_best N0 τ a1 a2 a3 = some (τ1, r) ∧ Rel σ1 τ1 := sorry
theorem e_match {σ τ : St} (hR : Rel σ τ) (a1 : Int32) (a2 : Int32) (a3 : Int32) : ∃ (σ1 τ1 : St) (r : Int32), fC_match N0 σ a1 a2 a3 = some (σ1, r) ∧ fM_match N0 τ a1 a2 a3 = some (τ1, r) ∧ Rel σ1 τ1 := sorry
theorem e_table {σ τ : St} (hR : Rel σ τ) (a1 : Int32) (a2 : Int32) (a3 : Int32) : ∃ (σ1 τ1 : St) (r : Int32), fC_table N0 σ a1 a2 a3 = some (σ1, r) ∧ fM_table N0 τ a1 a2 a3 = some (τ1, r) ∧ Rel σ1 τ1 := sorry
theorem e_season {σ τ : St} (hR : Rel σ τ) (a1 : Int32) : ∃ (σ1 τ1 : St) (r : Int32), fC_season N0 σ a1 = some (σ1, r) ∧ fM_season N0 τ a1 = some (τ1, r) ∧ Rel σ1 τ1 := sorry
theorem e_stand {σ τ : St} (hR : Rel σ τ) (a1 : Int32) (a2 : Int32) (a3 : Int32) : ∃ (σ1 τ1 : St) (r : Int32), fC_stand N0 σ a1 a2 a3 = some (σ1, r) ∧ fM_stand N0 τ a1 a2 a3 = some (τ1, r) ∧ Rel σ1 τ1 := sorry
theorem e_shown {σ τ : St} (hR : Rel σ τ) (a1 : Int32) (a2 : Int32) : ∃ (σ1 τ1 : St) (r : Int32), fC_shown N0 σ a1 a2 = some (σ1, r) ∧ fM_shown N0 τ a1 a2 = some (τ1, r) ∧ Rel σ1 τ1 := sorry
theorem e_split {σ τ : St} (hR : Rel σ τ) : ∃ (σ1 τ1 : St) (r : Int32), fC_split N0 σ = some (σ1, r) ∧ fM_split N0 τ = some (τ1, r) ∧ Rel σ1 τ1 := sorry
theorem e_image {σ τ : St} (hR : Rel σ τ) : ∃ (σ1 τ1 : St) (r : Int32), fC_image N0 σ = some (σ1, r) ∧ fM_image N0 τ = some (τ1, r) ∧ Rel σ1 τ1 := sorry
theorem e_back {σ τ : St} (hR : Rel σ τ) : ∃ (σ1 τ1 : St) (r : Int32), fC_back N0 σ = some (σ1, r) ∧ fM_back N0 τ = some (τ1, r) ∧ Rel σ1 τ1 := sorry
theorem e_count {σ τ : St} (hR : Rel σ τ) (a1 : Int32) : ∃ (σ1 τ1 : St) (r : Int32), fC_count N0 σ a1 = some (σ1, r) ∧ fM_count N0 τ a1 = some (τ1, r) ∧ Rel σ1 τ1 := sorry
theorem e_sheet {σ τ : St} (hR : Rel σ τ) (a1 : Int32) (a2 : Int32) (a3 : Int32) : ∃ (σ1 τ1 : St) (r : Int32), fC_sheet N0 σ a1 a2 a3 = some (σ1, r) ∧ fM_sheet N0 τ a1 a2 a3 = some (τ1, r) ∧ Rel σ1 τ1 := sorry
theorem e_cell {σ τ : St} (hR : Rel σ τ) (a1 : Int32) (a2 : Int32) (a3 : Int32) : ∃ (σ1 τ1 : St) (r : Int32), fC_cell N0 σ a1 a2 a3 = some (σ1, r) ∧ fM_cell N0 τ a1 a2 a3 = some (τ1, r) ∧ Rel σ1 τ1 := sorry
theorem e_copy {σ τ : St} (hR : Rel σ τ) (a1 : Int32) (a2 : Int32) (a3 : Int32) (a4 : Int32) (a5 : Int32) : ∃ (σ1 τ1 : St) (r : Int32), fC_copy N0 σ a1 a2 a3 a4 a5 = some (σ1, r) ∧ fM_copy N0 τ a1 a2 a3 a4 a5 = some (τ1, r) ∧ Rel σ1 τ1 := sorry
theorem e_men {σ τ : St} (hR : Rel σ τ) (a1 : Int32) (a2 : Int32) (a3 : Int32) (a4 : Int32) : ∃ (σ1 τ1 : St) (r : Int32), fC_men N0 σ a1 a2 a3 a4 = some (σ1, r) ∧ fM_men N0 τ a1 a2 a3 a4 = some (τ1, r) ∧ Rel σ1 τ1 := sorry
theorem e_taken {σ τ : St} (hR : Rel σ τ) (a1 : Int32) (a2 : Int32) : ∃ (σ1 τ1 : St) (r : Int32), fC_taken N0 σ a1 a2 = some (σ1, r) ∧ fM_taken N0 τ a1 a2 = some (τ1, r) ∧ Rel σ1 τ1 := sorry
theorem e_init : ∃ (σ τ : St), fC_init N0 σC0 = some (σ, ()) ∧ fM_init N0 σM0 = some (τ, ()) ∧ Rel σ τ := sorry
