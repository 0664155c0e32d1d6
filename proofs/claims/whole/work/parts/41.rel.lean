def Rel (σ τ : Sg) : Prop := σ = τ
theorem sim_feed {σ τ : Sg} (h : Rel σ τ) (a0 : Int64) (a1 : Int32) : ∃ (r : Int32) (σ2 : Sg) (τ2 : Sg), FX9_feed a0 a1 σ = some (r, σ2) ∧ FX10_feed a0 a1 τ = some (r, τ2) ∧ Rel σ2 τ2 := by sorry
theorem sim_name {σ τ : Sg} (h : Rel σ τ) (a0 : Int32) : ∃ (r : Int32) (σ2 : Sg) (τ2 : Sg), FX9_name a0 σ = some (r, σ2) ∧ FX10_name a0 τ = some (r, τ2) ∧ Rel σ2 τ2 := by sorry
theorem sim_ofName {σ τ : Sg} (h : Rel σ τ) (a0 : Int32) (a1 : Int32) : ∃ (r : Int32) (σ2 : Sg) (τ2 : Sg), FX9_ofName a0 a1 σ = some (r, σ2) ∧ FX10_ofName a0 a1 τ = some (r, τ2) ∧ Rel σ2 τ2 := by sorry
theorem sim_sound {σ τ : Sg} (h : Rel σ τ) (a0 : Int32) (a1 : Int32) : ∃ (r : Int32) (σ2 : Sg) (τ2 : Sg), FX9_sound a0 a1 σ = some (r, σ2) ∧ FX10_sound a0 a1 τ = some (r, τ2) ∧ Rel σ2 τ2 := by sorry
theorem sim_clash {σ τ : Sg} (h : Rel σ τ) (a0 : Int32) (a1 : Int32) : ∃ (r : Int32) (σ2 : Sg) (τ2 : Sg), FX9_clash a0 a1 σ = some (r, σ2) ∧ FX10_clash a0 a1 τ = some (r, τ2) ∧ Rel σ2 τ2 := by sorry
theorem sim_strike {σ τ : Sg} (h : Rel σ τ) (a0 : Int32) (a1 : Int32) : ∃ (r : Int32) (σ2 : Sg) (τ2 : Sg), FX9_strike a0 a1 σ = some (r, σ2) ∧ FX10_strike a0 a1 τ = some (r, τ2) ∧ Rel σ2 τ2 := by sorry
theorem sim_person {σ τ : Sg} (h : Rel σ τ) (a0 : Int32) (a1 : Int32) : ∃ (r : Int32) (σ2 : Sg) (τ2 : Sg), FX9_person a0 a1 σ = some (r, σ2) ∧ FX10_person a0 a1 τ = some (r, τ2) ∧ Rel σ2 τ2 := by sorry
theorem sim_ofPerson {σ τ : Sg} (h : Rel σ τ) (a0 : Int32) (a1 : Int32) : ∃ (r : Int32) (σ2 : Sg) (τ2 : Sg), FX9_ofPerson a0 a1 σ = some (r, σ2) ∧ FX10_ofPerson a0 a1 τ = some (r, τ2) ∧ Rel σ2 τ2 := by sorry
theorem sim_as {σ τ : Sg} (h : Rel σ τ) (a0 : Int32) (a1 : Int32) : ∃ (r : Int32) (σ2 : Sg) (τ2 : Sg), FX9_as a0 a1 σ = some (r, σ2) ∧ FX10_as a0 a1 τ = some (r, τ2) ∧ Rel σ2 τ2 := by sorry
theorem sim_call {σ τ : Sg} (h : Rel σ τ) (a0 : Int32) (a1 : Int32) : ∃ (r : Int32) (σ2 : Sg) (τ2 : Sg), FX9_call a0 a1 σ = some (r, σ2) ∧ FX10_call a0 a1 τ = some (r, τ2) ∧ Rel σ2 τ2 := by sorry
theorem sim_near {σ τ : Sg} (h : Rel σ τ) (a0 : Int32) (a1 : Int32) (a2 : Int32) : ∃ (r : Int32) (σ2 : Sg) (τ2 : Sg), FX9_near a0 a1 a2 σ = some (r, σ2) ∧ FX10_near a0 a1 a2 τ = some (r, τ2) ∧ Rel σ2 τ2 := by sorry
theorem sim_nears {σ τ : Sg} (h : Rel σ τ) (a0 : Int32) : ∃ (r : Int32) (σ2 : Sg) (τ2 : Sg), FX9_nears a0 σ = some (r, σ2) ∧ FX10_nears a0 τ = some (r, τ2) ∧ Rel σ2 τ2 := by sorry
theorem sim_worth {σ τ : Sg} (h : Rel σ τ) (a0 : Int32) (a1 : Int32) : ∃ (r : Int32) (σ2 : Sg) (τ2 : Sg), FX9_worth a0 a1 σ = some (r, σ2) ∧ FX10_worth a0 a1 τ = some (r, τ2) ∧ Rel σ2 τ2 := by sorry
theorem sim_lawful {σ τ : Sg} (h : Rel σ τ) : ∃ (r : Int32), FX9_lawful σ = some r ∧ FX10_lawful τ = some r ∧ Rel σ τ := by sorry
theorem sim_text {σ τ : Sg} (h : Rel σ τ) (a0 : Int32) : ∃ (r : Int32) (σ2 : Sg) (τ2 : Sg), FX9_text a0 σ = some (r, σ2) ∧ FX10_text a0 τ = some (r, τ2) ∧ Rel σ2 τ2 := by sorry
theorem sim_law {σ τ : Sg} (h : Rel σ τ) (a0 : Int32) (a1 : Int32) (a2 : Int32) (a3 : Int32) : ∃ (r : Int32) (σ2 : Sg) (τ2 : Sg), FX9_law a0 a1 a2 a3 σ = some (r, σ2) ∧ FX10_law a0 a1 a2 a3 τ = some (r, τ2) ∧ Rel σ2 τ2 := by sorry
theorem sim_first {σ τ : Sg} (h : Rel σ τ) (a0 : Int32) : ∃ (r : Int32) (σ2 : Sg) (τ2 : Sg), FX9_first a0 σ = some (r, σ2) ∧ FX10_first a0 τ = some (r, τ2) ∧ Rel σ2 τ2 := by sorry
theorem sim_all {σ τ : Sg} (h : Rel σ τ) : ∃ (r : Int32) (σ2 : Sg) (τ2 : Sg), FX9_all σ = some (r, σ2) ∧ FX10_all τ = some (r, τ2) ∧ Rel σ2 τ2 := by sorry
theorem sim_best {σ τ : Sg} (h : Rel σ τ) (a0 : Int32) : ∃ (r : Int32) (σ2 : Sg) (τ2 : Sg), FX9_best a0 σ = some (r, σ2) ∧ FX10_best a0 τ = some (r, τ2) ∧ Rel σ2 τ2 := by sorry
theorem sim_fewest {σ τ : Sg} (h : Rel σ τ) (a0 : Int32) : ∃ (r : Int32) (σ2 : Sg) (τ2 : Sg), FX9_fewest a0 σ = some (r, σ2) ∧ FX10_fewest a0 τ = some (r, τ2) ∧ Rel σ2 τ2 := by sorry
theorem sim_give {σ τ : Sg} (h : Rel σ τ) (a0 : Int32) : ∃ (r : Int32) (σ2 : Sg) (τ2 : Sg), FX9_give a0 σ = some (r, σ2) ∧ FX10_give a0 τ = some (r, τ2) ∧ Rel σ2 τ2 := by sorry
theorem sim_changes {σ τ : Sg} (h : Rel σ τ) (a0 : Int32) (a1 : Int32) : ∃ (r : Int32) (σ2 : Sg) (τ2 : Sg), FX9_changes a0 a1 σ = some (r, σ2) ∧ FX10_changes a0 a1 τ = some (r, τ2) ∧ Rel σ2 τ2 := by sorry
theorem sim_side {σ τ : Sg} (h : Rel σ τ) (a0 : Int32) : ∃ (r : Int32) (σ2 : Sg) (τ2 : Sg), FX9_side a0 σ = some (r, σ2) ∧ FX10_side a0 τ = some (r, τ2) ∧ Rel σ2 τ2 := by sorry
theorem sim_rows {σ τ : Sg} (h : Rel σ τ) (a0 : Int32) : ∃ (r : Int64) (σ2 : Sg) (τ2 : Sg), FX9_rows a0 σ = some (r, σ2) ∧ FX10_rows 0 a0 τ = some (r, τ2) ∧ Rel σ2 τ2 := by sorry
theorem sim_made {σ τ : Sg} (h : Rel σ τ) (a0 : Int32) (a1 : Int32) (a2 : Int32) : ∃ (r : Int64) (σ2 : Sg) (τ2 : Sg), FX9_made a0 a1 a2 σ = some (r, σ2) ∧ FX10_made a0 a1 a2 τ = some (r, τ2) ∧ Rel σ2 τ2 := by sorry
theorem sim_strikes {σ τ : Sg} (h : Rel σ τ) (a0 : Int32) : ∃ (r : Int32) (σ2 : Sg) (τ2 : Sg), FX9_strikes a0 σ = some (r, σ2) ∧ FX10_strikes a0 τ = some (r, τ2) ∧ Rel σ2 τ2 := by sorry
theorem sim_births {σ τ : Sg} (h : Rel σ τ) (a0 : Int32) : ∃ (r : Int32) (σ2 : Sg) (τ2 : Sg), FX9_births a0 σ = some (r, σ2) ∧ FX10_births a0 τ = some (r, τ2) ∧ Rel σ2 τ2 := by sorry
theorem sim_seed {σ τ : Sg} (h : Rel σ τ) (a0 : Int32) : ∃ (r : Int32) (σ2 : Sg) (τ2 : Sg), FX9_seed a0 σ = some (r, σ2) ∧ FX10_seed a0 τ = some (r, τ2) ∧ Rel σ2 τ2 := by sorry
theorem sim_voice {σ τ : Sg} (h : Rel σ τ) (a0 : Int32) (a1 : Int32) (a2 : Int32) : ∃ (r : Int32) (σ2 : Sg) (τ2 : Sg), FX9_voice a0 a1 a2 σ = some (r, σ2) ∧ FX10_voice a0 a1 a2 τ = some (r, τ2) ∧ Rel σ2 τ2 := by sorry
theorem sim_trace {σ τ : Sg} (h : Rel σ τ) (a0 : Int32) : ∃ (r : Int32) (σ2 : Sg) (τ2 : Sg), FX9_trace a0 σ = some (r, σ2) ∧ FX10_trace a0 τ = some (r, τ2) ∧ Rel σ2 τ2 := by sorry
theorem sim_sheet {σ τ : Sg} (h : Rel σ τ) (a0 : Int32) (a1 : Int32) (a2 : Int32) : ∃ (r : Int32) (σ2 : Sg) (τ2 : Sg), FX9_sheet a0 a1 a2 σ = some (r, σ2) ∧ FX10_sheet a0 a1 a2 τ = some (r, τ2) ∧ Rel σ2 τ2 := by sorry
theorem sim_put {σ τ : Sg} (h : Rel σ τ) (a0 : Int32) (a1 : Int32) (a2 : Int32) : ∃ (r : Int32) (σ2 : Sg) (τ2 : Sg), FX9_put a0 a1 a2 σ = some (r, σ2) ∧ FX10_put a0 a1 a2 τ = some (r, τ2) ∧ Rel σ2 τ2 := by sorry
theorem sim_move {σ τ : Sg} (h : Rel σ τ) (a0 : Int32) (a1 : Int32) (a2 : Int32) (a3 : Int32) (a4 : Int32) : ∃ (r : Int32) (σ2 : Sg) (τ2 : Sg), FX9_move a0 a1 a2 a3 a4 σ = some (r, σ2) ∧ FX10_move a0 a1 a2 a3 a4 τ = some (r, τ2) ∧ Rel σ2 τ2 := by sorry
theorem sim_image {σ τ : Sg} (h : Rel σ τ) : ∃ (r : Int32) (σ2 : Sg) (τ2 : Sg), FX9_image σ = some (r, σ2) ∧ FX10_image τ = some (r, τ2) ∧ Rel σ2 τ2 := by sorry
theorem sim_restore {σ τ : Sg} (h : Rel σ τ) : ∃ (r : Int32) (σ2 : Sg) (τ2 : Sg), FX9_restore σ = some (r, σ2) ∧ FX10_restore τ = some (r, τ2) ∧ Rel σ2 τ2 := by sorry
theorem sim_tell {σ τ : Sg} (h : Rel σ τ) (a0 : Int32) : ∃ (r : Int32) (σ2 : Sg) (τ2 : Sg), FX9_tell a0 σ = some (r, σ2) ∧ FX10_tell a0 τ = some (r, τ2) ∧ Rel σ2 τ2 := by sorry
theorem sim_check {σ τ : Sg} (h : Rel σ τ) : ∃ (r : Int32) (σ2 : Sg) (τ2 : Sg), FX9_check σ = some (r, σ2) ∧ FX10_check τ = some (r, τ2) ∧ Rel σ2 τ2 := by sorry
theorem sim_count {σ τ : Sg} (h : Rel σ τ) (a0 : Int32) : ∃ (r : Int32) (σ2 : Sg) (τ2 : Sg), FX9_count a0 σ = some (r, σ2) ∧ FX10_count a0 τ = some (r, τ2) ∧ Rel σ2 τ2 := by sorry
theorem sim_told {σ τ : Sg} (h : Rel σ τ) (a0 : Int32) : ∃ (r : Int32) (σ2 : Sg) (τ2 : Sg), FX9_told a0 σ = some (r, σ2) ∧ FX10_told a0 τ = some (r, τ2) ∧ Rel σ2 τ2 := by sorry
def σ0 : Sg := (fun k => if k = 4 then 1 else if k = 10 then 1 else 0, fun a => if a = 58 then (fun _ => -1) else (fun _ => 0), fun _ _ => 0)
def τ0 : Sg := (fun _ => 0, fun a => if a = 1 then upd (fun _ => 0) 3 1 else (fun _ => 0), fun _ _ => 0)
theorem rel_init : Rel σ0 τ0 := by sorry
