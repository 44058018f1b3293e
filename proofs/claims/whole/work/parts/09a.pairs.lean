/-- the class and the reference stand alike -/
def Rel (z y : Sg) : Prop := ∃ m, iv m ∧ Cr m z ∧ Mr m y
/-- both answer alike and stand alike then -/
def Sm (r : Int32) (z : Sg) (r' : Int32) (y : Sg) : Prop := r = r' ∧ Rel z y
section PAI
variable {z y : Sg}
theorem sm {m z y : Sg} (hI : iv m) (hC : Cr m z) (hM : Mr m y) (r : Int32) : Sm r z r y := ⟨rfl, m, hI, hC, hM⟩
theorem r_feed (h : Rel z y) (a b c d e : Int32) : pX4_feed a b c d e z (fun r z' => pX5_feed a b c d e y (fun r' y' => Sm r z' r' y')) := by
  obtain ⟨m, hI, hC, hM⟩ := h
  refine c_feed hI hC _ _ _ _ _ (fun ok z' hz => g_feed hI hM _ _ _ _ _ (fun _ y' hy => sm (iv_feed hI ok _ _ _ _ _) hz hy _) (fun q => absurd ok q)) (fun ok => g_feed hI hM _ _ _ _ _ (fun q => absurd q ok) (fun _ => sm hI hC hM _))
theorem r_rules (h : Rel z y) (n : Int32) : pX4_rules n z (fun r z' => pX5_rules n y (fun r' y' => Sm r z' r' y')) := by
  obtain ⟨m, hI, hC, hM⟩ := h
  refine c_rules hI hC _ (fun ok => g_rules hI hM _ tb_FIRST (fun _ _ => rfl) (fun _ => sm hI hC hM _) (fun q => absurd q ok)) (fun ok d hd z' hz => g_rules hI hM _ d hd (fun q => absurd ok q) (fun _ y' hy => sm (iv_rules hI _ _ hd) hz hy _))
theorem r_rule (h : Rel z y) (a : Int32) : pX4_rule a z (fun r z' => pX5_rule a y (fun r' y' => Sm r z' r' y')) := by
  obtain ⟨m, hI, hC, hM⟩ := h
  exact c_rule hC a (fun ok => g_rule hM a (fun _ => sm hI hC hM _) (fun q => absurd ok q)) (fun ok => g_rule hM a (fun q => absurd q ok) (fun _ => sm hI hC hM _))
theorem r_jumper (h : Rel z y) (t : Int32) : pX4_jumper t z (fun r z' => pX5_jumper t y (fun r' y' => Sm r z' r' y')) := by
  obtain ⟨m, hI, hC, hM⟩ := h
  exact c_jumper hI hC t (fun ok z' hz => g_jumper hI hM t (fun _ y' hi hy => sm hi hz hy _) (fun q => absurd ok q)) (fun ok => g_jumper hI hM t (fun q => absurd q ok) (fun _ => sm hI hC hM _))
theorem r_sensor (h : Rel z y) (s w : Int32) : pX4_sensor s w z (fun r z' => pX5_sensor s w y (fun r' y' => Sm r z' r' y')) := by
  obtain ⟨m, hI, hC, hM⟩ := h
  exact c_sensor hC s w (fun ok z' hz => g_sensor hI hM s w (fun _ y' hi hy => sm hi hz hy _) (fun q => absurd ok q)) (fun ok => g_sensor hI hM s w (fun q => absurd q ok) (fun _ => sm hI hC hM _))
theorem r_base (h : Rel z y) (g : Int32) : pX4_base g z (fun r z' => pX5_base g y (fun r' y' => Sm r z' r' y')) := by
  obtain ⟨m, hI, hC, hM⟩ := h
  exact c_base hC g (fun ok z' hz => g_base hI hM g (fun _ y' hi hy => sm hi hz hy _) (fun q => absurd ok q)) (fun ok => g_base hI hM g (fun q => absurd q ok) (fun _ => sm hI hC hM _))
theorem cb_01 (c : Int32) : 0 ≤ (cb c).toInt ∧ (cb c).toInt ≤ 1 := by
  unfold cb
  split <;> decide
theorem r_reading (h : Rel z y) (j r l g c : Int32) : pX4_reading j r l g c z (fun a z' => pX5_reading j r l g c y (fun a' y' => Sm a z' a' y')) := by
  obtain ⟨m, hI, hC, hM⟩ := h
  refine c_reading hI hC _ _ _ _ _ (fun z' hz => ?_)
  by_cases ok : okReading m j r l g
  · unfold mReading at hz
    rw [if_pos ok] at hz
    unfold rReading
    rw [if_pos ok]
    obtain ⟨hq, hq48, hqJ, -⟩ := jq_ok hI ok.1.1 ok.1.2.1
    refine g_reading hI hM _ _ _ _ _ (fun _ y' hy => ?_) (fun q => absurd ok q)
    rw [hq] at hz hy
    exact sm (iv_add hI ok.2 0 _ _ _ _ _ _ (by omega) hq48 hqJ ⟨fun _ => ⟨ok.1.2.2.1, ok.1.2.2.2, cb_01 c⟩, fun q => absurd q (by decide), fun q => absurd q (by decide)⟩) hz hy _
  · unfold mReading at hz
    rw [if_neg ok] at hz
    unfold rReading
    rw [if_neg ok]
    exact g_reading hI hM _ _ _ _ _ (fun q => absurd q ok) (fun _ => sm hI hz hM _)
theorem r_wind (h : Rel z y) (j a b c d e : Int32) : pX4_wind j a b c d e z (fun r z' => pX5_wind j a b c d e y (fun r' y' => Sm r z' r' y')) := by
  obtain ⟨m, hI, hC, hM⟩ := h
  refine c_wind hI hC _ _ _ _ _ _ (fun ok z' hz => g_wind hI hM _ _ _ _ _ _ (fun _ y' hy => ?_) (fun q => absurd ok q)) (fun ok => g_wind hI hM _ _ _ _ _ _ (fun q => absurd q ok) (fun _ => sm hI hC hM _))
  obtain ⟨q, h1, h2, h3, -⟩ := isC_ok hI ok.2.1
  rw [h3] at hz hy
  exact sm (iv_add hI ok.2.2 1 _ _ _ _ _ _ (by omega) h1 h2 ⟨fun q => absurd q (by decide), fun _ => ok.1, fun q => absurd q (by decide)⟩) hz hy _
theorem r_style (h : Rel z y) (j a b c d e : Int32) : pX4_style j a b c d e z (fun r z' => pX5_style j a b c d e y (fun r' y' => Sm r z' r' y')) := by
  obtain ⟨m, hI, hC, hM⟩ := h
  refine c_style hI hC _ _ _ _ _ _ (fun ok z' hz => g_styl hI hM _ _ _ _ _ _ (fun _ y' hy => ?_) (fun q => absurd ok q)) (fun ok => g_styl hI hM _ _ _ _ _ _ (fun q => absurd q ok) (fun _ => sm hI hC hM _))
  obtain ⟨q, h1, h2, h3, -⟩ := isC_ok hI ok.2.1
  rw [h3] at hz hy
  exact sm (iv_add hI ok.2.2 2 _ _ _ _ _ _ (by omega) h1 h2 ⟨fun q => absurd q (by decide), fun q => absurd q (by decide), fun _ => ok.1⟩) hz hy _
theorem r_strike (h : Rel z y) (j r b : Int32) : pX4_strike j r b z (fun a z' => pX5_strike j r b y (fun a' y' => Sm a z' a' y')) := by
  obtain ⟨m, hI, hC, hM⟩ := h
  refine c_strike hI hC _ _ _ (fun ok z' hz => g_strike hI hM _ _ _ (fun _ y' hy => ?_) (fun q => absurd ok q)) (fun ok z' hz => g_strike hI hM _ _ _ (fun q => absurd q ok) (fun _ => sm hI hz hM _))
  obtain ⟨hq, hq48, hqJ, -⟩ := jq_ok hI ok.1.1 ok.1.2
  rw [hq] at hz hy
  exact sm (iv_add hI ok.2.1 3 _ _ _ _ _ _ (by omega) hq48 hqJ ⟨fun q => absurd q (by decide), fun q => absurd q (by decide), fun q => absurd q (by decide)⟩) hz hy _
theorem r_points (h : Rel z y) (e j r w : Int32) : pX4_points e j r w z (fun a z' => pX5_points e j r w y (fun a' y' => Sm a z' a' y')) := by
  obtain ⟨m, hI, hC, hM⟩ := h
  refine c_points hI hC e j r w (fun ok h7 z' hz => ?_) (fun ok h7 hh z' hz => ?_) (fun ok h7 k hl hh z' hz => ?_) (fun ok => ?_)
  · exact g_points hI hM e j r w (fun _ _ => sm hI hz hM _) (fun _ q => absurd h7 q) (fun _ q => absurd h7 q) (fun q => absurd ok q)
  · exact g_points hI hM e j r w (fun _ q => absurd q h7) (fun _ _ _ => sm hI hz hM _) (fun _ _ k2 hl2 hh2 => absurd (hh.symm.trans hh2) (by decide)) (fun q => absurd ok q)
  · refine g_points hI hM e j r w (fun _ q => absurd q h7) (fun _ _ hh2 => absurd (hh2.symm.trans hh) (by decide)) (fun _ _ k2 hl2 hh2 => ?_) (fun q => absurd ok q)
    rw [hl] at hl2
    cases hl2
    exact sm hI hz hM _
  · exact g_points hI hM e j r w (fun q => absurd q ok) (fun q => absurd q ok) (fun q => absurd q ok) (fun _ => sm hI hC hM _)
theorem r_list (h : Rel z y) (e i : Int32) : pX4_list e i z (fun a z' => pX5_list e i y (fun a' y' => Sm a z' a' y')) := by
  obtain ⟨m, hI, hC, hM⟩ := h
  exact c_list2 hI hC e i (fun ok => g_list hI hM e i (fun _ => sm hI hC hM _) (fun q => absurd q ok)) (fun ok z' hz => g_list hI hM e i (fun q => absurd ok q) (fun _ y' hy => sm hI hz hy _))
theorem r_start (h : Rel z y) (e r i : Int32) : pX4_start e r i z (fun a z' => pX5_start e r i y (fun a' y' => Sm a z' a' y')) := by
  obtain ⟨m, hI, hC, hM⟩ := h
  refine c_start hI hC e r i (fun ok => ?_) (fun ok h0 hj => ?_) (fun ok h0 hj => ?_) (fun ok h0 z' hz => ?_)
  · exact g_start hI hM e r i (fun _ => sm hI hC hM _) (fun q => absurd q ok) (fun q => absurd q ok) (fun q => absurd q ok)
  · exact g_start hI hM e r i (fun q => absurd ok q) (fun _ _ _ => sm hI hC hM _) (fun _ _ q => absurd hj q) (fun _ q => absurd h0 q)
  · exact g_start hI hM e r i (fun q => absurd ok q) (fun _ _ q => absurd q hj) (fun _ _ _ => sm hI hC hM _) (fun _ q => absurd h0 q)
  · exact g_start hI hM e r i (fun q => absurd ok q) (fun _ q => absurd q h0) (fun _ q => absurd q h0) (fun _ _ y' hy => sm hI hz hy _)
theorem r_team (h : Rel z y) (e t : Int32) : pX4_team e t z (fun a z' => pX5_team e t y (fun a' y' => Sm a z' a' y')) := by
  obtain ⟨m, hI, hC, hM⟩ := h
  exact c_team hI hC e t (fun ok => g_team hI hM e t (fun _ => sm hI hC hM _) (fun q => absurd q ok)) (fun ok z' hz => g_team hI hM e t (fun q => absurd ok q) (fun _ y' hy => sm hI hz hy _))
theorem r_record (h : Rel z y) (w : Int32) : pX4_record w z (fun a z' => pX5_record w y (fun a' y' => Sm a z' a' y')) := by
  obtain ⟨m, hI, hC, hM⟩ := h
  exact c_record hI hC w (fun ok z' hz => g_record hI hM w (fun _ => sm hI hz hM _) (fun q => absurd ok q)) (fun ok => g_record hI hM w (fun q => absurd q ok) (fun _ => sm hI hC hM _))
theorem r_differ (h : Rel z y) (e f i : Int32) : pX4_differ e f i z (fun a z' => pX5_differ e f i y (fun a' y' => Sm a z' a' y')) := by
  obtain ⟨m, hI, hC, hM⟩ := h
  exact c_differ hI hC e f i (fun ok => g_differ hI hM e f i (fun _ => sm hI hC hM _) (fun q => absurd q ok)) (fun ok z' hz => g_differ hI hM e f i (fun q => absurd ok q) (fun _ y' hy => sm hI hz hy _))
theorem r_close (h : Rel z y) : pX4_close z (fun a z' => pX5_close y (fun a' y' => Sm a z' a' y')) := by
  obtain ⟨m, hI, hC, hM⟩ := h
  exact c_close hI hC (fun ok z' hz => g_close hI hM (fun _ y' hy => sm hI hz hy _) (fun q => absurd ok q)) (fun ok z' hz => g_close hI hM (fun q => absurd q ok) (fun _ y' hy => sm (iv_clM hI) hz hy _))
theorem r_count (h : Rel z y) (w : Int32) : pX4_count w z (fun a z' => pX5_count w y (fun a' y' => Sm a z' a' y')) := by
  obtain ⟨m, hI, hC, hM⟩ := h
  exact c_count hI hC w (fun z' hz => g_count hI hM w (fun y' hy => sm hI hz hy _))
theorem r_told (h : Rel z y) (e j w : Int32) : pX4_told e j w z (fun a z' => pX5_told e j w y (fun a' y' => Sm a z' a' y')) := by
  obtain ⟨m, hI, hC, hM⟩ := h
  have n43 : ¬ (4 : Int32) = 3 := by decide
  have ok3 : ∀ {e w : Int32}, okTold m e w → ¬ w = 3 ∧ ¬ w = 4 := fun {e w} h => ⟨fun q => by subst q; exact absurd h.2.2 (by decide), fun q => by subst q; exact absurd h.2.2 (by decide)⟩
  have bl : ∀ {P : Prop} {b : Bool}, b = true → b = false → P := fun h1 h2 => absurd (h1.symm.trans h2) (by decide)
  refine c_told hI hC e j w (fun hj => ?_) (fun hj w3 => ?_) (fun hj w4 => ?_) (fun hj a3 a4 ok => ?_) (fun hj ok w0 z' hz => ?_) (fun hj ok w0 ho z' hz => ?_) (fun hj ok w1 ho z' hz => ?_) (fun hj ok w2 ho z' hz => ?_)
  · exact g_told hI hM e j w (fun _ => sm hI hC hM _) (fun q => absurd q hj) (fun q => absurd q hj) (fun q => absurd q hj) (fun q => absurd q hj) (fun q => absurd q hj) (fun q => absurd q hj) (fun q => absurd q hj)
  · exact g_told hI hM e j w (fun q => absurd hj q) (fun _ _ => sm hI hC hM _) (fun _ q => absurd (q.symm.trans w3) n43) (fun _ q => absurd w3 q) (fun _ q => absurd w3 (ok3 q).1) (fun _ q => absurd w3 (ok3 q).1) (fun _ q => absurd w3 (ok3 q).1) (fun _ q => absurd w3 (ok3 q).1)
  · exact g_told hI hM e j w (fun q => absurd hj q) (fun _ q => absurd (w4.symm.trans q) n43) (fun _ _ => sm hI hC hM _) (fun _ _ q => absurd w4 q) (fun _ q => absurd w4 (ok3 q).2) (fun _ q => absurd w4 (ok3 q).2) (fun _ q => absurd w4 (ok3 q).2) (fun _ q => absurd w4 (ok3 q).2)
  · exact g_told hI hM e j w (fun q => absurd hj q) (fun _ q => absurd q a3) (fun _ q => absurd q a4) (fun _ _ _ _ => sm hI hC hM _) (fun _ q => absurd q ok) (fun _ q => absurd q ok) (fun _ q => absurd q ok) (fun _ q => absurd q ok)
  · exact g_told hI hM e j w (fun q => absurd hj q) (fun _ q => absurd q (ok3 ok).1) (fun _ q => absurd q (ok3 ok).2) (fun _ _ _ q => absurd ok q) (fun _ _ _ y' hy => sm hI hz hy _) (fun _ _ q => absurd w0 q) (fun _ _ q => absurd (w0.symm.trans q) (by decide)) (fun _ _ q => absurd (w0.symm.trans q) (by decide))
  · exact g_told hI hM e j w (fun q => absurd hj q) (fun _ q => absurd q (ok3 ok).1) (fun _ q => absurd q (ok3 ok).2) (fun _ _ _ q => absurd ok q) (fun _ _ q => absurd q w0) (fun _ _ _ _ y' hy => sm hI hz hy _) (fun _ _ _ q => bl q ho) (fun _ _ _ q => bl q ho)
  · exact g_told hI hM e j w (fun q => absurd hj q) (fun _ q => absurd q (ok3 ok).1) (fun _ q => absurd q (ok3 ok).2) (fun _ _ _ q => absurd ok q) (fun _ _ q => absurd (q.symm.trans w1) (by decide)) (fun _ _ _ q => bl ho q) (fun _ _ _ _ y' hy => sm hI hz hy _) (fun _ _ q => absurd (w1.symm.trans q) (by decide))
  · exact g_told hI hM e j w (fun q => absurd hj q) (fun _ q => absurd q (ok3 ok).1) (fun _ q => absurd q (ok3 ok).2) (fun _ _ _ q => absurd ok q) (fun _ _ q => absurd (q.symm.trans w2) (by decide)) (fun _ _ _ q => bl ho q) (fun _ _ q => absurd (q.symm.trans w2) (by decide)) (fun _ _ _ _ y' hy => sm hI hz hy _)
end PAI
