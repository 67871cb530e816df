theorem zm_row_row (τ : MS) (v : (Nat → Int32)) : ms_row (ms_row_s τ v) = v := rfl
theorem zm_row_kept (τ : MS) (v : Int32) : ms_row (ms_kept_s τ v) = ms_row τ := rfl
theorem zm_row_silent (τ : MS) (v : Int32) : ms_row (ms_silent_s τ v) = ms_row τ := rfl
theorem zm_row_xs (τ : MS) (v : (Nat → Int32)) : ms_row (ms_xs_s τ v) = ms_row τ := rfl
theorem zm_row_ys (τ : MS) (v : (Nat → Int32)) : ms_row (ms_ys_s τ v) = ms_row τ := rfl
theorem zm_row_xMany (τ : MS) (v : Int32) : ms_row (ms_xMany_s τ v) = ms_row τ := rfl
theorem zm_row_yMany (τ : MS) (v : Int32) : ms_row (ms_yMany_s τ v) = ms_row τ := rfl
theorem zm_row_isNode (τ : MS) (v : (Nat → Int32)) : ms_row (ms_isNode_s τ v) = ms_row τ := rfl
theorem zm_row_right (τ : MS) (v : (Nat → Int32)) : ms_row (ms_right_s τ v) = ms_row τ := rfl
theorem zm_row_down (τ : MS) (v : (Nat → Int32)) : ms_row (ms_down_s τ v) = ms_row τ := rfl
theorem zm_row_toEnd (τ : MS) (v : (Nat → Int32)) : ms_row (ms_toEnd_s τ v) = ms_row τ := rfl
theorem zm_row_wayX (τ : MS) (v : (Nat → Int32)) : ms_row (ms_wayX_s τ v) = ms_row τ := rfl
theorem zm_row_wayY (τ : MS) (v : (Nat → Int32)) : ms_row (ms_wayY_s τ v) = ms_row τ := rfl
theorem zm_row_wayMany (τ : MS) (v : Int32) : ms_row (ms_wayMany_s τ v) = ms_row τ := rfl
theorem zm_row_inner (τ : MS) (v : (Nat → Int32)) : ms_row (ms_inner_s τ v) = ms_row τ := rfl
theorem zm_row_laneOf (τ : MS) (v : (Nat → Int32)) : ms_row (ms_laneOf_s τ v) = ms_row τ := rfl
theorem zm_row_isIn (τ : MS) (v : (Nat → Int32)) : ms_row (ms_isIn_s τ v) = ms_row τ := rfl
theorem zm_row_inners (τ : MS) (v : Int32) : ms_row (ms_inners_s τ v) = ms_row τ := rfl
theorem zm_row_out (τ : MS) (v : (Nat → Int32)) : ms_row (ms_out_s τ v) = ms_row τ := rfl
theorem zm_row_outMany (τ : MS) (v : Int32) : ms_row (ms_outMany_s τ v) = ms_row τ := rfl
theorem zm_row_text (τ : MS) (v : (Nat → Int32)) : ms_row (ms_text_s τ v) = ms_row τ := rfl
theorem zm_row_length (τ : MS) (v : Int32) : ms_row (ms_length_s τ v) = ms_row τ := rfl
theorem zm_row_at (τ : MS) (v : Int32) : ms_row (ms_at_s τ v) = ms_row τ := rfl
theorem zm_row_fine (τ : MS) (v : Int32) : ms_row (ms_fine_s τ v) = ms_row τ := rfl
theorem zm_row_number (τ : MS) (v : (Nat → Int32)) : ms_row (ms_number_s τ v) = ms_row τ := rfl
theorem zm_row_h (τ : MS) (v : Int64) : ms_row (ms_h_s τ v) = ms_row τ := rfl
theorem zm_kept_row (τ : MS) (v : (Nat → Int32)) : ms_kept (ms_row_s τ v) = ms_kept τ := rfl
theorem zm_kept_kept (τ : MS) (v : Int32) : ms_kept (ms_kept_s τ v) = v := rfl
theorem zm_kept_silent (τ : MS) (v : Int32) : ms_kept (ms_silent_s τ v) = ms_kept τ := rfl
theorem zm_kept_xs (τ : MS) (v : (Nat → Int32)) : ms_kept (ms_xs_s τ v) = ms_kept τ := rfl
theorem zm_kept_ys (τ : MS) (v : (Nat → Int32)) : ms_kept (ms_ys_s τ v) = ms_kept τ := rfl
theorem zm_kept_xMany (τ : MS) (v : Int32) : ms_kept (ms_xMany_s τ v) = ms_kept τ := rfl
theorem zm_kept_yMany (τ : MS) (v : Int32) : ms_kept (ms_yMany_s τ v) = ms_kept τ := rfl
theorem zm_kept_isNode (τ : MS) (v : (Nat → Int32)) : ms_kept (ms_isNode_s τ v) = ms_kept τ := rfl
theorem zm_kept_right (τ : MS) (v : (Nat → Int32)) : ms_kept (ms_right_s τ v) = ms_kept τ := rfl
theorem zm_kept_down (τ : MS) (v : (Nat → Int32)) : ms_kept (ms_down_s τ v) = ms_kept τ := rfl
theorem zm_kept_toEnd (τ : MS) (v : (Nat → Int32)) : ms_kept (ms_toEnd_s τ v) = ms_kept τ := rfl
theorem zm_kept_wayX (τ : MS) (v : (Nat → Int32)) : ms_kept (ms_wayX_s τ v) = ms_kept τ := rfl
theorem zm_kept_wayY (τ : MS) (v : (Nat → Int32)) : ms_kept (ms_wayY_s τ v) = ms_kept τ := rfl
theorem zm_kept_wayMany (τ : MS) (v : Int32) : ms_kept (ms_wayMany_s τ v) = ms_kept τ := rfl
theorem zm_kept_inner (τ : MS) (v : (Nat → Int32)) : ms_kept (ms_inner_s τ v) = ms_kept τ := rfl
theorem zm_kept_laneOf (τ : MS) (v : (Nat → Int32)) : ms_kept (ms_laneOf_s τ v) = ms_kept τ := rfl
theorem zm_kept_isIn (τ : MS) (v : (Nat → Int32)) : ms_kept (ms_isIn_s τ v) = ms_kept τ := rfl
theorem zm_kept_inners (τ : MS) (v : Int32) : ms_kept (ms_inners_s τ v) = ms_kept τ := rfl
theorem zm_kept_out (τ : MS) (v : (Nat → Int32)) : ms_kept (ms_out_s τ v) = ms_kept τ := rfl
theorem zm_kept_outMany (τ : MS) (v : Int32) : ms_kept (ms_outMany_s τ v) = ms_kept τ := rfl
theorem zm_kept_text (τ : MS) (v : (Nat → Int32)) : ms_kept (ms_text_s τ v) = ms_kept τ := rfl
theorem zm_kept_length (τ : MS) (v : Int32) : ms_kept (ms_length_s τ v) = ms_kept τ := rfl
theorem zm_kept_at (τ : MS) (v : Int32) : ms_kept (ms_at_s τ v) = ms_kept τ := rfl
theorem zm_kept_fine (τ : MS) (v : Int32) : ms_kept (ms_fine_s τ v) = ms_kept τ := rfl
theorem zm_kept_number (τ : MS) (v : (Nat → Int32)) : ms_kept (ms_number_s τ v) = ms_kept τ := rfl
theorem zm_kept_h (τ : MS) (v : Int64) : ms_kept (ms_h_s τ v) = ms_kept τ := rfl
theorem zm_silent_row (τ : MS) (v : (Nat → Int32)) : ms_silent (ms_row_s τ v) = ms_silent τ := rfl
theorem zm_silent_kept (τ : MS) (v : Int32) : ms_silent (ms_kept_s τ v) = ms_silent τ := rfl
theorem zm_silent_silent (τ : MS) (v : Int32) : ms_silent (ms_silent_s τ v) = v := rfl
theorem zm_silent_xs (τ : MS) (v : (Nat → Int32)) : ms_silent (ms_xs_s τ v) = ms_silent τ := rfl
theorem zm_silent_ys (τ : MS) (v : (Nat → Int32)) : ms_silent (ms_ys_s τ v) = ms_silent τ := rfl
theorem zm_silent_xMany (τ : MS) (v : Int32) : ms_silent (ms_xMany_s τ v) = ms_silent τ := rfl
theorem zm_silent_yMany (τ : MS) (v : Int32) : ms_silent (ms_yMany_s τ v) = ms_silent τ := rfl
theorem zm_silent_isNode (τ : MS) (v : (Nat → Int32)) : ms_silent (ms_isNode_s τ v) = ms_silent τ := rfl
theorem zm_silent_right (τ : MS) (v : (Nat → Int32)) : ms_silent (ms_right_s τ v) = ms_silent τ := rfl
theorem zm_silent_down (τ : MS) (v : (Nat → Int32)) : ms_silent (ms_down_s τ v) = ms_silent τ := rfl
theorem zm_silent_toEnd (τ : MS) (v : (Nat → Int32)) : ms_silent (ms_toEnd_s τ v) = ms_silent τ := rfl
theorem zm_silent_wayX (τ : MS) (v : (Nat → Int32)) : ms_silent (ms_wayX_s τ v) = ms_silent τ := rfl
theorem zm_silent_wayY (τ : MS) (v : (Nat → Int32)) : ms_silent (ms_wayY_s τ v) = ms_silent τ := rfl
theorem zm_silent_wayMany (τ : MS) (v : Int32) : ms_silent (ms_wayMany_s τ v) = ms_silent τ := rfl
theorem zm_silent_inner (τ : MS) (v : (Nat → Int32)) : ms_silent (ms_inner_s τ v) = ms_silent τ := rfl
theorem zm_silent_laneOf (τ : MS) (v : (Nat → Int32)) : ms_silent (ms_laneOf_s τ v) = ms_silent τ := rfl
theorem zm_silent_isIn (τ : MS) (v : (Nat → Int32)) : ms_silent (ms_isIn_s τ v) = ms_silent τ := rfl
theorem zm_silent_inners (τ : MS) (v : Int32) : ms_silent (ms_inners_s τ v) = ms_silent τ := rfl
theorem zm_silent_out (τ : MS) (v : (Nat → Int32)) : ms_silent (ms_out_s τ v) = ms_silent τ := rfl
theorem zm_silent_outMany (τ : MS) (v : Int32) : ms_silent (ms_outMany_s τ v) = ms_silent τ := rfl
theorem zm_silent_text (τ : MS) (v : (Nat → Int32)) : ms_silent (ms_text_s τ v) = ms_silent τ := rfl
theorem zm_silent_length (τ : MS) (v : Int32) : ms_silent (ms_length_s τ v) = ms_silent τ := rfl
theorem zm_silent_at (τ : MS) (v : Int32) : ms_silent (ms_at_s τ v) = ms_silent τ := rfl
theorem zm_silent_fine (τ : MS) (v : Int32) : ms_silent (ms_fine_s τ v) = ms_silent τ := rfl
theorem zm_silent_number (τ : MS) (v : (Nat → Int32)) : ms_silent (ms_number_s τ v) = ms_silent τ := rfl
theorem zm_silent_h (τ : MS) (v : Int64) : ms_silent (ms_h_s τ v) = ms_silent τ := rfl
theorem zm_xs_row (τ : MS) (v : (Nat → Int32)) : ms_xs (ms_row_s τ v) = ms_xs τ := rfl
theorem zm_xs_kept (τ : MS) (v : Int32) : ms_xs (ms_kept_s τ v) = ms_xs τ := rfl
theorem zm_xs_silent (τ : MS) (v : Int32) : ms_xs (ms_silent_s τ v) = ms_xs τ := rfl
theorem zm_xs_xs (τ : MS) (v : (Nat → Int32)) : ms_xs (ms_xs_s τ v) = v := rfl
theorem zm_xs_ys (τ : MS) (v : (Nat → Int32)) : ms_xs (ms_ys_s τ v) = ms_xs τ := rfl
theorem zm_xs_xMany (τ : MS) (v : Int32) : ms_xs (ms_xMany_s τ v) = ms_xs τ := rfl
theorem zm_xs_yMany (τ : MS) (v : Int32) : ms_xs (ms_yMany_s τ v) = ms_xs τ := rfl
theorem zm_xs_isNode (τ : MS) (v : (Nat → Int32)) : ms_xs (ms_isNode_s τ v) = ms_xs τ := rfl
theorem zm_xs_right (τ : MS) (v : (Nat → Int32)) : ms_xs (ms_right_s τ v) = ms_xs τ := rfl
theorem zm_xs_down (τ : MS) (v : (Nat → Int32)) : ms_xs (ms_down_s τ v) = ms_xs τ := rfl
theorem zm_xs_toEnd (τ : MS) (v : (Nat → Int32)) : ms_xs (ms_toEnd_s τ v) = ms_xs τ := rfl
theorem zm_xs_wayX (τ : MS) (v : (Nat → Int32)) : ms_xs (ms_wayX_s τ v) = ms_xs τ := rfl
theorem zm_xs_wayY (τ : MS) (v : (Nat → Int32)) : ms_xs (ms_wayY_s τ v) = ms_xs τ := rfl
theorem zm_xs_wayMany (τ : MS) (v : Int32) : ms_xs (ms_wayMany_s τ v) = ms_xs τ := rfl
theorem zm_xs_inner (τ : MS) (v : (Nat → Int32)) : ms_xs (ms_inner_s τ v) = ms_xs τ := rfl
theorem zm_xs_laneOf (τ : MS) (v : (Nat → Int32)) : ms_xs (ms_laneOf_s τ v) = ms_xs τ := rfl
theorem zm_xs_isIn (τ : MS) (v : (Nat → Int32)) : ms_xs (ms_isIn_s τ v) = ms_xs τ := rfl
theorem zm_xs_inners (τ : MS) (v : Int32) : ms_xs (ms_inners_s τ v) = ms_xs τ := rfl
theorem zm_xs_out (τ : MS) (v : (Nat → Int32)) : ms_xs (ms_out_s τ v) = ms_xs τ := rfl
theorem zm_xs_outMany (τ : MS) (v : Int32) : ms_xs (ms_outMany_s τ v) = ms_xs τ := rfl
theorem zm_xs_text (τ : MS) (v : (Nat → Int32)) : ms_xs (ms_text_s τ v) = ms_xs τ := rfl
theorem zm_xs_length (τ : MS) (v : Int32) : ms_xs (ms_length_s τ v) = ms_xs τ := rfl
theorem zm_xs_at (τ : MS) (v : Int32) : ms_xs (ms_at_s τ v) = ms_xs τ := rfl
theorem zm_xs_fine (τ : MS) (v : Int32) : ms_xs (ms_fine_s τ v) = ms_xs τ := rfl
theorem zm_xs_number (τ : MS) (v : (Nat → Int32)) : ms_xs (ms_number_s τ v) = ms_xs τ := rfl
theorem zm_xs_h (τ : MS) (v : Int64) : ms_xs (ms_h_s τ v) = ms_xs τ := rfl
theorem zm_ys_row (τ : MS) (v : (Nat → Int32)) : ms_ys (ms_row_s τ v) = ms_ys τ := rfl
theorem zm_ys_kept (τ : MS) (v : Int32) : ms_ys (ms_kept_s τ v) = ms_ys τ := rfl
theorem zm_ys_silent (τ : MS) (v : Int32) : ms_ys (ms_silent_s τ v) = ms_ys τ := rfl
theorem zm_ys_xs (τ : MS) (v : (Nat → Int32)) : ms_ys (ms_xs_s τ v) = ms_ys τ := rfl
theorem zm_ys_ys (τ : MS) (v : (Nat → Int32)) : ms_ys (ms_ys_s τ v) = v := rfl
theorem zm_ys_xMany (τ : MS) (v : Int32) : ms_ys (ms_xMany_s τ v) = ms_ys τ := rfl
theorem zm_ys_yMany (τ : MS) (v : Int32) : ms_ys (ms_yMany_s τ v) = ms_ys τ := rfl
theorem zm_ys_isNode (τ : MS) (v : (Nat → Int32)) : ms_ys (ms_isNode_s τ v) = ms_ys τ := rfl
theorem zm_ys_right (τ : MS) (v : (Nat → Int32)) : ms_ys (ms_right_s τ v) = ms_ys τ := rfl
theorem zm_ys_down (τ : MS) (v : (Nat → Int32)) : ms_ys (ms_down_s τ v) = ms_ys τ := rfl
theorem zm_ys_toEnd (τ : MS) (v : (Nat → Int32)) : ms_ys (ms_toEnd_s τ v) = ms_ys τ := rfl
theorem zm_ys_wayX (τ : MS) (v : (Nat → Int32)) : ms_ys (ms_wayX_s τ v) = ms_ys τ := rfl
theorem zm_ys_wayY (τ : MS) (v : (Nat → Int32)) : ms_ys (ms_wayY_s τ v) = ms_ys τ := rfl
theorem zm_ys_wayMany (τ : MS) (v : Int32) : ms_ys (ms_wayMany_s τ v) = ms_ys τ := rfl
theorem zm_ys_inner (τ : MS) (v : (Nat → Int32)) : ms_ys (ms_inner_s τ v) = ms_ys τ := rfl
theorem zm_ys_laneOf (τ : MS) (v : (Nat → Int32)) : ms_ys (ms_laneOf_s τ v) = ms_ys τ := rfl
theorem zm_ys_isIn (τ : MS) (v : (Nat → Int32)) : ms_ys (ms_isIn_s τ v) = ms_ys τ := rfl
theorem zm_ys_inners (τ : MS) (v : Int32) : ms_ys (ms_inners_s τ v) = ms_ys τ := rfl
theorem zm_ys_out (τ : MS) (v : (Nat → Int32)) : ms_ys (ms_out_s τ v) = ms_ys τ := rfl
theorem zm_ys_outMany (τ : MS) (v : Int32) : ms_ys (ms_outMany_s τ v) = ms_ys τ := rfl
theorem zm_ys_text (τ : MS) (v : (Nat → Int32)) : ms_ys (ms_text_s τ v) = ms_ys τ := rfl
theorem zm_ys_length (τ : MS) (v : Int32) : ms_ys (ms_length_s τ v) = ms_ys τ := rfl
theorem zm_ys_at (τ : MS) (v : Int32) : ms_ys (ms_at_s τ v) = ms_ys τ := rfl
theorem zm_ys_fine (τ : MS) (v : Int32) : ms_ys (ms_fine_s τ v) = ms_ys τ := rfl
theorem zm_ys_number (τ : MS) (v : (Nat → Int32)) : ms_ys (ms_number_s τ v) = ms_ys τ := rfl
theorem zm_ys_h (τ : MS) (v : Int64) : ms_ys (ms_h_s τ v) = ms_ys τ := rfl
theorem zm_xMany_row (τ : MS) (v : (Nat → Int32)) : ms_xMany (ms_row_s τ v) = ms_xMany τ := rfl
theorem zm_xMany_kept (τ : MS) (v : Int32) : ms_xMany (ms_kept_s τ v) = ms_xMany τ := rfl
theorem zm_xMany_silent (τ : MS) (v : Int32) : ms_xMany (ms_silent_s τ v) = ms_xMany τ := rfl
theorem zm_xMany_xs (τ : MS) (v : (Nat → Int32)) : ms_xMany (ms_xs_s τ v) = ms_xMany τ := rfl
theorem zm_xMany_ys (τ : MS) (v : (Nat → Int32)) : ms_xMany (ms_ys_s τ v) = ms_xMany τ := rfl
theorem zm_xMany_xMany (τ : MS) (v : Int32) : ms_xMany (ms_xMany_s τ v) = v := rfl
theorem zm_xMany_yMany (τ : MS) (v : Int32) : ms_xMany (ms_yMany_s τ v) = ms_xMany τ := rfl
theorem zm_xMany_isNode (τ : MS) (v : (Nat → Int32)) : ms_xMany (ms_isNode_s τ v) = ms_xMany τ := rfl
theorem zm_xMany_right (τ : MS) (v : (Nat → Int32)) : ms_xMany (ms_right_s τ v) = ms_xMany τ := rfl
theorem zm_xMany_down (τ : MS) (v : (Nat → Int32)) : ms_xMany (ms_down_s τ v) = ms_xMany τ := rfl
theorem zm_xMany_toEnd (τ : MS) (v : (Nat → Int32)) : ms_xMany (ms_toEnd_s τ v) = ms_xMany τ := rfl
theorem zm_xMany_wayX (τ : MS) (v : (Nat → Int32)) : ms_xMany (ms_wayX_s τ v) = ms_xMany τ := rfl
theorem zm_xMany_wayY (τ : MS) (v : (Nat → Int32)) : ms_xMany (ms_wayY_s τ v) = ms_xMany τ := rfl
theorem zm_xMany_wayMany (τ : MS) (v : Int32) : ms_xMany (ms_wayMany_s τ v) = ms_xMany τ := rfl
theorem zm_xMany_inner (τ : MS) (v : (Nat → Int32)) : ms_xMany (ms_inner_s τ v) = ms_xMany τ := rfl
theorem zm_xMany_laneOf (τ : MS) (v : (Nat → Int32)) : ms_xMany (ms_laneOf_s τ v) = ms_xMany τ := rfl
theorem zm_xMany_isIn (τ : MS) (v : (Nat → Int32)) : ms_xMany (ms_isIn_s τ v) = ms_xMany τ := rfl
theorem zm_xMany_inners (τ : MS) (v : Int32) : ms_xMany (ms_inners_s τ v) = ms_xMany τ := rfl
theorem zm_xMany_out (τ : MS) (v : (Nat → Int32)) : ms_xMany (ms_out_s τ v) = ms_xMany τ := rfl
theorem zm_xMany_outMany (τ : MS) (v : Int32) : ms_xMany (ms_outMany_s τ v) = ms_xMany τ := rfl
theorem zm_xMany_text (τ : MS) (v : (Nat → Int32)) : ms_xMany (ms_text_s τ v) = ms_xMany τ := rfl
theorem zm_xMany_length (τ : MS) (v : Int32) : ms_xMany (ms_length_s τ v) = ms_xMany τ := rfl
theorem zm_xMany_at (τ : MS) (v : Int32) : ms_xMany (ms_at_s τ v) = ms_xMany τ := rfl
theorem zm_xMany_fine (τ : MS) (v : Int32) : ms_xMany (ms_fine_s τ v) = ms_xMany τ := rfl
theorem zm_xMany_number (τ : MS) (v : (Nat → Int32)) : ms_xMany (ms_number_s τ v) = ms_xMany τ := rfl
theorem zm_xMany_h (τ : MS) (v : Int64) : ms_xMany (ms_h_s τ v) = ms_xMany τ := rfl
theorem zm_yMany_row (τ : MS) (v : (Nat → Int32)) : ms_yMany (ms_row_s τ v) = ms_yMany τ := rfl
theorem zm_yMany_kept (τ : MS) (v : Int32) : ms_yMany (ms_kept_s τ v) = ms_yMany τ := rfl
theorem zm_yMany_silent (τ : MS) (v : Int32) : ms_yMany (ms_silent_s τ v) = ms_yMany τ := rfl
theorem zm_yMany_xs (τ : MS) (v : (Nat → Int32)) : ms_yMany (ms_xs_s τ v) = ms_yMany τ := rfl
theorem zm_yMany_ys (τ : MS) (v : (Nat → Int32)) : ms_yMany (ms_ys_s τ v) = ms_yMany τ := rfl
theorem zm_yMany_xMany (τ : MS) (v : Int32) : ms_yMany (ms_xMany_s τ v) = ms_yMany τ := rfl
theorem zm_yMany_yMany (τ : MS) (v : Int32) : ms_yMany (ms_yMany_s τ v) = v := rfl
theorem zm_yMany_isNode (τ : MS) (v : (Nat → Int32)) : ms_yMany (ms_isNode_s τ v) = ms_yMany τ := rfl
theorem zm_yMany_right (τ : MS) (v : (Nat → Int32)) : ms_yMany (ms_right_s τ v) = ms_yMany τ := rfl
theorem zm_yMany_down (τ : MS) (v : (Nat → Int32)) : ms_yMany (ms_down_s τ v) = ms_yMany τ := rfl
theorem zm_yMany_toEnd (τ : MS) (v : (Nat → Int32)) : ms_yMany (ms_toEnd_s τ v) = ms_yMany τ := rfl
theorem zm_yMany_wayX (τ : MS) (v : (Nat → Int32)) : ms_yMany (ms_wayX_s τ v) = ms_yMany τ := rfl
theorem zm_yMany_wayY (τ : MS) (v : (Nat → Int32)) : ms_yMany (ms_wayY_s τ v) = ms_yMany τ := rfl
theorem zm_yMany_wayMany (τ : MS) (v : Int32) : ms_yMany (ms_wayMany_s τ v) = ms_yMany τ := rfl
theorem zm_yMany_inner (τ : MS) (v : (Nat → Int32)) : ms_yMany (ms_inner_s τ v) = ms_yMany τ := rfl
theorem zm_yMany_laneOf (τ : MS) (v : (Nat → Int32)) : ms_yMany (ms_laneOf_s τ v) = ms_yMany τ := rfl
theorem zm_yMany_isIn (τ : MS) (v : (Nat → Int32)) : ms_yMany (ms_isIn_s τ v) = ms_yMany τ := rfl
theorem zm_yMany_inners (τ : MS) (v : Int32) : ms_yMany (ms_inners_s τ v) = ms_yMany τ := rfl
theorem zm_yMany_out (τ : MS) (v : (Nat → Int32)) : ms_yMany (ms_out_s τ v) = ms_yMany τ := rfl
theorem zm_yMany_outMany (τ : MS) (v : Int32) : ms_yMany (ms_outMany_s τ v) = ms_yMany τ := rfl
theorem zm_yMany_text (τ : MS) (v : (Nat → Int32)) : ms_yMany (ms_text_s τ v) = ms_yMany τ := rfl
theorem zm_yMany_length (τ : MS) (v : Int32) : ms_yMany (ms_length_s τ v) = ms_yMany τ := rfl
theorem zm_yMany_at (τ : MS) (v : Int32) : ms_yMany (ms_at_s τ v) = ms_yMany τ := rfl
theorem zm_yMany_fine (τ : MS) (v : Int32) : ms_yMany (ms_fine_s τ v) = ms_yMany τ := rfl
theorem zm_yMany_number (τ : MS) (v : (Nat → Int32)) : ms_yMany (ms_number_s τ v) = ms_yMany τ := rfl
theorem zm_yMany_h (τ : MS) (v : Int64) : ms_yMany (ms_h_s τ v) = ms_yMany τ := rfl
theorem zm_isNode_row (τ : MS) (v : (Nat → Int32)) : ms_isNode (ms_row_s τ v) = ms_isNode τ := rfl
theorem zm_isNode_kept (τ : MS) (v : Int32) : ms_isNode (ms_kept_s τ v) = ms_isNode τ := rfl
theorem zm_isNode_silent (τ : MS) (v : Int32) : ms_isNode (ms_silent_s τ v) = ms_isNode τ := rfl
theorem zm_isNode_xs (τ : MS) (v : (Nat → Int32)) : ms_isNode (ms_xs_s τ v) = ms_isNode τ := rfl
theorem zm_isNode_ys (τ : MS) (v : (Nat → Int32)) : ms_isNode (ms_ys_s τ v) = ms_isNode τ := rfl
theorem zm_isNode_xMany (τ : MS) (v : Int32) : ms_isNode (ms_xMany_s τ v) = ms_isNode τ := rfl
theorem zm_isNode_yMany (τ : MS) (v : Int32) : ms_isNode (ms_yMany_s τ v) = ms_isNode τ := rfl
theorem zm_isNode_isNode (τ : MS) (v : (Nat → Int32)) : ms_isNode (ms_isNode_s τ v) = v := rfl
theorem zm_isNode_right (τ : MS) (v : (Nat → Int32)) : ms_isNode (ms_right_s τ v) = ms_isNode τ := rfl
theorem zm_isNode_down (τ : MS) (v : (Nat → Int32)) : ms_isNode (ms_down_s τ v) = ms_isNode τ := rfl
theorem zm_isNode_toEnd (τ : MS) (v : (Nat → Int32)) : ms_isNode (ms_toEnd_s τ v) = ms_isNode τ := rfl
theorem zm_isNode_wayX (τ : MS) (v : (Nat → Int32)) : ms_isNode (ms_wayX_s τ v) = ms_isNode τ := rfl
theorem zm_isNode_wayY (τ : MS) (v : (Nat → Int32)) : ms_isNode (ms_wayY_s τ v) = ms_isNode τ := rfl
theorem zm_isNode_wayMany (τ : MS) (v : Int32) : ms_isNode (ms_wayMany_s τ v) = ms_isNode τ := rfl
theorem zm_isNode_inner (τ : MS) (v : (Nat → Int32)) : ms_isNode (ms_inner_s τ v) = ms_isNode τ := rfl
theorem zm_isNode_laneOf (τ : MS) (v : (Nat → Int32)) : ms_isNode (ms_laneOf_s τ v) = ms_isNode τ := rfl
theorem zm_isNode_isIn (τ : MS) (v : (Nat → Int32)) : ms_isNode (ms_isIn_s τ v) = ms_isNode τ := rfl
theorem zm_isNode_inners (τ : MS) (v : Int32) : ms_isNode (ms_inners_s τ v) = ms_isNode τ := rfl
theorem zm_isNode_out (τ : MS) (v : (Nat → Int32)) : ms_isNode (ms_out_s τ v) = ms_isNode τ := rfl
theorem zm_isNode_outMany (τ : MS) (v : Int32) : ms_isNode (ms_outMany_s τ v) = ms_isNode τ := rfl
theorem zm_isNode_text (τ : MS) (v : (Nat → Int32)) : ms_isNode (ms_text_s τ v) = ms_isNode τ := rfl
theorem zm_isNode_length (τ : MS) (v : Int32) : ms_isNode (ms_length_s τ v) = ms_isNode τ := rfl
theorem zm_isNode_at (τ : MS) (v : Int32) : ms_isNode (ms_at_s τ v) = ms_isNode τ := rfl
theorem zm_isNode_fine (τ : MS) (v : Int32) : ms_isNode (ms_fine_s τ v) = ms_isNode τ := rfl
theorem zm_isNode_number (τ : MS) (v : (Nat → Int32)) : ms_isNode (ms_number_s τ v) = ms_isNode τ := rfl
theorem zm_isNode_h (τ : MS) (v : Int64) : ms_isNode (ms_h_s τ v) = ms_isNode τ := rfl
theorem zm_right_row (τ : MS) (v : (Nat → Int32)) : ms_right (ms_row_s τ v) = ms_right τ := rfl
theorem zm_right_kept (τ : MS) (v : Int32) : ms_right (ms_kept_s τ v) = ms_right τ := rfl
theorem zm_right_silent (τ : MS) (v : Int32) : ms_right (ms_silent_s τ v) = ms_right τ := rfl
theorem zm_right_xs (τ : MS) (v : (Nat → Int32)) : ms_right (ms_xs_s τ v) = ms_right τ := rfl
theorem zm_right_ys (τ : MS) (v : (Nat → Int32)) : ms_right (ms_ys_s τ v) = ms_right τ := rfl
theorem zm_right_xMany (τ : MS) (v : Int32) : ms_right (ms_xMany_s τ v) = ms_right τ := rfl
theorem zm_right_yMany (τ : MS) (v : Int32) : ms_right (ms_yMany_s τ v) = ms_right τ := rfl
theorem zm_right_isNode (τ : MS) (v : (Nat → Int32)) : ms_right (ms_isNode_s τ v) = ms_right τ := rfl
theorem zm_right_right (τ : MS) (v : (Nat → Int32)) : ms_right (ms_right_s τ v) = v := rfl
theorem zm_right_down (τ : MS) (v : (Nat → Int32)) : ms_right (ms_down_s τ v) = ms_right τ := rfl
theorem zm_right_toEnd (τ : MS) (v : (Nat → Int32)) : ms_right (ms_toEnd_s τ v) = ms_right τ := rfl
theorem zm_right_wayX (τ : MS) (v : (Nat → Int32)) : ms_right (ms_wayX_s τ v) = ms_right τ := rfl
theorem zm_right_wayY (τ : MS) (v : (Nat → Int32)) : ms_right (ms_wayY_s τ v) = ms_right τ := rfl
theorem zm_right_wayMany (τ : MS) (v : Int32) : ms_right (ms_wayMany_s τ v) = ms_right τ := rfl
theorem zm_right_inner (τ : MS) (v : (Nat → Int32)) : ms_right (ms_inner_s τ v) = ms_right τ := rfl
theorem zm_right_laneOf (τ : MS) (v : (Nat → Int32)) : ms_right (ms_laneOf_s τ v) = ms_right τ := rfl
theorem zm_right_isIn (τ : MS) (v : (Nat → Int32)) : ms_right (ms_isIn_s τ v) = ms_right τ := rfl
theorem zm_right_inners (τ : MS) (v : Int32) : ms_right (ms_inners_s τ v) = ms_right τ := rfl
theorem zm_right_out (τ : MS) (v : (Nat → Int32)) : ms_right (ms_out_s τ v) = ms_right τ := rfl
theorem zm_right_outMany (τ : MS) (v : Int32) : ms_right (ms_outMany_s τ v) = ms_right τ := rfl
theorem zm_right_text (τ : MS) (v : (Nat → Int32)) : ms_right (ms_text_s τ v) = ms_right τ := rfl
theorem zm_right_length (τ : MS) (v : Int32) : ms_right (ms_length_s τ v) = ms_right τ := rfl
theorem zm_right_at (τ : MS) (v : Int32) : ms_right (ms_at_s τ v) = ms_right τ := rfl
theorem zm_right_fine (τ : MS) (v : Int32) : ms_right (ms_fine_s τ v) = ms_right τ := rfl
theorem zm_right_number (τ : MS) (v : (Nat → Int32)) : ms_right (ms_number_s τ v) = ms_right τ := rfl
theorem zm_right_h (τ : MS) (v : Int64) : ms_right (ms_h_s τ v) = ms_right τ := rfl
theorem zm_down_row (τ : MS) (v : (Nat → Int32)) : ms_down (ms_row_s τ v) = ms_down τ := rfl
theorem zm_down_kept (τ : MS) (v : Int32) : ms_down (ms_kept_s τ v) = ms_down τ := rfl
theorem zm_down_silent (τ : MS) (v : Int32) : ms_down (ms_silent_s τ v) = ms_down τ := rfl
theorem zm_down_xs (τ : MS) (v : (Nat → Int32)) : ms_down (ms_xs_s τ v) = ms_down τ := rfl
theorem zm_down_ys (τ : MS) (v : (Nat → Int32)) : ms_down (ms_ys_s τ v) = ms_down τ := rfl
theorem zm_down_xMany (τ : MS) (v : Int32) : ms_down (ms_xMany_s τ v) = ms_down τ := rfl
theorem zm_down_yMany (τ : MS) (v : Int32) : ms_down (ms_yMany_s τ v) = ms_down τ := rfl
theorem zm_down_isNode (τ : MS) (v : (Nat → Int32)) : ms_down (ms_isNode_s τ v) = ms_down τ := rfl
theorem zm_down_right (τ : MS) (v : (Nat → Int32)) : ms_down (ms_right_s τ v) = ms_down τ := rfl
theorem zm_down_down (τ : MS) (v : (Nat → Int32)) : ms_down (ms_down_s τ v) = v := rfl
theorem zm_down_toEnd (τ : MS) (v : (Nat → Int32)) : ms_down (ms_toEnd_s τ v) = ms_down τ := rfl
theorem zm_down_wayX (τ : MS) (v : (Nat → Int32)) : ms_down (ms_wayX_s τ v) = ms_down τ := rfl
theorem zm_down_wayY (τ : MS) (v : (Nat → Int32)) : ms_down (ms_wayY_s τ v) = ms_down τ := rfl
theorem zm_down_wayMany (τ : MS) (v : Int32) : ms_down (ms_wayMany_s τ v) = ms_down τ := rfl
theorem zm_down_inner (τ : MS) (v : (Nat → Int32)) : ms_down (ms_inner_s τ v) = ms_down τ := rfl
theorem zm_down_laneOf (τ : MS) (v : (Nat → Int32)) : ms_down (ms_laneOf_s τ v) = ms_down τ := rfl
theorem zm_down_isIn (τ : MS) (v : (Nat → Int32)) : ms_down (ms_isIn_s τ v) = ms_down τ := rfl
theorem zm_down_inners (τ : MS) (v : Int32) : ms_down (ms_inners_s τ v) = ms_down τ := rfl
theorem zm_down_out (τ : MS) (v : (Nat → Int32)) : ms_down (ms_out_s τ v) = ms_down τ := rfl
theorem zm_down_outMany (τ : MS) (v : Int32) : ms_down (ms_outMany_s τ v) = ms_down τ := rfl
theorem zm_down_text (τ : MS) (v : (Nat → Int32)) : ms_down (ms_text_s τ v) = ms_down τ := rfl
theorem zm_down_length (τ : MS) (v : Int32) : ms_down (ms_length_s τ v) = ms_down τ := rfl
theorem zm_down_at (τ : MS) (v : Int32) : ms_down (ms_at_s τ v) = ms_down τ := rfl
theorem zm_down_fine (τ : MS) (v : Int32) : ms_down (ms_fine_s τ v) = ms_down τ := rfl
theorem zm_down_number (τ : MS) (v : (Nat → Int32)) : ms_down (ms_number_s τ v) = ms_down τ := rfl
theorem zm_down_h (τ : MS) (v : Int64) : ms_down (ms_h_s τ v) = ms_down τ := rfl
theorem zm_toEnd_row (τ : MS) (v : (Nat → Int32)) : ms_toEnd (ms_row_s τ v) = ms_toEnd τ := rfl
theorem zm_toEnd_kept (τ : MS) (v : Int32) : ms_toEnd (ms_kept_s τ v) = ms_toEnd τ := rfl
theorem zm_toEnd_silent (τ : MS) (v : Int32) : ms_toEnd (ms_silent_s τ v) = ms_toEnd τ := rfl
theorem zm_toEnd_xs (τ : MS) (v : (Nat → Int32)) : ms_toEnd (ms_xs_s τ v) = ms_toEnd τ := rfl
theorem zm_toEnd_ys (τ : MS) (v : (Nat → Int32)) : ms_toEnd (ms_ys_s τ v) = ms_toEnd τ := rfl
theorem zm_toEnd_xMany (τ : MS) (v : Int32) : ms_toEnd (ms_xMany_s τ v) = ms_toEnd τ := rfl
theorem zm_toEnd_yMany (τ : MS) (v : Int32) : ms_toEnd (ms_yMany_s τ v) = ms_toEnd τ := rfl
theorem zm_toEnd_isNode (τ : MS) (v : (Nat → Int32)) : ms_toEnd (ms_isNode_s τ v) = ms_toEnd τ := rfl
theorem zm_toEnd_right (τ : MS) (v : (Nat → Int32)) : ms_toEnd (ms_right_s τ v) = ms_toEnd τ := rfl
theorem zm_toEnd_down (τ : MS) (v : (Nat → Int32)) : ms_toEnd (ms_down_s τ v) = ms_toEnd τ := rfl
theorem zm_toEnd_toEnd (τ : MS) (v : (Nat → Int32)) : ms_toEnd (ms_toEnd_s τ v) = v := rfl
theorem zm_toEnd_wayX (τ : MS) (v : (Nat → Int32)) : ms_toEnd (ms_wayX_s τ v) = ms_toEnd τ := rfl
theorem zm_toEnd_wayY (τ : MS) (v : (Nat → Int32)) : ms_toEnd (ms_wayY_s τ v) = ms_toEnd τ := rfl
theorem zm_toEnd_wayMany (τ : MS) (v : Int32) : ms_toEnd (ms_wayMany_s τ v) = ms_toEnd τ := rfl
theorem zm_toEnd_inner (τ : MS) (v : (Nat → Int32)) : ms_toEnd (ms_inner_s τ v) = ms_toEnd τ := rfl
theorem zm_toEnd_laneOf (τ : MS) (v : (Nat → Int32)) : ms_toEnd (ms_laneOf_s τ v) = ms_toEnd τ := rfl
theorem zm_toEnd_isIn (τ : MS) (v : (Nat → Int32)) : ms_toEnd (ms_isIn_s τ v) = ms_toEnd τ := rfl
theorem zm_toEnd_inners (τ : MS) (v : Int32) : ms_toEnd (ms_inners_s τ v) = ms_toEnd τ := rfl
theorem zm_toEnd_out (τ : MS) (v : (Nat → Int32)) : ms_toEnd (ms_out_s τ v) = ms_toEnd τ := rfl
theorem zm_toEnd_outMany (τ : MS) (v : Int32) : ms_toEnd (ms_outMany_s τ v) = ms_toEnd τ := rfl
theorem zm_toEnd_text (τ : MS) (v : (Nat → Int32)) : ms_toEnd (ms_text_s τ v) = ms_toEnd τ := rfl
theorem zm_toEnd_length (τ : MS) (v : Int32) : ms_toEnd (ms_length_s τ v) = ms_toEnd τ := rfl
theorem zm_toEnd_at (τ : MS) (v : Int32) : ms_toEnd (ms_at_s τ v) = ms_toEnd τ := rfl
theorem zm_toEnd_fine (τ : MS) (v : Int32) : ms_toEnd (ms_fine_s τ v) = ms_toEnd τ := rfl
theorem zm_toEnd_number (τ : MS) (v : (Nat → Int32)) : ms_toEnd (ms_number_s τ v) = ms_toEnd τ := rfl
theorem zm_toEnd_h (τ : MS) (v : Int64) : ms_toEnd (ms_h_s τ v) = ms_toEnd τ := rfl
theorem zm_wayX_row (τ : MS) (v : (Nat → Int32)) : ms_wayX (ms_row_s τ v) = ms_wayX τ := rfl
theorem zm_wayX_kept (τ : MS) (v : Int32) : ms_wayX (ms_kept_s τ v) = ms_wayX τ := rfl
theorem zm_wayX_silent (τ : MS) (v : Int32) : ms_wayX (ms_silent_s τ v) = ms_wayX τ := rfl
theorem zm_wayX_xs (τ : MS) (v : (Nat → Int32)) : ms_wayX (ms_xs_s τ v) = ms_wayX τ := rfl
theorem zm_wayX_ys (τ : MS) (v : (Nat → Int32)) : ms_wayX (ms_ys_s τ v) = ms_wayX τ := rfl
theorem zm_wayX_xMany (τ : MS) (v : Int32) : ms_wayX (ms_xMany_s τ v) = ms_wayX τ := rfl
theorem zm_wayX_yMany (τ : MS) (v : Int32) : ms_wayX (ms_yMany_s τ v) = ms_wayX τ := rfl
theorem zm_wayX_isNode (τ : MS) (v : (Nat → Int32)) : ms_wayX (ms_isNode_s τ v) = ms_wayX τ := rfl
theorem zm_wayX_right (τ : MS) (v : (Nat → Int32)) : ms_wayX (ms_right_s τ v) = ms_wayX τ := rfl
theorem zm_wayX_down (τ : MS) (v : (Nat → Int32)) : ms_wayX (ms_down_s τ v) = ms_wayX τ := rfl
theorem zm_wayX_toEnd (τ : MS) (v : (Nat → Int32)) : ms_wayX (ms_toEnd_s τ v) = ms_wayX τ := rfl
theorem zm_wayX_wayX (τ : MS) (v : (Nat → Int32)) : ms_wayX (ms_wayX_s τ v) = v := rfl
theorem zm_wayX_wayY (τ : MS) (v : (Nat → Int32)) : ms_wayX (ms_wayY_s τ v) = ms_wayX τ := rfl
theorem zm_wayX_wayMany (τ : MS) (v : Int32) : ms_wayX (ms_wayMany_s τ v) = ms_wayX τ := rfl
theorem zm_wayX_inner (τ : MS) (v : (Nat → Int32)) : ms_wayX (ms_inner_s τ v) = ms_wayX τ := rfl
theorem zm_wayX_laneOf (τ : MS) (v : (Nat → Int32)) : ms_wayX (ms_laneOf_s τ v) = ms_wayX τ := rfl
theorem zm_wayX_isIn (τ : MS) (v : (Nat → Int32)) : ms_wayX (ms_isIn_s τ v) = ms_wayX τ := rfl
theorem zm_wayX_inners (τ : MS) (v : Int32) : ms_wayX (ms_inners_s τ v) = ms_wayX τ := rfl
theorem zm_wayX_out (τ : MS) (v : (Nat → Int32)) : ms_wayX (ms_out_s τ v) = ms_wayX τ := rfl
theorem zm_wayX_outMany (τ : MS) (v : Int32) : ms_wayX (ms_outMany_s τ v) = ms_wayX τ := rfl
theorem zm_wayX_text (τ : MS) (v : (Nat → Int32)) : ms_wayX (ms_text_s τ v) = ms_wayX τ := rfl
theorem zm_wayX_length (τ : MS) (v : Int32) : ms_wayX (ms_length_s τ v) = ms_wayX τ := rfl
theorem zm_wayX_at (τ : MS) (v : Int32) : ms_wayX (ms_at_s τ v) = ms_wayX τ := rfl
theorem zm_wayX_fine (τ : MS) (v : Int32) : ms_wayX (ms_fine_s τ v) = ms_wayX τ := rfl
theorem zm_wayX_number (τ : MS) (v : (Nat → Int32)) : ms_wayX (ms_number_s τ v) = ms_wayX τ := rfl
theorem zm_wayX_h (τ : MS) (v : Int64) : ms_wayX (ms_h_s τ v) = ms_wayX τ := rfl
theorem zm_wayY_row (τ : MS) (v : (Nat → Int32)) : ms_wayY (ms_row_s τ v) = ms_wayY τ := rfl
theorem zm_wayY_kept (τ : MS) (v : Int32) : ms_wayY (ms_kept_s τ v) = ms_wayY τ := rfl
theorem zm_wayY_silent (τ : MS) (v : Int32) : ms_wayY (ms_silent_s τ v) = ms_wayY τ := rfl
theorem zm_wayY_xs (τ : MS) (v : (Nat → Int32)) : ms_wayY (ms_xs_s τ v) = ms_wayY τ := rfl
theorem zm_wayY_ys (τ : MS) (v : (Nat → Int32)) : ms_wayY (ms_ys_s τ v) = ms_wayY τ := rfl
theorem zm_wayY_xMany (τ : MS) (v : Int32) : ms_wayY (ms_xMany_s τ v) = ms_wayY τ := rfl
theorem zm_wayY_yMany (τ : MS) (v : Int32) : ms_wayY (ms_yMany_s τ v) = ms_wayY τ := rfl
theorem zm_wayY_isNode (τ : MS) (v : (Nat → Int32)) : ms_wayY (ms_isNode_s τ v) = ms_wayY τ := rfl
theorem zm_wayY_right (τ : MS) (v : (Nat → Int32)) : ms_wayY (ms_right_s τ v) = ms_wayY τ := rfl
theorem zm_wayY_down (τ : MS) (v : (Nat → Int32)) : ms_wayY (ms_down_s τ v) = ms_wayY τ := rfl
theorem zm_wayY_toEnd (τ : MS) (v : (Nat → Int32)) : ms_wayY (ms_toEnd_s τ v) = ms_wayY τ := rfl
theorem zm_wayY_wayX (τ : MS) (v : (Nat → Int32)) : ms_wayY (ms_wayX_s τ v) = ms_wayY τ := rfl
theorem zm_wayY_wayY (τ : MS) (v : (Nat → Int32)) : ms_wayY (ms_wayY_s τ v) = v := rfl
theorem zm_wayY_wayMany (τ : MS) (v : Int32) : ms_wayY (ms_wayMany_s τ v) = ms_wayY τ := rfl
theorem zm_wayY_inner (τ : MS) (v : (Nat → Int32)) : ms_wayY (ms_inner_s τ v) = ms_wayY τ := rfl
theorem zm_wayY_laneOf (τ : MS) (v : (Nat → Int32)) : ms_wayY (ms_laneOf_s τ v) = ms_wayY τ := rfl
theorem zm_wayY_isIn (τ : MS) (v : (Nat → Int32)) : ms_wayY (ms_isIn_s τ v) = ms_wayY τ := rfl
theorem zm_wayY_inners (τ : MS) (v : Int32) : ms_wayY (ms_inners_s τ v) = ms_wayY τ := rfl
theorem zm_wayY_out (τ : MS) (v : (Nat → Int32)) : ms_wayY (ms_out_s τ v) = ms_wayY τ := rfl
theorem zm_wayY_outMany (τ : MS) (v : Int32) : ms_wayY (ms_outMany_s τ v) = ms_wayY τ := rfl
theorem zm_wayY_text (τ : MS) (v : (Nat → Int32)) : ms_wayY (ms_text_s τ v) = ms_wayY τ := rfl
theorem zm_wayY_length (τ : MS) (v : Int32) : ms_wayY (ms_length_s τ v) = ms_wayY τ := rfl
theorem zm_wayY_at (τ : MS) (v : Int32) : ms_wayY (ms_at_s τ v) = ms_wayY τ := rfl
theorem zm_wayY_fine (τ : MS) (v : Int32) : ms_wayY (ms_fine_s τ v) = ms_wayY τ := rfl
theorem zm_wayY_number (τ : MS) (v : (Nat → Int32)) : ms_wayY (ms_number_s τ v) = ms_wayY τ := rfl
theorem zm_wayY_h (τ : MS) (v : Int64) : ms_wayY (ms_h_s τ v) = ms_wayY τ := rfl
theorem zm_wayMany_row (τ : MS) (v : (Nat → Int32)) : ms_wayMany (ms_row_s τ v) = ms_wayMany τ := rfl
theorem zm_wayMany_kept (τ : MS) (v : Int32) : ms_wayMany (ms_kept_s τ v) = ms_wayMany τ := rfl
theorem zm_wayMany_silent (τ : MS) (v : Int32) : ms_wayMany (ms_silent_s τ v) = ms_wayMany τ := rfl
theorem zm_wayMany_xs (τ : MS) (v : (Nat → Int32)) : ms_wayMany (ms_xs_s τ v) = ms_wayMany τ := rfl
theorem zm_wayMany_ys (τ : MS) (v : (Nat → Int32)) : ms_wayMany (ms_ys_s τ v) = ms_wayMany τ := rfl
theorem zm_wayMany_xMany (τ : MS) (v : Int32) : ms_wayMany (ms_xMany_s τ v) = ms_wayMany τ := rfl
theorem zm_wayMany_yMany (τ : MS) (v : Int32) : ms_wayMany (ms_yMany_s τ v) = ms_wayMany τ := rfl
theorem zm_wayMany_isNode (τ : MS) (v : (Nat → Int32)) : ms_wayMany (ms_isNode_s τ v) = ms_wayMany τ := rfl
theorem zm_wayMany_right (τ : MS) (v : (Nat → Int32)) : ms_wayMany (ms_right_s τ v) = ms_wayMany τ := rfl
theorem zm_wayMany_down (τ : MS) (v : (Nat → Int32)) : ms_wayMany (ms_down_s τ v) = ms_wayMany τ := rfl
theorem zm_wayMany_toEnd (τ : MS) (v : (Nat → Int32)) : ms_wayMany (ms_toEnd_s τ v) = ms_wayMany τ := rfl
theorem zm_wayMany_wayX (τ : MS) (v : (Nat → Int32)) : ms_wayMany (ms_wayX_s τ v) = ms_wayMany τ := rfl
theorem zm_wayMany_wayY (τ : MS) (v : (Nat → Int32)) : ms_wayMany (ms_wayY_s τ v) = ms_wayMany τ := rfl
theorem zm_wayMany_wayMany (τ : MS) (v : Int32) : ms_wayMany (ms_wayMany_s τ v) = v := rfl
theorem zm_wayMany_inner (τ : MS) (v : (Nat → Int32)) : ms_wayMany (ms_inner_s τ v) = ms_wayMany τ := rfl
theorem zm_wayMany_laneOf (τ : MS) (v : (Nat → Int32)) : ms_wayMany (ms_laneOf_s τ v) = ms_wayMany τ := rfl
theorem zm_wayMany_isIn (τ : MS) (v : (Nat → Int32)) : ms_wayMany (ms_isIn_s τ v) = ms_wayMany τ := rfl
theorem zm_wayMany_inners (τ : MS) (v : Int32) : ms_wayMany (ms_inners_s τ v) = ms_wayMany τ := rfl
theorem zm_wayMany_out (τ : MS) (v : (Nat → Int32)) : ms_wayMany (ms_out_s τ v) = ms_wayMany τ := rfl
theorem zm_wayMany_outMany (τ : MS) (v : Int32) : ms_wayMany (ms_outMany_s τ v) = ms_wayMany τ := rfl
theorem zm_wayMany_text (τ : MS) (v : (Nat → Int32)) : ms_wayMany (ms_text_s τ v) = ms_wayMany τ := rfl
theorem zm_wayMany_length (τ : MS) (v : Int32) : ms_wayMany (ms_length_s τ v) = ms_wayMany τ := rfl
theorem zm_wayMany_at (τ : MS) (v : Int32) : ms_wayMany (ms_at_s τ v) = ms_wayMany τ := rfl
theorem zm_wayMany_fine (τ : MS) (v : Int32) : ms_wayMany (ms_fine_s τ v) = ms_wayMany τ := rfl
theorem zm_wayMany_number (τ : MS) (v : (Nat → Int32)) : ms_wayMany (ms_number_s τ v) = ms_wayMany τ := rfl
theorem zm_wayMany_h (τ : MS) (v : Int64) : ms_wayMany (ms_h_s τ v) = ms_wayMany τ := rfl
theorem zm_inner_row (τ : MS) (v : (Nat → Int32)) : ms_inner (ms_row_s τ v) = ms_inner τ := rfl
theorem zm_inner_kept (τ : MS) (v : Int32) : ms_inner (ms_kept_s τ v) = ms_inner τ := rfl
theorem zm_inner_silent (τ : MS) (v : Int32) : ms_inner (ms_silent_s τ v) = ms_inner τ := rfl
theorem zm_inner_xs (τ : MS) (v : (Nat → Int32)) : ms_inner (ms_xs_s τ v) = ms_inner τ := rfl
theorem zm_inner_ys (τ : MS) (v : (Nat → Int32)) : ms_inner (ms_ys_s τ v) = ms_inner τ := rfl
theorem zm_inner_xMany (τ : MS) (v : Int32) : ms_inner (ms_xMany_s τ v) = ms_inner τ := rfl
theorem zm_inner_yMany (τ : MS) (v : Int32) : ms_inner (ms_yMany_s τ v) = ms_inner τ := rfl
theorem zm_inner_isNode (τ : MS) (v : (Nat → Int32)) : ms_inner (ms_isNode_s τ v) = ms_inner τ := rfl
theorem zm_inner_right (τ : MS) (v : (Nat → Int32)) : ms_inner (ms_right_s τ v) = ms_inner τ := rfl
theorem zm_inner_down (τ : MS) (v : (Nat → Int32)) : ms_inner (ms_down_s τ v) = ms_inner τ := rfl
theorem zm_inner_toEnd (τ : MS) (v : (Nat → Int32)) : ms_inner (ms_toEnd_s τ v) = ms_inner τ := rfl
theorem zm_inner_wayX (τ : MS) (v : (Nat → Int32)) : ms_inner (ms_wayX_s τ v) = ms_inner τ := rfl
theorem zm_inner_wayY (τ : MS) (v : (Nat → Int32)) : ms_inner (ms_wayY_s τ v) = ms_inner τ := rfl
theorem zm_inner_wayMany (τ : MS) (v : Int32) : ms_inner (ms_wayMany_s τ v) = ms_inner τ := rfl
theorem zm_inner_inner (τ : MS) (v : (Nat → Int32)) : ms_inner (ms_inner_s τ v) = v := rfl
theorem zm_inner_laneOf (τ : MS) (v : (Nat → Int32)) : ms_inner (ms_laneOf_s τ v) = ms_inner τ := rfl
theorem zm_inner_isIn (τ : MS) (v : (Nat → Int32)) : ms_inner (ms_isIn_s τ v) = ms_inner τ := rfl
theorem zm_inner_inners (τ : MS) (v : Int32) : ms_inner (ms_inners_s τ v) = ms_inner τ := rfl
theorem zm_inner_out (τ : MS) (v : (Nat → Int32)) : ms_inner (ms_out_s τ v) = ms_inner τ := rfl
theorem zm_inner_outMany (τ : MS) (v : Int32) : ms_inner (ms_outMany_s τ v) = ms_inner τ := rfl
theorem zm_inner_text (τ : MS) (v : (Nat → Int32)) : ms_inner (ms_text_s τ v) = ms_inner τ := rfl
theorem zm_inner_length (τ : MS) (v : Int32) : ms_inner (ms_length_s τ v) = ms_inner τ := rfl
theorem zm_inner_at (τ : MS) (v : Int32) : ms_inner (ms_at_s τ v) = ms_inner τ := rfl
theorem zm_inner_fine (τ : MS) (v : Int32) : ms_inner (ms_fine_s τ v) = ms_inner τ := rfl
theorem zm_inner_number (τ : MS) (v : (Nat → Int32)) : ms_inner (ms_number_s τ v) = ms_inner τ := rfl
theorem zm_inner_h (τ : MS) (v : Int64) : ms_inner (ms_h_s τ v) = ms_inner τ := rfl
theorem zm_laneOf_row (τ : MS) (v : (Nat → Int32)) : ms_laneOf (ms_row_s τ v) = ms_laneOf τ := rfl
theorem zm_laneOf_kept (τ : MS) (v : Int32) : ms_laneOf (ms_kept_s τ v) = ms_laneOf τ := rfl
theorem zm_laneOf_silent (τ : MS) (v : Int32) : ms_laneOf (ms_silent_s τ v) = ms_laneOf τ := rfl
theorem zm_laneOf_xs (τ : MS) (v : (Nat → Int32)) : ms_laneOf (ms_xs_s τ v) = ms_laneOf τ := rfl
theorem zm_laneOf_ys (τ : MS) (v : (Nat → Int32)) : ms_laneOf (ms_ys_s τ v) = ms_laneOf τ := rfl
theorem zm_laneOf_xMany (τ : MS) (v : Int32) : ms_laneOf (ms_xMany_s τ v) = ms_laneOf τ := rfl
theorem zm_laneOf_yMany (τ : MS) (v : Int32) : ms_laneOf (ms_yMany_s τ v) = ms_laneOf τ := rfl
theorem zm_laneOf_isNode (τ : MS) (v : (Nat → Int32)) : ms_laneOf (ms_isNode_s τ v) = ms_laneOf τ := rfl
theorem zm_laneOf_right (τ : MS) (v : (Nat → Int32)) : ms_laneOf (ms_right_s τ v) = ms_laneOf τ := rfl
theorem zm_laneOf_down (τ : MS) (v : (Nat → Int32)) : ms_laneOf (ms_down_s τ v) = ms_laneOf τ := rfl
theorem zm_laneOf_toEnd (τ : MS) (v : (Nat → Int32)) : ms_laneOf (ms_toEnd_s τ v) = ms_laneOf τ := rfl
theorem zm_laneOf_wayX (τ : MS) (v : (Nat → Int32)) : ms_laneOf (ms_wayX_s τ v) = ms_laneOf τ := rfl
theorem zm_laneOf_wayY (τ : MS) (v : (Nat → Int32)) : ms_laneOf (ms_wayY_s τ v) = ms_laneOf τ := rfl
theorem zm_laneOf_wayMany (τ : MS) (v : Int32) : ms_laneOf (ms_wayMany_s τ v) = ms_laneOf τ := rfl
theorem zm_laneOf_inner (τ : MS) (v : (Nat → Int32)) : ms_laneOf (ms_inner_s τ v) = ms_laneOf τ := rfl
theorem zm_laneOf_laneOf (τ : MS) (v : (Nat → Int32)) : ms_laneOf (ms_laneOf_s τ v) = v := rfl
theorem zm_laneOf_isIn (τ : MS) (v : (Nat → Int32)) : ms_laneOf (ms_isIn_s τ v) = ms_laneOf τ := rfl
theorem zm_laneOf_inners (τ : MS) (v : Int32) : ms_laneOf (ms_inners_s τ v) = ms_laneOf τ := rfl
theorem zm_laneOf_out (τ : MS) (v : (Nat → Int32)) : ms_laneOf (ms_out_s τ v) = ms_laneOf τ := rfl
theorem zm_laneOf_outMany (τ : MS) (v : Int32) : ms_laneOf (ms_outMany_s τ v) = ms_laneOf τ := rfl
theorem zm_laneOf_text (τ : MS) (v : (Nat → Int32)) : ms_laneOf (ms_text_s τ v) = ms_laneOf τ := rfl
theorem zm_laneOf_length (τ : MS) (v : Int32) : ms_laneOf (ms_length_s τ v) = ms_laneOf τ := rfl
theorem zm_laneOf_at (τ : MS) (v : Int32) : ms_laneOf (ms_at_s τ v) = ms_laneOf τ := rfl
theorem zm_laneOf_fine (τ : MS) (v : Int32) : ms_laneOf (ms_fine_s τ v) = ms_laneOf τ := rfl
theorem zm_laneOf_number (τ : MS) (v : (Nat → Int32)) : ms_laneOf (ms_number_s τ v) = ms_laneOf τ := rfl
theorem zm_laneOf_h (τ : MS) (v : Int64) : ms_laneOf (ms_h_s τ v) = ms_laneOf τ := rfl
theorem zm_isIn_row (τ : MS) (v : (Nat → Int32)) : ms_isIn (ms_row_s τ v) = ms_isIn τ := rfl
theorem zm_isIn_kept (τ : MS) (v : Int32) : ms_isIn (ms_kept_s τ v) = ms_isIn τ := rfl
theorem zm_isIn_silent (τ : MS) (v : Int32) : ms_isIn (ms_silent_s τ v) = ms_isIn τ := rfl
theorem zm_isIn_xs (τ : MS) (v : (Nat → Int32)) : ms_isIn (ms_xs_s τ v) = ms_isIn τ := rfl
theorem zm_isIn_ys (τ : MS) (v : (Nat → Int32)) : ms_isIn (ms_ys_s τ v) = ms_isIn τ := rfl
theorem zm_isIn_xMany (τ : MS) (v : Int32) : ms_isIn (ms_xMany_s τ v) = ms_isIn τ := rfl
theorem zm_isIn_yMany (τ : MS) (v : Int32) : ms_isIn (ms_yMany_s τ v) = ms_isIn τ := rfl
theorem zm_isIn_isNode (τ : MS) (v : (Nat → Int32)) : ms_isIn (ms_isNode_s τ v) = ms_isIn τ := rfl
theorem zm_isIn_right (τ : MS) (v : (Nat → Int32)) : ms_isIn (ms_right_s τ v) = ms_isIn τ := rfl
theorem zm_isIn_down (τ : MS) (v : (Nat → Int32)) : ms_isIn (ms_down_s τ v) = ms_isIn τ := rfl
theorem zm_isIn_toEnd (τ : MS) (v : (Nat → Int32)) : ms_isIn (ms_toEnd_s τ v) = ms_isIn τ := rfl
theorem zm_isIn_wayX (τ : MS) (v : (Nat → Int32)) : ms_isIn (ms_wayX_s τ v) = ms_isIn τ := rfl
theorem zm_isIn_wayY (τ : MS) (v : (Nat → Int32)) : ms_isIn (ms_wayY_s τ v) = ms_isIn τ := rfl
theorem zm_isIn_wayMany (τ : MS) (v : Int32) : ms_isIn (ms_wayMany_s τ v) = ms_isIn τ := rfl
theorem zm_isIn_inner (τ : MS) (v : (Nat → Int32)) : ms_isIn (ms_inner_s τ v) = ms_isIn τ := rfl
theorem zm_isIn_laneOf (τ : MS) (v : (Nat → Int32)) : ms_isIn (ms_laneOf_s τ v) = ms_isIn τ := rfl
theorem zm_isIn_isIn (τ : MS) (v : (Nat → Int32)) : ms_isIn (ms_isIn_s τ v) = v := rfl
theorem zm_isIn_inners (τ : MS) (v : Int32) : ms_isIn (ms_inners_s τ v) = ms_isIn τ := rfl
theorem zm_isIn_out (τ : MS) (v : (Nat → Int32)) : ms_isIn (ms_out_s τ v) = ms_isIn τ := rfl
theorem zm_isIn_outMany (τ : MS) (v : Int32) : ms_isIn (ms_outMany_s τ v) = ms_isIn τ := rfl
theorem zm_isIn_text (τ : MS) (v : (Nat → Int32)) : ms_isIn (ms_text_s τ v) = ms_isIn τ := rfl
theorem zm_isIn_length (τ : MS) (v : Int32) : ms_isIn (ms_length_s τ v) = ms_isIn τ := rfl
theorem zm_isIn_at (τ : MS) (v : Int32) : ms_isIn (ms_at_s τ v) = ms_isIn τ := rfl
theorem zm_isIn_fine (τ : MS) (v : Int32) : ms_isIn (ms_fine_s τ v) = ms_isIn τ := rfl
theorem zm_isIn_number (τ : MS) (v : (Nat → Int32)) : ms_isIn (ms_number_s τ v) = ms_isIn τ := rfl
theorem zm_isIn_h (τ : MS) (v : Int64) : ms_isIn (ms_h_s τ v) = ms_isIn τ := rfl
theorem zm_inners_row (τ : MS) (v : (Nat → Int32)) : ms_inners (ms_row_s τ v) = ms_inners τ := rfl
theorem zm_inners_kept (τ : MS) (v : Int32) : ms_inners (ms_kept_s τ v) = ms_inners τ := rfl
theorem zm_inners_silent (τ : MS) (v : Int32) : ms_inners (ms_silent_s τ v) = ms_inners τ := rfl
theorem zm_inners_xs (τ : MS) (v : (Nat → Int32)) : ms_inners (ms_xs_s τ v) = ms_inners τ := rfl
theorem zm_inners_ys (τ : MS) (v : (Nat → Int32)) : ms_inners (ms_ys_s τ v) = ms_inners τ := rfl
theorem zm_inners_xMany (τ : MS) (v : Int32) : ms_inners (ms_xMany_s τ v) = ms_inners τ := rfl
theorem zm_inners_yMany (τ : MS) (v : Int32) : ms_inners (ms_yMany_s τ v) = ms_inners τ := rfl
theorem zm_inners_isNode (τ : MS) (v : (Nat → Int32)) : ms_inners (ms_isNode_s τ v) = ms_inners τ := rfl
theorem zm_inners_right (τ : MS) (v : (Nat → Int32)) : ms_inners (ms_right_s τ v) = ms_inners τ := rfl
theorem zm_inners_down (τ : MS) (v : (Nat → Int32)) : ms_inners (ms_down_s τ v) = ms_inners τ := rfl
theorem zm_inners_toEnd (τ : MS) (v : (Nat → Int32)) : ms_inners (ms_toEnd_s τ v) = ms_inners τ := rfl
theorem zm_inners_wayX (τ : MS) (v : (Nat → Int32)) : ms_inners (ms_wayX_s τ v) = ms_inners τ := rfl
theorem zm_inners_wayY (τ : MS) (v : (Nat → Int32)) : ms_inners (ms_wayY_s τ v) = ms_inners τ := rfl
theorem zm_inners_wayMany (τ : MS) (v : Int32) : ms_inners (ms_wayMany_s τ v) = ms_inners τ := rfl
theorem zm_inners_inner (τ : MS) (v : (Nat → Int32)) : ms_inners (ms_inner_s τ v) = ms_inners τ := rfl
theorem zm_inners_laneOf (τ : MS) (v : (Nat → Int32)) : ms_inners (ms_laneOf_s τ v) = ms_inners τ := rfl
theorem zm_inners_isIn (τ : MS) (v : (Nat → Int32)) : ms_inners (ms_isIn_s τ v) = ms_inners τ := rfl
theorem zm_inners_inners (τ : MS) (v : Int32) : ms_inners (ms_inners_s τ v) = v := rfl
theorem zm_inners_out (τ : MS) (v : (Nat → Int32)) : ms_inners (ms_out_s τ v) = ms_inners τ := rfl
theorem zm_inners_outMany (τ : MS) (v : Int32) : ms_inners (ms_outMany_s τ v) = ms_inners τ := rfl
theorem zm_inners_text (τ : MS) (v : (Nat → Int32)) : ms_inners (ms_text_s τ v) = ms_inners τ := rfl
theorem zm_inners_length (τ : MS) (v : Int32) : ms_inners (ms_length_s τ v) = ms_inners τ := rfl
theorem zm_inners_at (τ : MS) (v : Int32) : ms_inners (ms_at_s τ v) = ms_inners τ := rfl
theorem zm_inners_fine (τ : MS) (v : Int32) : ms_inners (ms_fine_s τ v) = ms_inners τ := rfl
theorem zm_inners_number (τ : MS) (v : (Nat → Int32)) : ms_inners (ms_number_s τ v) = ms_inners τ := rfl
theorem zm_inners_h (τ : MS) (v : Int64) : ms_inners (ms_h_s τ v) = ms_inners τ := rfl
theorem zm_out_row (τ : MS) (v : (Nat → Int32)) : ms_out (ms_row_s τ v) = ms_out τ := rfl
theorem zm_out_kept (τ : MS) (v : Int32) : ms_out (ms_kept_s τ v) = ms_out τ := rfl
theorem zm_out_silent (τ : MS) (v : Int32) : ms_out (ms_silent_s τ v) = ms_out τ := rfl
theorem zm_out_xs (τ : MS) (v : (Nat → Int32)) : ms_out (ms_xs_s τ v) = ms_out τ := rfl
theorem zm_out_ys (τ : MS) (v : (Nat → Int32)) : ms_out (ms_ys_s τ v) = ms_out τ := rfl
theorem zm_out_xMany (τ : MS) (v : Int32) : ms_out (ms_xMany_s τ v) = ms_out τ := rfl
theorem zm_out_yMany (τ : MS) (v : Int32) : ms_out (ms_yMany_s τ v) = ms_out τ := rfl
theorem zm_out_isNode (τ : MS) (v : (Nat → Int32)) : ms_out (ms_isNode_s τ v) = ms_out τ := rfl
theorem zm_out_right (τ : MS) (v : (Nat → Int32)) : ms_out (ms_right_s τ v) = ms_out τ := rfl
theorem zm_out_down (τ : MS) (v : (Nat → Int32)) : ms_out (ms_down_s τ v) = ms_out τ := rfl
theorem zm_out_toEnd (τ : MS) (v : (Nat → Int32)) : ms_out (ms_toEnd_s τ v) = ms_out τ := rfl
theorem zm_out_wayX (τ : MS) (v : (Nat → Int32)) : ms_out (ms_wayX_s τ v) = ms_out τ := rfl
theorem zm_out_wayY (τ : MS) (v : (Nat → Int32)) : ms_out (ms_wayY_s τ v) = ms_out τ := rfl
theorem zm_out_wayMany (τ : MS) (v : Int32) : ms_out (ms_wayMany_s τ v) = ms_out τ := rfl
theorem zm_out_inner (τ : MS) (v : (Nat → Int32)) : ms_out (ms_inner_s τ v) = ms_out τ := rfl
theorem zm_out_laneOf (τ : MS) (v : (Nat → Int32)) : ms_out (ms_laneOf_s τ v) = ms_out τ := rfl
theorem zm_out_isIn (τ : MS) (v : (Nat → Int32)) : ms_out (ms_isIn_s τ v) = ms_out τ := rfl
theorem zm_out_inners (τ : MS) (v : Int32) : ms_out (ms_inners_s τ v) = ms_out τ := rfl
theorem zm_out_out (τ : MS) (v : (Nat → Int32)) : ms_out (ms_out_s τ v) = v := rfl
theorem zm_out_outMany (τ : MS) (v : Int32) : ms_out (ms_outMany_s τ v) = ms_out τ := rfl
theorem zm_out_text (τ : MS) (v : (Nat → Int32)) : ms_out (ms_text_s τ v) = ms_out τ := rfl
theorem zm_out_length (τ : MS) (v : Int32) : ms_out (ms_length_s τ v) = ms_out τ := rfl
theorem zm_out_at (τ : MS) (v : Int32) : ms_out (ms_at_s τ v) = ms_out τ := rfl
theorem zm_out_fine (τ : MS) (v : Int32) : ms_out (ms_fine_s τ v) = ms_out τ := rfl
theorem zm_out_number (τ : MS) (v : (Nat → Int32)) : ms_out (ms_number_s τ v) = ms_out τ := rfl
theorem zm_out_h (τ : MS) (v : Int64) : ms_out (ms_h_s τ v) = ms_out τ := rfl
theorem zm_outMany_row (τ : MS) (v : (Nat → Int32)) : ms_outMany (ms_row_s τ v) = ms_outMany τ := rfl
theorem zm_outMany_kept (τ : MS) (v : Int32) : ms_outMany (ms_kept_s τ v) = ms_outMany τ := rfl
theorem zm_outMany_silent (τ : MS) (v : Int32) : ms_outMany (ms_silent_s τ v) = ms_outMany τ := rfl
theorem zm_outMany_xs (τ : MS) (v : (Nat → Int32)) : ms_outMany (ms_xs_s τ v) = ms_outMany τ := rfl
theorem zm_outMany_ys (τ : MS) (v : (Nat → Int32)) : ms_outMany (ms_ys_s τ v) = ms_outMany τ := rfl
theorem zm_outMany_xMany (τ : MS) (v : Int32) : ms_outMany (ms_xMany_s τ v) = ms_outMany τ := rfl
theorem zm_outMany_yMany (τ : MS) (v : Int32) : ms_outMany (ms_yMany_s τ v) = ms_outMany τ := rfl
theorem zm_outMany_isNode (τ : MS) (v : (Nat → Int32)) : ms_outMany (ms_isNode_s τ v) = ms_outMany τ := rfl
theorem zm_outMany_right (τ : MS) (v : (Nat → Int32)) : ms_outMany (ms_right_s τ v) = ms_outMany τ := rfl
theorem zm_outMany_down (τ : MS) (v : (Nat → Int32)) : ms_outMany (ms_down_s τ v) = ms_outMany τ := rfl
theorem zm_outMany_toEnd (τ : MS) (v : (Nat → Int32)) : ms_outMany (ms_toEnd_s τ v) = ms_outMany τ := rfl
theorem zm_outMany_wayX (τ : MS) (v : (Nat → Int32)) : ms_outMany (ms_wayX_s τ v) = ms_outMany τ := rfl
theorem zm_outMany_wayY (τ : MS) (v : (Nat → Int32)) : ms_outMany (ms_wayY_s τ v) = ms_outMany τ := rfl
theorem zm_outMany_wayMany (τ : MS) (v : Int32) : ms_outMany (ms_wayMany_s τ v) = ms_outMany τ := rfl
theorem zm_outMany_inner (τ : MS) (v : (Nat → Int32)) : ms_outMany (ms_inner_s τ v) = ms_outMany τ := rfl
theorem zm_outMany_laneOf (τ : MS) (v : (Nat → Int32)) : ms_outMany (ms_laneOf_s τ v) = ms_outMany τ := rfl
theorem zm_outMany_isIn (τ : MS) (v : (Nat → Int32)) : ms_outMany (ms_isIn_s τ v) = ms_outMany τ := rfl
theorem zm_outMany_inners (τ : MS) (v : Int32) : ms_outMany (ms_inners_s τ v) = ms_outMany τ := rfl
theorem zm_outMany_out (τ : MS) (v : (Nat → Int32)) : ms_outMany (ms_out_s τ v) = ms_outMany τ := rfl
theorem zm_outMany_outMany (τ : MS) (v : Int32) : ms_outMany (ms_outMany_s τ v) = v := rfl
theorem zm_outMany_text (τ : MS) (v : (Nat → Int32)) : ms_outMany (ms_text_s τ v) = ms_outMany τ := rfl
theorem zm_outMany_length (τ : MS) (v : Int32) : ms_outMany (ms_length_s τ v) = ms_outMany τ := rfl
theorem zm_outMany_at (τ : MS) (v : Int32) : ms_outMany (ms_at_s τ v) = ms_outMany τ := rfl
theorem zm_outMany_fine (τ : MS) (v : Int32) : ms_outMany (ms_fine_s τ v) = ms_outMany τ := rfl
theorem zm_outMany_number (τ : MS) (v : (Nat → Int32)) : ms_outMany (ms_number_s τ v) = ms_outMany τ := rfl
theorem zm_outMany_h (τ : MS) (v : Int64) : ms_outMany (ms_h_s τ v) = ms_outMany τ := rfl
theorem zm_text_row (τ : MS) (v : (Nat → Int32)) : ms_text (ms_row_s τ v) = ms_text τ := rfl
theorem zm_text_kept (τ : MS) (v : Int32) : ms_text (ms_kept_s τ v) = ms_text τ := rfl
theorem zm_text_silent (τ : MS) (v : Int32) : ms_text (ms_silent_s τ v) = ms_text τ := rfl
theorem zm_text_xs (τ : MS) (v : (Nat → Int32)) : ms_text (ms_xs_s τ v) = ms_text τ := rfl
theorem zm_text_ys (τ : MS) (v : (Nat → Int32)) : ms_text (ms_ys_s τ v) = ms_text τ := rfl
theorem zm_text_xMany (τ : MS) (v : Int32) : ms_text (ms_xMany_s τ v) = ms_text τ := rfl
theorem zm_text_yMany (τ : MS) (v : Int32) : ms_text (ms_yMany_s τ v) = ms_text τ := rfl
theorem zm_text_isNode (τ : MS) (v : (Nat → Int32)) : ms_text (ms_isNode_s τ v) = ms_text τ := rfl
theorem zm_text_right (τ : MS) (v : (Nat → Int32)) : ms_text (ms_right_s τ v) = ms_text τ := rfl
theorem zm_text_down (τ : MS) (v : (Nat → Int32)) : ms_text (ms_down_s τ v) = ms_text τ := rfl
theorem zm_text_toEnd (τ : MS) (v : (Nat → Int32)) : ms_text (ms_toEnd_s τ v) = ms_text τ := rfl
theorem zm_text_wayX (τ : MS) (v : (Nat → Int32)) : ms_text (ms_wayX_s τ v) = ms_text τ := rfl
theorem zm_text_wayY (τ : MS) (v : (Nat → Int32)) : ms_text (ms_wayY_s τ v) = ms_text τ := rfl
theorem zm_text_wayMany (τ : MS) (v : Int32) : ms_text (ms_wayMany_s τ v) = ms_text τ := rfl
theorem zm_text_inner (τ : MS) (v : (Nat → Int32)) : ms_text (ms_inner_s τ v) = ms_text τ := rfl
theorem zm_text_laneOf (τ : MS) (v : (Nat → Int32)) : ms_text (ms_laneOf_s τ v) = ms_text τ := rfl
theorem zm_text_isIn (τ : MS) (v : (Nat → Int32)) : ms_text (ms_isIn_s τ v) = ms_text τ := rfl
theorem zm_text_inners (τ : MS) (v : Int32) : ms_text (ms_inners_s τ v) = ms_text τ := rfl
theorem zm_text_out (τ : MS) (v : (Nat → Int32)) : ms_text (ms_out_s τ v) = ms_text τ := rfl
theorem zm_text_outMany (τ : MS) (v : Int32) : ms_text (ms_outMany_s τ v) = ms_text τ := rfl
theorem zm_text_text (τ : MS) (v : (Nat → Int32)) : ms_text (ms_text_s τ v) = v := rfl
theorem zm_text_length (τ : MS) (v : Int32) : ms_text (ms_length_s τ v) = ms_text τ := rfl
theorem zm_text_at (τ : MS) (v : Int32) : ms_text (ms_at_s τ v) = ms_text τ := rfl
theorem zm_text_fine (τ : MS) (v : Int32) : ms_text (ms_fine_s τ v) = ms_text τ := rfl
theorem zm_text_number (τ : MS) (v : (Nat → Int32)) : ms_text (ms_number_s τ v) = ms_text τ := rfl
theorem zm_text_h (τ : MS) (v : Int64) : ms_text (ms_h_s τ v) = ms_text τ := rfl
theorem zm_length_row (τ : MS) (v : (Nat → Int32)) : ms_length (ms_row_s τ v) = ms_length τ := rfl
theorem zm_length_kept (τ : MS) (v : Int32) : ms_length (ms_kept_s τ v) = ms_length τ := rfl
theorem zm_length_silent (τ : MS) (v : Int32) : ms_length (ms_silent_s τ v) = ms_length τ := rfl
theorem zm_length_xs (τ : MS) (v : (Nat → Int32)) : ms_length (ms_xs_s τ v) = ms_length τ := rfl
theorem zm_length_ys (τ : MS) (v : (Nat → Int32)) : ms_length (ms_ys_s τ v) = ms_length τ := rfl
theorem zm_length_xMany (τ : MS) (v : Int32) : ms_length (ms_xMany_s τ v) = ms_length τ := rfl
theorem zm_length_yMany (τ : MS) (v : Int32) : ms_length (ms_yMany_s τ v) = ms_length τ := rfl
theorem zm_length_isNode (τ : MS) (v : (Nat → Int32)) : ms_length (ms_isNode_s τ v) = ms_length τ := rfl
theorem zm_length_right (τ : MS) (v : (Nat → Int32)) : ms_length (ms_right_s τ v) = ms_length τ := rfl
theorem zm_length_down (τ : MS) (v : (Nat → Int32)) : ms_length (ms_down_s τ v) = ms_length τ := rfl
theorem zm_length_toEnd (τ : MS) (v : (Nat → Int32)) : ms_length (ms_toEnd_s τ v) = ms_length τ := rfl
theorem zm_length_wayX (τ : MS) (v : (Nat → Int32)) : ms_length (ms_wayX_s τ v) = ms_length τ := rfl
theorem zm_length_wayY (τ : MS) (v : (Nat → Int32)) : ms_length (ms_wayY_s τ v) = ms_length τ := rfl
theorem zm_length_wayMany (τ : MS) (v : Int32) : ms_length (ms_wayMany_s τ v) = ms_length τ := rfl
theorem zm_length_inner (τ : MS) (v : (Nat → Int32)) : ms_length (ms_inner_s τ v) = ms_length τ := rfl
theorem zm_length_laneOf (τ : MS) (v : (Nat → Int32)) : ms_length (ms_laneOf_s τ v) = ms_length τ := rfl
theorem zm_length_isIn (τ : MS) (v : (Nat → Int32)) : ms_length (ms_isIn_s τ v) = ms_length τ := rfl
theorem zm_length_inners (τ : MS) (v : Int32) : ms_length (ms_inners_s τ v) = ms_length τ := rfl
theorem zm_length_out (τ : MS) (v : (Nat → Int32)) : ms_length (ms_out_s τ v) = ms_length τ := rfl
theorem zm_length_outMany (τ : MS) (v : Int32) : ms_length (ms_outMany_s τ v) = ms_length τ := rfl
theorem zm_length_text (τ : MS) (v : (Nat → Int32)) : ms_length (ms_text_s τ v) = ms_length τ := rfl
theorem zm_length_length (τ : MS) (v : Int32) : ms_length (ms_length_s τ v) = v := rfl
theorem zm_length_at (τ : MS) (v : Int32) : ms_length (ms_at_s τ v) = ms_length τ := rfl
theorem zm_length_fine (τ : MS) (v : Int32) : ms_length (ms_fine_s τ v) = ms_length τ := rfl
theorem zm_length_number (τ : MS) (v : (Nat → Int32)) : ms_length (ms_number_s τ v) = ms_length τ := rfl
theorem zm_length_h (τ : MS) (v : Int64) : ms_length (ms_h_s τ v) = ms_length τ := rfl
theorem zm_at_row (τ : MS) (v : (Nat → Int32)) : ms_at (ms_row_s τ v) = ms_at τ := rfl
theorem zm_at_kept (τ : MS) (v : Int32) : ms_at (ms_kept_s τ v) = ms_at τ := rfl
theorem zm_at_silent (τ : MS) (v : Int32) : ms_at (ms_silent_s τ v) = ms_at τ := rfl
theorem zm_at_xs (τ : MS) (v : (Nat → Int32)) : ms_at (ms_xs_s τ v) = ms_at τ := rfl
theorem zm_at_ys (τ : MS) (v : (Nat → Int32)) : ms_at (ms_ys_s τ v) = ms_at τ := rfl
theorem zm_at_xMany (τ : MS) (v : Int32) : ms_at (ms_xMany_s τ v) = ms_at τ := rfl
theorem zm_at_yMany (τ : MS) (v : Int32) : ms_at (ms_yMany_s τ v) = ms_at τ := rfl
theorem zm_at_isNode (τ : MS) (v : (Nat → Int32)) : ms_at (ms_isNode_s τ v) = ms_at τ := rfl
theorem zm_at_right (τ : MS) (v : (Nat → Int32)) : ms_at (ms_right_s τ v) = ms_at τ := rfl
theorem zm_at_down (τ : MS) (v : (Nat → Int32)) : ms_at (ms_down_s τ v) = ms_at τ := rfl
theorem zm_at_toEnd (τ : MS) (v : (Nat → Int32)) : ms_at (ms_toEnd_s τ v) = ms_at τ := rfl
theorem zm_at_wayX (τ : MS) (v : (Nat → Int32)) : ms_at (ms_wayX_s τ v) = ms_at τ := rfl
theorem zm_at_wayY (τ : MS) (v : (Nat → Int32)) : ms_at (ms_wayY_s τ v) = ms_at τ := rfl
theorem zm_at_wayMany (τ : MS) (v : Int32) : ms_at (ms_wayMany_s τ v) = ms_at τ := rfl
theorem zm_at_inner (τ : MS) (v : (Nat → Int32)) : ms_at (ms_inner_s τ v) = ms_at τ := rfl
theorem zm_at_laneOf (τ : MS) (v : (Nat → Int32)) : ms_at (ms_laneOf_s τ v) = ms_at τ := rfl
theorem zm_at_isIn (τ : MS) (v : (Nat → Int32)) : ms_at (ms_isIn_s τ v) = ms_at τ := rfl
theorem zm_at_inners (τ : MS) (v : Int32) : ms_at (ms_inners_s τ v) = ms_at τ := rfl
theorem zm_at_out (τ : MS) (v : (Nat → Int32)) : ms_at (ms_out_s τ v) = ms_at τ := rfl
theorem zm_at_outMany (τ : MS) (v : Int32) : ms_at (ms_outMany_s τ v) = ms_at τ := rfl
theorem zm_at_text (τ : MS) (v : (Nat → Int32)) : ms_at (ms_text_s τ v) = ms_at τ := rfl
theorem zm_at_length (τ : MS) (v : Int32) : ms_at (ms_length_s τ v) = ms_at τ := rfl
theorem zm_at_at (τ : MS) (v : Int32) : ms_at (ms_at_s τ v) = v := rfl
theorem zm_at_fine (τ : MS) (v : Int32) : ms_at (ms_fine_s τ v) = ms_at τ := rfl
theorem zm_at_number (τ : MS) (v : (Nat → Int32)) : ms_at (ms_number_s τ v) = ms_at τ := rfl
theorem zm_at_h (τ : MS) (v : Int64) : ms_at (ms_h_s τ v) = ms_at τ := rfl
theorem zm_fine_row (τ : MS) (v : (Nat → Int32)) : ms_fine (ms_row_s τ v) = ms_fine τ := rfl
theorem zm_fine_kept (τ : MS) (v : Int32) : ms_fine (ms_kept_s τ v) = ms_fine τ := rfl
theorem zm_fine_silent (τ : MS) (v : Int32) : ms_fine (ms_silent_s τ v) = ms_fine τ := rfl
theorem zm_fine_xs (τ : MS) (v : (Nat → Int32)) : ms_fine (ms_xs_s τ v) = ms_fine τ := rfl
theorem zm_fine_ys (τ : MS) (v : (Nat → Int32)) : ms_fine (ms_ys_s τ v) = ms_fine τ := rfl
theorem zm_fine_xMany (τ : MS) (v : Int32) : ms_fine (ms_xMany_s τ v) = ms_fine τ := rfl
theorem zm_fine_yMany (τ : MS) (v : Int32) : ms_fine (ms_yMany_s τ v) = ms_fine τ := rfl
theorem zm_fine_isNode (τ : MS) (v : (Nat → Int32)) : ms_fine (ms_isNode_s τ v) = ms_fine τ := rfl
theorem zm_fine_right (τ : MS) (v : (Nat → Int32)) : ms_fine (ms_right_s τ v) = ms_fine τ := rfl
theorem zm_fine_down (τ : MS) (v : (Nat → Int32)) : ms_fine (ms_down_s τ v) = ms_fine τ := rfl
theorem zm_fine_toEnd (τ : MS) (v : (Nat → Int32)) : ms_fine (ms_toEnd_s τ v) = ms_fine τ := rfl
theorem zm_fine_wayX (τ : MS) (v : (Nat → Int32)) : ms_fine (ms_wayX_s τ v) = ms_fine τ := rfl
theorem zm_fine_wayY (τ : MS) (v : (Nat → Int32)) : ms_fine (ms_wayY_s τ v) = ms_fine τ := rfl
theorem zm_fine_wayMany (τ : MS) (v : Int32) : ms_fine (ms_wayMany_s τ v) = ms_fine τ := rfl
theorem zm_fine_inner (τ : MS) (v : (Nat → Int32)) : ms_fine (ms_inner_s τ v) = ms_fine τ := rfl
theorem zm_fine_laneOf (τ : MS) (v : (Nat → Int32)) : ms_fine (ms_laneOf_s τ v) = ms_fine τ := rfl
theorem zm_fine_isIn (τ : MS) (v : (Nat → Int32)) : ms_fine (ms_isIn_s τ v) = ms_fine τ := rfl
theorem zm_fine_inners (τ : MS) (v : Int32) : ms_fine (ms_inners_s τ v) = ms_fine τ := rfl
theorem zm_fine_out (τ : MS) (v : (Nat → Int32)) : ms_fine (ms_out_s τ v) = ms_fine τ := rfl
theorem zm_fine_outMany (τ : MS) (v : Int32) : ms_fine (ms_outMany_s τ v) = ms_fine τ := rfl
theorem zm_fine_text (τ : MS) (v : (Nat → Int32)) : ms_fine (ms_text_s τ v) = ms_fine τ := rfl
theorem zm_fine_length (τ : MS) (v : Int32) : ms_fine (ms_length_s τ v) = ms_fine τ := rfl
theorem zm_fine_at (τ : MS) (v : Int32) : ms_fine (ms_at_s τ v) = ms_fine τ := rfl
theorem zm_fine_fine (τ : MS) (v : Int32) : ms_fine (ms_fine_s τ v) = v := rfl
theorem zm_fine_number (τ : MS) (v : (Nat → Int32)) : ms_fine (ms_number_s τ v) = ms_fine τ := rfl
theorem zm_fine_h (τ : MS) (v : Int64) : ms_fine (ms_h_s τ v) = ms_fine τ := rfl
theorem zm_number_row (τ : MS) (v : (Nat → Int32)) : ms_number (ms_row_s τ v) = ms_number τ := rfl
theorem zm_number_kept (τ : MS) (v : Int32) : ms_number (ms_kept_s τ v) = ms_number τ := rfl
theorem zm_number_silent (τ : MS) (v : Int32) : ms_number (ms_silent_s τ v) = ms_number τ := rfl
theorem zm_number_xs (τ : MS) (v : (Nat → Int32)) : ms_number (ms_xs_s τ v) = ms_number τ := rfl
theorem zm_number_ys (τ : MS) (v : (Nat → Int32)) : ms_number (ms_ys_s τ v) = ms_number τ := rfl
theorem zm_number_xMany (τ : MS) (v : Int32) : ms_number (ms_xMany_s τ v) = ms_number τ := rfl
theorem zm_number_yMany (τ : MS) (v : Int32) : ms_number (ms_yMany_s τ v) = ms_number τ := rfl
theorem zm_number_isNode (τ : MS) (v : (Nat → Int32)) : ms_number (ms_isNode_s τ v) = ms_number τ := rfl
theorem zm_number_right (τ : MS) (v : (Nat → Int32)) : ms_number (ms_right_s τ v) = ms_number τ := rfl
theorem zm_number_down (τ : MS) (v : (Nat → Int32)) : ms_number (ms_down_s τ v) = ms_number τ := rfl
theorem zm_number_toEnd (τ : MS) (v : (Nat → Int32)) : ms_number (ms_toEnd_s τ v) = ms_number τ := rfl
theorem zm_number_wayX (τ : MS) (v : (Nat → Int32)) : ms_number (ms_wayX_s τ v) = ms_number τ := rfl
theorem zm_number_wayY (τ : MS) (v : (Nat → Int32)) : ms_number (ms_wayY_s τ v) = ms_number τ := rfl
theorem zm_number_wayMany (τ : MS) (v : Int32) : ms_number (ms_wayMany_s τ v) = ms_number τ := rfl
theorem zm_number_inner (τ : MS) (v : (Nat → Int32)) : ms_number (ms_inner_s τ v) = ms_number τ := rfl
theorem zm_number_laneOf (τ : MS) (v : (Nat → Int32)) : ms_number (ms_laneOf_s τ v) = ms_number τ := rfl
theorem zm_number_isIn (τ : MS) (v : (Nat → Int32)) : ms_number (ms_isIn_s τ v) = ms_number τ := rfl
theorem zm_number_inners (τ : MS) (v : Int32) : ms_number (ms_inners_s τ v) = ms_number τ := rfl
theorem zm_number_out (τ : MS) (v : (Nat → Int32)) : ms_number (ms_out_s τ v) = ms_number τ := rfl
theorem zm_number_outMany (τ : MS) (v : Int32) : ms_number (ms_outMany_s τ v) = ms_number τ := rfl
theorem zm_number_text (τ : MS) (v : (Nat → Int32)) : ms_number (ms_text_s τ v) = ms_number τ := rfl
theorem zm_number_length (τ : MS) (v : Int32) : ms_number (ms_length_s τ v) = ms_number τ := rfl
theorem zm_number_at (τ : MS) (v : Int32) : ms_number (ms_at_s τ v) = ms_number τ := rfl
theorem zm_number_fine (τ : MS) (v : Int32) : ms_number (ms_fine_s τ v) = ms_number τ := rfl
theorem zm_number_number (τ : MS) (v : (Nat → Int32)) : ms_number (ms_number_s τ v) = v := rfl
theorem zm_number_h (τ : MS) (v : Int64) : ms_number (ms_h_s τ v) = ms_number τ := rfl
theorem zm_h_row (τ : MS) (v : (Nat → Int32)) : ms_h (ms_row_s τ v) = ms_h τ := rfl
theorem zm_h_kept (τ : MS) (v : Int32) : ms_h (ms_kept_s τ v) = ms_h τ := rfl
theorem zm_h_silent (τ : MS) (v : Int32) : ms_h (ms_silent_s τ v) = ms_h τ := rfl
theorem zm_h_xs (τ : MS) (v : (Nat → Int32)) : ms_h (ms_xs_s τ v) = ms_h τ := rfl
theorem zm_h_ys (τ : MS) (v : (Nat → Int32)) : ms_h (ms_ys_s τ v) = ms_h τ := rfl
theorem zm_h_xMany (τ : MS) (v : Int32) : ms_h (ms_xMany_s τ v) = ms_h τ := rfl
theorem zm_h_yMany (τ : MS) (v : Int32) : ms_h (ms_yMany_s τ v) = ms_h τ := rfl
theorem zm_h_isNode (τ : MS) (v : (Nat → Int32)) : ms_h (ms_isNode_s τ v) = ms_h τ := rfl
theorem zm_h_right (τ : MS) (v : (Nat → Int32)) : ms_h (ms_right_s τ v) = ms_h τ := rfl
theorem zm_h_down (τ : MS) (v : (Nat → Int32)) : ms_h (ms_down_s τ v) = ms_h τ := rfl
theorem zm_h_toEnd (τ : MS) (v : (Nat → Int32)) : ms_h (ms_toEnd_s τ v) = ms_h τ := rfl
theorem zm_h_wayX (τ : MS) (v : (Nat → Int32)) : ms_h (ms_wayX_s τ v) = ms_h τ := rfl
theorem zm_h_wayY (τ : MS) (v : (Nat → Int32)) : ms_h (ms_wayY_s τ v) = ms_h τ := rfl
theorem zm_h_wayMany (τ : MS) (v : Int32) : ms_h (ms_wayMany_s τ v) = ms_h τ := rfl
theorem zm_h_inner (τ : MS) (v : (Nat → Int32)) : ms_h (ms_inner_s τ v) = ms_h τ := rfl
theorem zm_h_laneOf (τ : MS) (v : (Nat → Int32)) : ms_h (ms_laneOf_s τ v) = ms_h τ := rfl
theorem zm_h_isIn (τ : MS) (v : (Nat → Int32)) : ms_h (ms_isIn_s τ v) = ms_h τ := rfl
theorem zm_h_inners (τ : MS) (v : Int32) : ms_h (ms_inners_s τ v) = ms_h τ := rfl
theorem zm_h_out (τ : MS) (v : (Nat → Int32)) : ms_h (ms_out_s τ v) = ms_h τ := rfl
theorem zm_h_outMany (τ : MS) (v : Int32) : ms_h (ms_outMany_s τ v) = ms_h τ := rfl
theorem zm_h_text (τ : MS) (v : (Nat → Int32)) : ms_h (ms_text_s τ v) = ms_h τ := rfl
theorem zm_h_length (τ : MS) (v : Int32) : ms_h (ms_length_s τ v) = ms_h τ := rfl
theorem zm_h_at (τ : MS) (v : Int32) : ms_h (ms_at_s τ v) = ms_h τ := rfl
theorem zm_h_fine (τ : MS) (v : Int32) : ms_h (ms_fine_s τ v) = ms_h τ := rfl
theorem zm_h_number (τ : MS) (v : (Nat → Int32)) : ms_h (ms_number_s τ v) = ms_h τ := rfl
theorem zm_h_h (τ : MS) (v : Int64) : ms_h (ms_h_s τ v) = v := rfl
theorem zc_cb_cb (σ : CSt) (v : Int32) : cs_cb (cs_cb_s σ v) = v := rfl
theorem zc_cb_cc (σ : CSt) (v : Int32) : cs_cb (cs_cc_s σ v) = cs_cb σ := rfl
theorem zc_cb_cp (σ : CSt) (v : Int32) : cs_cb (cs_cp_s σ v) = cs_cb σ := rfl
theorem zc_cb_ce (σ : CSt) (v : (Nat → Int32)) : cs_cb (cs_ce_s σ v) = cs_cb σ := rfl
theorem zc_cb_cq (σ : CSt) (v : (Nat → Int32)) : cs_cb (cs_cq_s σ v) = cs_cb σ := rfl
theorem zc_cb_cr (σ : CSt) (v : (Nat → Option RV)) : cs_cb (cs_cr_s σ v) = cs_cb σ := rfl
theorem zc_cb_kb (σ : CSt) (v : (Nat → Int32)) : cs_cb (cs_kb_s σ v) = cs_cb σ := rfl
theorem zc_cb_kc (σ : CSt) (v : (Nat → Int32)) : cs_cb (cs_kc_s σ v) = cs_cb σ := rfl
theorem zc_cb_kp (σ : CSt) (v : (Nat → Int32)) : cs_cb (cs_kp_s σ v) = cs_cb σ := rfl
theorem zc_cb_ke (σ : CSt) (v : (Nat → Nat → Int32)) : cs_cb (cs_ke_s σ v) = cs_cb σ := rfl
theorem zc_cb_kq (σ : CSt) (v : (Nat → Nat → Int32)) : cs_cb (cs_kq_s σ v) = cs_cb σ := rfl
theorem zc_cb_kr (σ : CSt) (v : (Nat → Nat → Option RV)) : cs_cb (cs_kr_s σ v) = cs_cb σ := rfl
theorem zc_cb_hs (σ : CSt) (v : Int32) : cs_cb (cs_hs_s σ v) = cs_cb σ := rfl
theorem zc_cb_ho (σ : CSt) (v : Int32) : cs_cb (cs_ho_s σ v) = cs_cb σ := rfl
theorem zc_cb_run (σ : CSt) (v : Int32) : cs_cb (cs_run_s σ v) = cs_cb σ := rfl
theorem zc_cb_frests (σ : CSt) (v : (Nat → Int32)) : cs_cb (cs_frests_s σ v) = cs_cb σ := rfl
theorem zc_cb_fpen (σ : CSt) (v : Int32) : cs_cb (cs_fpen_s σ v) = cs_cb σ := rfl
theorem zc_cb_fstart (σ : CSt) (v : Int32) : cs_cb (cs_fstart_s σ v) = cs_cb σ := rfl
theorem zc_cb_fss (σ : CSt) (v : Int32) : cs_cb (cs_fss_s σ v) = cs_cb σ := rfl
theorem zc_cb_fgoal (σ : CSt) (v : Int32) : cs_cb (cs_fgoal_s σ v) = cs_cb σ := rfl
theorem zc_cb_fgs (σ : CSt) (v : Int32) : cs_cb (cs_fgs_s σ v) = cs_cb σ := rfl
theorem zc_cb_fcx (σ : CSt) (v : (Nat → Int32)) : cs_cb (cs_fcx_s σ v) = cs_cb σ := rfl
theorem zc_cb_fcy (σ : CSt) (v : (Nat → Int32)) : cs_cb (cs_fcy_s σ v) = cs_cb σ := rfl
theorem zc_cb_fcn (σ : CSt) (v : Int32) : cs_cb (cs_fcn_s σ v) = cs_cb σ := rfl
theorem zc_cb_gx (σ : CSt) (v : (Nat → Int32)) : cs_cb (cs_gx_s σ v) = cs_cb σ := rfl
theorem zc_cb_gy (σ : CSt) (v : (Nat → Int32)) : cs_cb (cs_gy_s σ v) = cs_cb σ := rfl
theorem zc_cb_gc (σ : CSt) (v : Int32) : cs_cb (cs_gc_s σ v) = cs_cb σ := rfl
theorem zc_cb_gr (σ : CSt) (v : Int32) : cs_cb (cs_gr_s σ v) = cs_cb σ := rfl
theorem zc_cb_goR (σ : CSt) (v : (Nat → Int32)) : cs_cb (cs_goR_s σ v) = cs_cb σ := rfl
theorem zc_cb_goD (σ : CSt) (v : (Nat → Int32)) : cs_cb (cs_goD_s σ v) = cs_cb σ := rfl
theorem zc_cb_wre (σ : CSt) (v : Int32) : cs_cb (cs_wre_s σ v) = cs_cb σ := rfl
theorem zc_cb_whd (σ : CSt) (v : (Nat → Int32)) : cs_cb (cs_whd_s σ v) = cs_cb σ := rfl
theorem zc_cb_wnx (σ : CSt) (v : (Nat → Int32)) : cs_cb (cs_wnx_s σ v) = cs_cb σ := rfl
theorem zc_cb_wpv (σ : CSt) (v : (Nat → Int32)) : cs_cb (cs_wpv_s σ v) = cs_cb σ := rfl
theorem zc_cb_bs (σ : CSt) (v : Int32) : cs_cb (cs_bs_s σ v) = cs_cb σ := rfl
theorem zc_cb_bo (σ : CSt) (v : Int32) : cs_cb (cs_bo_s σ v) = cs_cb σ := rfl
theorem zc_cb_bst (σ : CSt) (v : (Nat → Int32)) : cs_cb (cs_bst_s σ v) = cs_cb σ := rfl
theorem zc_cb_ben (σ : CSt) (v : (Nat → Int32)) : cs_cb (cs_ben_s σ v) = cs_cb σ := rfl
theorem zc_cb_bpu (σ : CSt) (v : (Nat → Int32)) : cs_cb (cs_bpu_s σ v) = cs_cb σ := rfl
theorem zc_cb_bla (σ : CSt) (v : (Nat → Int32)) : cs_cb (cs_bla_s σ v) = cs_cb σ := rfl
theorem zc_cb_bre (σ : CSt) (v : (Nat → Int32)) : cs_cb (cs_bre_s σ v) = cs_cb σ := rfl
theorem zc_cb_tl (σ : CSt) (v : Int32) : cs_cb (cs_tl_s σ v) = cs_cb σ := rfl
theorem zc_cb_tb (σ : CSt) (v : (Nat → Int32)) : cs_cb (cs_tb_s σ v) = cs_cb σ := rfl
theorem zc_cb_tw (σ : CSt) (v : Int32) : cs_cb (cs_tw_s σ v) = cs_cb σ := rfl
theorem zc_cb_tn (σ : CSt) (v : (Nat → Int32)) : cs_cb (cs_tn_s σ v) = cs_cb σ := rfl
theorem zc_cb_tc (σ : CSt) (v : Int32) : cs_cb (cs_tc_s σ v) = cs_cb σ := rfl
theorem zc_cb_te (σ : CSt) (v : Int32) : cs_cb (cs_te_s σ v) = cs_cb σ := rfl
theorem zc_cb_tf (σ : CSt) (v : Int32) : cs_cb (cs_tf_s σ v) = cs_cb σ := rfl
theorem zc_cb_sct (σ : CSt) (v : Int32) : cs_cb (cs_sct_s σ v) = cs_cb σ := rfl
theorem zc_cb_sml (σ : CSt) (v : Int32) : cs_cb (cs_sml_s σ v) = cs_cb σ := rfl
theorem zc_cb_sv (σ : CSt) (v : (Nat → Int32)) : cs_cb (cs_sv_s σ v) = cs_cb σ := rfl
theorem zc_cb_scap (σ : CSt) (v : Nat) : cs_cb (cs_scap_s σ v) = cs_cb σ := rfl
theorem zc_cb_nc (σ : CSt) (v : Nat) : cs_cb (cs_nc_s σ v) = cs_cb σ := rfl
theorem zc_cb_ns (σ : CSt) (v : Nat) : cs_cb (cs_ns_s σ v) = cs_cb σ := rfl
theorem zc_cc_cb (σ : CSt) (v : Int32) : cs_cc (cs_cb_s σ v) = cs_cc σ := rfl
theorem zc_cc_cc (σ : CSt) (v : Int32) : cs_cc (cs_cc_s σ v) = v := rfl
theorem zc_cc_cp (σ : CSt) (v : Int32) : cs_cc (cs_cp_s σ v) = cs_cc σ := rfl
theorem zc_cc_ce (σ : CSt) (v : (Nat → Int32)) : cs_cc (cs_ce_s σ v) = cs_cc σ := rfl
theorem zc_cc_cq (σ : CSt) (v : (Nat → Int32)) : cs_cc (cs_cq_s σ v) = cs_cc σ := rfl
theorem zc_cc_cr (σ : CSt) (v : (Nat → Option RV)) : cs_cc (cs_cr_s σ v) = cs_cc σ := rfl
theorem zc_cc_kb (σ : CSt) (v : (Nat → Int32)) : cs_cc (cs_kb_s σ v) = cs_cc σ := rfl
theorem zc_cc_kc (σ : CSt) (v : (Nat → Int32)) : cs_cc (cs_kc_s σ v) = cs_cc σ := rfl
theorem zc_cc_kp (σ : CSt) (v : (Nat → Int32)) : cs_cc (cs_kp_s σ v) = cs_cc σ := rfl
theorem zc_cc_ke (σ : CSt) (v : (Nat → Nat → Int32)) : cs_cc (cs_ke_s σ v) = cs_cc σ := rfl
theorem zc_cc_kq (σ : CSt) (v : (Nat → Nat → Int32)) : cs_cc (cs_kq_s σ v) = cs_cc σ := rfl
theorem zc_cc_kr (σ : CSt) (v : (Nat → Nat → Option RV)) : cs_cc (cs_kr_s σ v) = cs_cc σ := rfl
theorem zc_cc_hs (σ : CSt) (v : Int32) : cs_cc (cs_hs_s σ v) = cs_cc σ := rfl
theorem zc_cc_ho (σ : CSt) (v : Int32) : cs_cc (cs_ho_s σ v) = cs_cc σ := rfl
theorem zc_cc_run (σ : CSt) (v : Int32) : cs_cc (cs_run_s σ v) = cs_cc σ := rfl
theorem zc_cc_frests (σ : CSt) (v : (Nat → Int32)) : cs_cc (cs_frests_s σ v) = cs_cc σ := rfl
theorem zc_cc_fpen (σ : CSt) (v : Int32) : cs_cc (cs_fpen_s σ v) = cs_cc σ := rfl
theorem zc_cc_fstart (σ : CSt) (v : Int32) : cs_cc (cs_fstart_s σ v) = cs_cc σ := rfl
theorem zc_cc_fss (σ : CSt) (v : Int32) : cs_cc (cs_fss_s σ v) = cs_cc σ := rfl
theorem zc_cc_fgoal (σ : CSt) (v : Int32) : cs_cc (cs_fgoal_s σ v) = cs_cc σ := rfl
theorem zc_cc_fgs (σ : CSt) (v : Int32) : cs_cc (cs_fgs_s σ v) = cs_cc σ := rfl
theorem zc_cc_fcx (σ : CSt) (v : (Nat → Int32)) : cs_cc (cs_fcx_s σ v) = cs_cc σ := rfl
theorem zc_cc_fcy (σ : CSt) (v : (Nat → Int32)) : cs_cc (cs_fcy_s σ v) = cs_cc σ := rfl
theorem zc_cc_fcn (σ : CSt) (v : Int32) : cs_cc (cs_fcn_s σ v) = cs_cc σ := rfl
theorem zc_cc_gx (σ : CSt) (v : (Nat → Int32)) : cs_cc (cs_gx_s σ v) = cs_cc σ := rfl
theorem zc_cc_gy (σ : CSt) (v : (Nat → Int32)) : cs_cc (cs_gy_s σ v) = cs_cc σ := rfl
theorem zc_cc_gc (σ : CSt) (v : Int32) : cs_cc (cs_gc_s σ v) = cs_cc σ := rfl
theorem zc_cc_gr (σ : CSt) (v : Int32) : cs_cc (cs_gr_s σ v) = cs_cc σ := rfl
theorem zc_cc_goR (σ : CSt) (v : (Nat → Int32)) : cs_cc (cs_goR_s σ v) = cs_cc σ := rfl
theorem zc_cc_goD (σ : CSt) (v : (Nat → Int32)) : cs_cc (cs_goD_s σ v) = cs_cc σ := rfl
theorem zc_cc_wre (σ : CSt) (v : Int32) : cs_cc (cs_wre_s σ v) = cs_cc σ := rfl
theorem zc_cc_whd (σ : CSt) (v : (Nat → Int32)) : cs_cc (cs_whd_s σ v) = cs_cc σ := rfl
theorem zc_cc_wnx (σ : CSt) (v : (Nat → Int32)) : cs_cc (cs_wnx_s σ v) = cs_cc σ := rfl
theorem zc_cc_wpv (σ : CSt) (v : (Nat → Int32)) : cs_cc (cs_wpv_s σ v) = cs_cc σ := rfl
theorem zc_cc_bs (σ : CSt) (v : Int32) : cs_cc (cs_bs_s σ v) = cs_cc σ := rfl
theorem zc_cc_bo (σ : CSt) (v : Int32) : cs_cc (cs_bo_s σ v) = cs_cc σ := rfl
theorem zc_cc_bst (σ : CSt) (v : (Nat → Int32)) : cs_cc (cs_bst_s σ v) = cs_cc σ := rfl
theorem zc_cc_ben (σ : CSt) (v : (Nat → Int32)) : cs_cc (cs_ben_s σ v) = cs_cc σ := rfl
theorem zc_cc_bpu (σ : CSt) (v : (Nat → Int32)) : cs_cc (cs_bpu_s σ v) = cs_cc σ := rfl
theorem zc_cc_bla (σ : CSt) (v : (Nat → Int32)) : cs_cc (cs_bla_s σ v) = cs_cc σ := rfl
theorem zc_cc_bre (σ : CSt) (v : (Nat → Int32)) : cs_cc (cs_bre_s σ v) = cs_cc σ := rfl
theorem zc_cc_tl (σ : CSt) (v : Int32) : cs_cc (cs_tl_s σ v) = cs_cc σ := rfl
theorem zc_cc_tb (σ : CSt) (v : (Nat → Int32)) : cs_cc (cs_tb_s σ v) = cs_cc σ := rfl
theorem zc_cc_tw (σ : CSt) (v : Int32) : cs_cc (cs_tw_s σ v) = cs_cc σ := rfl
theorem zc_cc_tn (σ : CSt) (v : (Nat → Int32)) : cs_cc (cs_tn_s σ v) = cs_cc σ := rfl
theorem zc_cc_tc (σ : CSt) (v : Int32) : cs_cc (cs_tc_s σ v) = cs_cc σ := rfl
theorem zc_cc_te (σ : CSt) (v : Int32) : cs_cc (cs_te_s σ v) = cs_cc σ := rfl
theorem zc_cc_tf (σ : CSt) (v : Int32) : cs_cc (cs_tf_s σ v) = cs_cc σ := rfl
theorem zc_cc_sct (σ : CSt) (v : Int32) : cs_cc (cs_sct_s σ v) = cs_cc σ := rfl
theorem zc_cc_sml (σ : CSt) (v : Int32) : cs_cc (cs_sml_s σ v) = cs_cc σ := rfl
theorem zc_cc_sv (σ : CSt) (v : (Nat → Int32)) : cs_cc (cs_sv_s σ v) = cs_cc σ := rfl
theorem zc_cc_scap (σ : CSt) (v : Nat) : cs_cc (cs_scap_s σ v) = cs_cc σ := rfl
theorem zc_cc_nc (σ : CSt) (v : Nat) : cs_cc (cs_nc_s σ v) = cs_cc σ := rfl
theorem zc_cc_ns (σ : CSt) (v : Nat) : cs_cc (cs_ns_s σ v) = cs_cc σ := rfl
theorem zc_cp_cb (σ : CSt) (v : Int32) : cs_cp (cs_cb_s σ v) = cs_cp σ := rfl
theorem zc_cp_cc (σ : CSt) (v : Int32) : cs_cp (cs_cc_s σ v) = cs_cp σ := rfl
theorem zc_cp_cp (σ : CSt) (v : Int32) : cs_cp (cs_cp_s σ v) = v := rfl
theorem zc_cp_ce (σ : CSt) (v : (Nat → Int32)) : cs_cp (cs_ce_s σ v) = cs_cp σ := rfl
theorem zc_cp_cq (σ : CSt) (v : (Nat → Int32)) : cs_cp (cs_cq_s σ v) = cs_cp σ := rfl
theorem zc_cp_cr (σ : CSt) (v : (Nat → Option RV)) : cs_cp (cs_cr_s σ v) = cs_cp σ := rfl
theorem zc_cp_kb (σ : CSt) (v : (Nat → Int32)) : cs_cp (cs_kb_s σ v) = cs_cp σ := rfl
theorem zc_cp_kc (σ : CSt) (v : (Nat → Int32)) : cs_cp (cs_kc_s σ v) = cs_cp σ := rfl
theorem zc_cp_kp (σ : CSt) (v : (Nat → Int32)) : cs_cp (cs_kp_s σ v) = cs_cp σ := rfl
theorem zc_cp_ke (σ : CSt) (v : (Nat → Nat → Int32)) : cs_cp (cs_ke_s σ v) = cs_cp σ := rfl
theorem zc_cp_kq (σ : CSt) (v : (Nat → Nat → Int32)) : cs_cp (cs_kq_s σ v) = cs_cp σ := rfl
theorem zc_cp_kr (σ : CSt) (v : (Nat → Nat → Option RV)) : cs_cp (cs_kr_s σ v) = cs_cp σ := rfl
theorem zc_cp_hs (σ : CSt) (v : Int32) : cs_cp (cs_hs_s σ v) = cs_cp σ := rfl
theorem zc_cp_ho (σ : CSt) (v : Int32) : cs_cp (cs_ho_s σ v) = cs_cp σ := rfl
theorem zc_cp_run (σ : CSt) (v : Int32) : cs_cp (cs_run_s σ v) = cs_cp σ := rfl
theorem zc_cp_frests (σ : CSt) (v : (Nat → Int32)) : cs_cp (cs_frests_s σ v) = cs_cp σ := rfl
theorem zc_cp_fpen (σ : CSt) (v : Int32) : cs_cp (cs_fpen_s σ v) = cs_cp σ := rfl
theorem zc_cp_fstart (σ : CSt) (v : Int32) : cs_cp (cs_fstart_s σ v) = cs_cp σ := rfl
theorem zc_cp_fss (σ : CSt) (v : Int32) : cs_cp (cs_fss_s σ v) = cs_cp σ := rfl
theorem zc_cp_fgoal (σ : CSt) (v : Int32) : cs_cp (cs_fgoal_s σ v) = cs_cp σ := rfl
theorem zc_cp_fgs (σ : CSt) (v : Int32) : cs_cp (cs_fgs_s σ v) = cs_cp σ := rfl
theorem zc_cp_fcx (σ : CSt) (v : (Nat → Int32)) : cs_cp (cs_fcx_s σ v) = cs_cp σ := rfl
theorem zc_cp_fcy (σ : CSt) (v : (Nat → Int32)) : cs_cp (cs_fcy_s σ v) = cs_cp σ := rfl
theorem zc_cp_fcn (σ : CSt) (v : Int32) : cs_cp (cs_fcn_s σ v) = cs_cp σ := rfl
theorem zc_cp_gx (σ : CSt) (v : (Nat → Int32)) : cs_cp (cs_gx_s σ v) = cs_cp σ := rfl
theorem zc_cp_gy (σ : CSt) (v : (Nat → Int32)) : cs_cp (cs_gy_s σ v) = cs_cp σ := rfl
theorem zc_cp_gc (σ : CSt) (v : Int32) : cs_cp (cs_gc_s σ v) = cs_cp σ := rfl
theorem zc_cp_gr (σ : CSt) (v : Int32) : cs_cp (cs_gr_s σ v) = cs_cp σ := rfl
theorem zc_cp_goR (σ : CSt) (v : (Nat → Int32)) : cs_cp (cs_goR_s σ v) = cs_cp σ := rfl
theorem zc_cp_goD (σ : CSt) (v : (Nat → Int32)) : cs_cp (cs_goD_s σ v) = cs_cp σ := rfl
theorem zc_cp_wre (σ : CSt) (v : Int32) : cs_cp (cs_wre_s σ v) = cs_cp σ := rfl
theorem zc_cp_whd (σ : CSt) (v : (Nat → Int32)) : cs_cp (cs_whd_s σ v) = cs_cp σ := rfl
theorem zc_cp_wnx (σ : CSt) (v : (Nat → Int32)) : cs_cp (cs_wnx_s σ v) = cs_cp σ := rfl
theorem zc_cp_wpv (σ : CSt) (v : (Nat → Int32)) : cs_cp (cs_wpv_s σ v) = cs_cp σ := rfl
theorem zc_cp_bs (σ : CSt) (v : Int32) : cs_cp (cs_bs_s σ v) = cs_cp σ := rfl
theorem zc_cp_bo (σ : CSt) (v : Int32) : cs_cp (cs_bo_s σ v) = cs_cp σ := rfl
theorem zc_cp_bst (σ : CSt) (v : (Nat → Int32)) : cs_cp (cs_bst_s σ v) = cs_cp σ := rfl
theorem zc_cp_ben (σ : CSt) (v : (Nat → Int32)) : cs_cp (cs_ben_s σ v) = cs_cp σ := rfl
theorem zc_cp_bpu (σ : CSt) (v : (Nat → Int32)) : cs_cp (cs_bpu_s σ v) = cs_cp σ := rfl
theorem zc_cp_bla (σ : CSt) (v : (Nat → Int32)) : cs_cp (cs_bla_s σ v) = cs_cp σ := rfl
theorem zc_cp_bre (σ : CSt) (v : (Nat → Int32)) : cs_cp (cs_bre_s σ v) = cs_cp σ := rfl
theorem zc_cp_tl (σ : CSt) (v : Int32) : cs_cp (cs_tl_s σ v) = cs_cp σ := rfl
theorem zc_cp_tb (σ : CSt) (v : (Nat → Int32)) : cs_cp (cs_tb_s σ v) = cs_cp σ := rfl
theorem zc_cp_tw (σ : CSt) (v : Int32) : cs_cp (cs_tw_s σ v) = cs_cp σ := rfl
theorem zc_cp_tn (σ : CSt) (v : (Nat → Int32)) : cs_cp (cs_tn_s σ v) = cs_cp σ := rfl
theorem zc_cp_tc (σ : CSt) (v : Int32) : cs_cp (cs_tc_s σ v) = cs_cp σ := rfl
theorem zc_cp_te (σ : CSt) (v : Int32) : cs_cp (cs_te_s σ v) = cs_cp σ := rfl
theorem zc_cp_tf (σ : CSt) (v : Int32) : cs_cp (cs_tf_s σ v) = cs_cp σ := rfl
theorem zc_cp_sct (σ : CSt) (v : Int32) : cs_cp (cs_sct_s σ v) = cs_cp σ := rfl
theorem zc_cp_sml (σ : CSt) (v : Int32) : cs_cp (cs_sml_s σ v) = cs_cp σ := rfl
theorem zc_cp_sv (σ : CSt) (v : (Nat → Int32)) : cs_cp (cs_sv_s σ v) = cs_cp σ := rfl
theorem zc_cp_scap (σ : CSt) (v : Nat) : cs_cp (cs_scap_s σ v) = cs_cp σ := rfl
theorem zc_cp_nc (σ : CSt) (v : Nat) : cs_cp (cs_nc_s σ v) = cs_cp σ := rfl
theorem zc_cp_ns (σ : CSt) (v : Nat) : cs_cp (cs_ns_s σ v) = cs_cp σ := rfl
theorem zc_ce_cb (σ : CSt) (v : Int32) : cs_ce (cs_cb_s σ v) = cs_ce σ := rfl
theorem zc_ce_cc (σ : CSt) (v : Int32) : cs_ce (cs_cc_s σ v) = cs_ce σ := rfl
theorem zc_ce_cp (σ : CSt) (v : Int32) : cs_ce (cs_cp_s σ v) = cs_ce σ := rfl
theorem zc_ce_ce (σ : CSt) (v : (Nat → Int32)) : cs_ce (cs_ce_s σ v) = v := rfl
theorem zc_ce_cq (σ : CSt) (v : (Nat → Int32)) : cs_ce (cs_cq_s σ v) = cs_ce σ := rfl
theorem zc_ce_cr (σ : CSt) (v : (Nat → Option RV)) : cs_ce (cs_cr_s σ v) = cs_ce σ := rfl
theorem zc_ce_kb (σ : CSt) (v : (Nat → Int32)) : cs_ce (cs_kb_s σ v) = cs_ce σ := rfl
theorem zc_ce_kc (σ : CSt) (v : (Nat → Int32)) : cs_ce (cs_kc_s σ v) = cs_ce σ := rfl
theorem zc_ce_kp (σ : CSt) (v : (Nat → Int32)) : cs_ce (cs_kp_s σ v) = cs_ce σ := rfl
theorem zc_ce_ke (σ : CSt) (v : (Nat → Nat → Int32)) : cs_ce (cs_ke_s σ v) = cs_ce σ := rfl
theorem zc_ce_kq (σ : CSt) (v : (Nat → Nat → Int32)) : cs_ce (cs_kq_s σ v) = cs_ce σ := rfl
theorem zc_ce_kr (σ : CSt) (v : (Nat → Nat → Option RV)) : cs_ce (cs_kr_s σ v) = cs_ce σ := rfl
theorem zc_ce_hs (σ : CSt) (v : Int32) : cs_ce (cs_hs_s σ v) = cs_ce σ := rfl
theorem zc_ce_ho (σ : CSt) (v : Int32) : cs_ce (cs_ho_s σ v) = cs_ce σ := rfl
theorem zc_ce_run (σ : CSt) (v : Int32) : cs_ce (cs_run_s σ v) = cs_ce σ := rfl
theorem zc_ce_frests (σ : CSt) (v : (Nat → Int32)) : cs_ce (cs_frests_s σ v) = cs_ce σ := rfl
theorem zc_ce_fpen (σ : CSt) (v : Int32) : cs_ce (cs_fpen_s σ v) = cs_ce σ := rfl
theorem zc_ce_fstart (σ : CSt) (v : Int32) : cs_ce (cs_fstart_s σ v) = cs_ce σ := rfl
theorem zc_ce_fss (σ : CSt) (v : Int32) : cs_ce (cs_fss_s σ v) = cs_ce σ := rfl
theorem zc_ce_fgoal (σ : CSt) (v : Int32) : cs_ce (cs_fgoal_s σ v) = cs_ce σ := rfl
theorem zc_ce_fgs (σ : CSt) (v : Int32) : cs_ce (cs_fgs_s σ v) = cs_ce σ := rfl
theorem zc_ce_fcx (σ : CSt) (v : (Nat → Int32)) : cs_ce (cs_fcx_s σ v) = cs_ce σ := rfl
theorem zc_ce_fcy (σ : CSt) (v : (Nat → Int32)) : cs_ce (cs_fcy_s σ v) = cs_ce σ := rfl
theorem zc_ce_fcn (σ : CSt) (v : Int32) : cs_ce (cs_fcn_s σ v) = cs_ce σ := rfl
theorem zc_ce_gx (σ : CSt) (v : (Nat → Int32)) : cs_ce (cs_gx_s σ v) = cs_ce σ := rfl
theorem zc_ce_gy (σ : CSt) (v : (Nat → Int32)) : cs_ce (cs_gy_s σ v) = cs_ce σ := rfl
theorem zc_ce_gc (σ : CSt) (v : Int32) : cs_ce (cs_gc_s σ v) = cs_ce σ := rfl
theorem zc_ce_gr (σ : CSt) (v : Int32) : cs_ce (cs_gr_s σ v) = cs_ce σ := rfl
theorem zc_ce_goR (σ : CSt) (v : (Nat → Int32)) : cs_ce (cs_goR_s σ v) = cs_ce σ := rfl
theorem zc_ce_goD (σ : CSt) (v : (Nat → Int32)) : cs_ce (cs_goD_s σ v) = cs_ce σ := rfl
theorem zc_ce_wre (σ : CSt) (v : Int32) : cs_ce (cs_wre_s σ v) = cs_ce σ := rfl
theorem zc_ce_whd (σ : CSt) (v : (Nat → Int32)) : cs_ce (cs_whd_s σ v) = cs_ce σ := rfl
theorem zc_ce_wnx (σ : CSt) (v : (Nat → Int32)) : cs_ce (cs_wnx_s σ v) = cs_ce σ := rfl
theorem zc_ce_wpv (σ : CSt) (v : (Nat → Int32)) : cs_ce (cs_wpv_s σ v) = cs_ce σ := rfl
theorem zc_ce_bs (σ : CSt) (v : Int32) : cs_ce (cs_bs_s σ v) = cs_ce σ := rfl
theorem zc_ce_bo (σ : CSt) (v : Int32) : cs_ce (cs_bo_s σ v) = cs_ce σ := rfl
theorem zc_ce_bst (σ : CSt) (v : (Nat → Int32)) : cs_ce (cs_bst_s σ v) = cs_ce σ := rfl
theorem zc_ce_ben (σ : CSt) (v : (Nat → Int32)) : cs_ce (cs_ben_s σ v) = cs_ce σ := rfl
theorem zc_ce_bpu (σ : CSt) (v : (Nat → Int32)) : cs_ce (cs_bpu_s σ v) = cs_ce σ := rfl
theorem zc_ce_bla (σ : CSt) (v : (Nat → Int32)) : cs_ce (cs_bla_s σ v) = cs_ce σ := rfl
theorem zc_ce_bre (σ : CSt) (v : (Nat → Int32)) : cs_ce (cs_bre_s σ v) = cs_ce σ := rfl
theorem zc_ce_tl (σ : CSt) (v : Int32) : cs_ce (cs_tl_s σ v) = cs_ce σ := rfl
theorem zc_ce_tb (σ : CSt) (v : (Nat → Int32)) : cs_ce (cs_tb_s σ v) = cs_ce σ := rfl
theorem zc_ce_tw (σ : CSt) (v : Int32) : cs_ce (cs_tw_s σ v) = cs_ce σ := rfl
theorem zc_ce_tn (σ : CSt) (v : (Nat → Int32)) : cs_ce (cs_tn_s σ v) = cs_ce σ := rfl
theorem zc_ce_tc (σ : CSt) (v : Int32) : cs_ce (cs_tc_s σ v) = cs_ce σ := rfl
theorem zc_ce_te (σ : CSt) (v : Int32) : cs_ce (cs_te_s σ v) = cs_ce σ := rfl
theorem zc_ce_tf (σ : CSt) (v : Int32) : cs_ce (cs_tf_s σ v) = cs_ce σ := rfl
theorem zc_ce_sct (σ : CSt) (v : Int32) : cs_ce (cs_sct_s σ v) = cs_ce σ := rfl
theorem zc_ce_sml (σ : CSt) (v : Int32) : cs_ce (cs_sml_s σ v) = cs_ce σ := rfl
theorem zc_ce_sv (σ : CSt) (v : (Nat → Int32)) : cs_ce (cs_sv_s σ v) = cs_ce σ := rfl
theorem zc_ce_scap (σ : CSt) (v : Nat) : cs_ce (cs_scap_s σ v) = cs_ce σ := rfl
theorem zc_ce_nc (σ : CSt) (v : Nat) : cs_ce (cs_nc_s σ v) = cs_ce σ := rfl
theorem zc_ce_ns (σ : CSt) (v : Nat) : cs_ce (cs_ns_s σ v) = cs_ce σ := rfl
theorem zc_cq_cb (σ : CSt) (v : Int32) : cs_cq (cs_cb_s σ v) = cs_cq σ := rfl
theorem zc_cq_cc (σ : CSt) (v : Int32) : cs_cq (cs_cc_s σ v) = cs_cq σ := rfl
theorem zc_cq_cp (σ : CSt) (v : Int32) : cs_cq (cs_cp_s σ v) = cs_cq σ := rfl
theorem zc_cq_ce (σ : CSt) (v : (Nat → Int32)) : cs_cq (cs_ce_s σ v) = cs_cq σ := rfl
theorem zc_cq_cq (σ : CSt) (v : (Nat → Int32)) : cs_cq (cs_cq_s σ v) = v := rfl
theorem zc_cq_cr (σ : CSt) (v : (Nat → Option RV)) : cs_cq (cs_cr_s σ v) = cs_cq σ := rfl
theorem zc_cq_kb (σ : CSt) (v : (Nat → Int32)) : cs_cq (cs_kb_s σ v) = cs_cq σ := rfl
theorem zc_cq_kc (σ : CSt) (v : (Nat → Int32)) : cs_cq (cs_kc_s σ v) = cs_cq σ := rfl
theorem zc_cq_kp (σ : CSt) (v : (Nat → Int32)) : cs_cq (cs_kp_s σ v) = cs_cq σ := rfl
theorem zc_cq_ke (σ : CSt) (v : (Nat → Nat → Int32)) : cs_cq (cs_ke_s σ v) = cs_cq σ := rfl
theorem zc_cq_kq (σ : CSt) (v : (Nat → Nat → Int32)) : cs_cq (cs_kq_s σ v) = cs_cq σ := rfl
theorem zc_cq_kr (σ : CSt) (v : (Nat → Nat → Option RV)) : cs_cq (cs_kr_s σ v) = cs_cq σ := rfl
theorem zc_cq_hs (σ : CSt) (v : Int32) : cs_cq (cs_hs_s σ v) = cs_cq σ := rfl
theorem zc_cq_ho (σ : CSt) (v : Int32) : cs_cq (cs_ho_s σ v) = cs_cq σ := rfl
theorem zc_cq_run (σ : CSt) (v : Int32) : cs_cq (cs_run_s σ v) = cs_cq σ := rfl
theorem zc_cq_frests (σ : CSt) (v : (Nat → Int32)) : cs_cq (cs_frests_s σ v) = cs_cq σ := rfl
theorem zc_cq_fpen (σ : CSt) (v : Int32) : cs_cq (cs_fpen_s σ v) = cs_cq σ := rfl
theorem zc_cq_fstart (σ : CSt) (v : Int32) : cs_cq (cs_fstart_s σ v) = cs_cq σ := rfl
theorem zc_cq_fss (σ : CSt) (v : Int32) : cs_cq (cs_fss_s σ v) = cs_cq σ := rfl
theorem zc_cq_fgoal (σ : CSt) (v : Int32) : cs_cq (cs_fgoal_s σ v) = cs_cq σ := rfl
theorem zc_cq_fgs (σ : CSt) (v : Int32) : cs_cq (cs_fgs_s σ v) = cs_cq σ := rfl
theorem zc_cq_fcx (σ : CSt) (v : (Nat → Int32)) : cs_cq (cs_fcx_s σ v) = cs_cq σ := rfl
theorem zc_cq_fcy (σ : CSt) (v : (Nat → Int32)) : cs_cq (cs_fcy_s σ v) = cs_cq σ := rfl
theorem zc_cq_fcn (σ : CSt) (v : Int32) : cs_cq (cs_fcn_s σ v) = cs_cq σ := rfl
theorem zc_cq_gx (σ : CSt) (v : (Nat → Int32)) : cs_cq (cs_gx_s σ v) = cs_cq σ := rfl
theorem zc_cq_gy (σ : CSt) (v : (Nat → Int32)) : cs_cq (cs_gy_s σ v) = cs_cq σ := rfl
theorem zc_cq_gc (σ : CSt) (v : Int32) : cs_cq (cs_gc_s σ v) = cs_cq σ := rfl
theorem zc_cq_gr (σ : CSt) (v : Int32) : cs_cq (cs_gr_s σ v) = cs_cq σ := rfl
theorem zc_cq_goR (σ : CSt) (v : (Nat → Int32)) : cs_cq (cs_goR_s σ v) = cs_cq σ := rfl
theorem zc_cq_goD (σ : CSt) (v : (Nat → Int32)) : cs_cq (cs_goD_s σ v) = cs_cq σ := rfl
theorem zc_cq_wre (σ : CSt) (v : Int32) : cs_cq (cs_wre_s σ v) = cs_cq σ := rfl
theorem zc_cq_whd (σ : CSt) (v : (Nat → Int32)) : cs_cq (cs_whd_s σ v) = cs_cq σ := rfl
theorem zc_cq_wnx (σ : CSt) (v : (Nat → Int32)) : cs_cq (cs_wnx_s σ v) = cs_cq σ := rfl
theorem zc_cq_wpv (σ : CSt) (v : (Nat → Int32)) : cs_cq (cs_wpv_s σ v) = cs_cq σ := rfl
theorem zc_cq_bs (σ : CSt) (v : Int32) : cs_cq (cs_bs_s σ v) = cs_cq σ := rfl
theorem zc_cq_bo (σ : CSt) (v : Int32) : cs_cq (cs_bo_s σ v) = cs_cq σ := rfl
theorem zc_cq_bst (σ : CSt) (v : (Nat → Int32)) : cs_cq (cs_bst_s σ v) = cs_cq σ := rfl
theorem zc_cq_ben (σ : CSt) (v : (Nat → Int32)) : cs_cq (cs_ben_s σ v) = cs_cq σ := rfl
theorem zc_cq_bpu (σ : CSt) (v : (Nat → Int32)) : cs_cq (cs_bpu_s σ v) = cs_cq σ := rfl
theorem zc_cq_bla (σ : CSt) (v : (Nat → Int32)) : cs_cq (cs_bla_s σ v) = cs_cq σ := rfl
theorem zc_cq_bre (σ : CSt) (v : (Nat → Int32)) : cs_cq (cs_bre_s σ v) = cs_cq σ := rfl
theorem zc_cq_tl (σ : CSt) (v : Int32) : cs_cq (cs_tl_s σ v) = cs_cq σ := rfl
theorem zc_cq_tb (σ : CSt) (v : (Nat → Int32)) : cs_cq (cs_tb_s σ v) = cs_cq σ := rfl
theorem zc_cq_tw (σ : CSt) (v : Int32) : cs_cq (cs_tw_s σ v) = cs_cq σ := rfl
theorem zc_cq_tn (σ : CSt) (v : (Nat → Int32)) : cs_cq (cs_tn_s σ v) = cs_cq σ := rfl
theorem zc_cq_tc (σ : CSt) (v : Int32) : cs_cq (cs_tc_s σ v) = cs_cq σ := rfl
theorem zc_cq_te (σ : CSt) (v : Int32) : cs_cq (cs_te_s σ v) = cs_cq σ := rfl
theorem zc_cq_tf (σ : CSt) (v : Int32) : cs_cq (cs_tf_s σ v) = cs_cq σ := rfl
theorem zc_cq_sct (σ : CSt) (v : Int32) : cs_cq (cs_sct_s σ v) = cs_cq σ := rfl
theorem zc_cq_sml (σ : CSt) (v : Int32) : cs_cq (cs_sml_s σ v) = cs_cq σ := rfl
theorem zc_cq_sv (σ : CSt) (v : (Nat → Int32)) : cs_cq (cs_sv_s σ v) = cs_cq σ := rfl
theorem zc_cq_scap (σ : CSt) (v : Nat) : cs_cq (cs_scap_s σ v) = cs_cq σ := rfl
theorem zc_cq_nc (σ : CSt) (v : Nat) : cs_cq (cs_nc_s σ v) = cs_cq σ := rfl
theorem zc_cq_ns (σ : CSt) (v : Nat) : cs_cq (cs_ns_s σ v) = cs_cq σ := rfl
theorem zc_cr_cb (σ : CSt) (v : Int32) : cs_cr (cs_cb_s σ v) = cs_cr σ := rfl
theorem zc_cr_cc (σ : CSt) (v : Int32) : cs_cr (cs_cc_s σ v) = cs_cr σ := rfl
theorem zc_cr_cp (σ : CSt) (v : Int32) : cs_cr (cs_cp_s σ v) = cs_cr σ := rfl
theorem zc_cr_ce (σ : CSt) (v : (Nat → Int32)) : cs_cr (cs_ce_s σ v) = cs_cr σ := rfl
theorem zc_cr_cq (σ : CSt) (v : (Nat → Int32)) : cs_cr (cs_cq_s σ v) = cs_cr σ := rfl
theorem zc_cr_cr (σ : CSt) (v : (Nat → Option RV)) : cs_cr (cs_cr_s σ v) = v := rfl
theorem zc_cr_kb (σ : CSt) (v : (Nat → Int32)) : cs_cr (cs_kb_s σ v) = cs_cr σ := rfl
theorem zc_cr_kc (σ : CSt) (v : (Nat → Int32)) : cs_cr (cs_kc_s σ v) = cs_cr σ := rfl
theorem zc_cr_kp (σ : CSt) (v : (Nat → Int32)) : cs_cr (cs_kp_s σ v) = cs_cr σ := rfl
theorem zc_cr_ke (σ : CSt) (v : (Nat → Nat → Int32)) : cs_cr (cs_ke_s σ v) = cs_cr σ := rfl
theorem zc_cr_kq (σ : CSt) (v : (Nat → Nat → Int32)) : cs_cr (cs_kq_s σ v) = cs_cr σ := rfl
theorem zc_cr_kr (σ : CSt) (v : (Nat → Nat → Option RV)) : cs_cr (cs_kr_s σ v) = cs_cr σ := rfl
theorem zc_cr_hs (σ : CSt) (v : Int32) : cs_cr (cs_hs_s σ v) = cs_cr σ := rfl
theorem zc_cr_ho (σ : CSt) (v : Int32) : cs_cr (cs_ho_s σ v) = cs_cr σ := rfl
theorem zc_cr_run (σ : CSt) (v : Int32) : cs_cr (cs_run_s σ v) = cs_cr σ := rfl
theorem zc_cr_frests (σ : CSt) (v : (Nat → Int32)) : cs_cr (cs_frests_s σ v) = cs_cr σ := rfl
theorem zc_cr_fpen (σ : CSt) (v : Int32) : cs_cr (cs_fpen_s σ v) = cs_cr σ := rfl
theorem zc_cr_fstart (σ : CSt) (v : Int32) : cs_cr (cs_fstart_s σ v) = cs_cr σ := rfl
theorem zc_cr_fss (σ : CSt) (v : Int32) : cs_cr (cs_fss_s σ v) = cs_cr σ := rfl
theorem zc_cr_fgoal (σ : CSt) (v : Int32) : cs_cr (cs_fgoal_s σ v) = cs_cr σ := rfl
theorem zc_cr_fgs (σ : CSt) (v : Int32) : cs_cr (cs_fgs_s σ v) = cs_cr σ := rfl
theorem zc_cr_fcx (σ : CSt) (v : (Nat → Int32)) : cs_cr (cs_fcx_s σ v) = cs_cr σ := rfl
theorem zc_cr_fcy (σ : CSt) (v : (Nat → Int32)) : cs_cr (cs_fcy_s σ v) = cs_cr σ := rfl
theorem zc_cr_fcn (σ : CSt) (v : Int32) : cs_cr (cs_fcn_s σ v) = cs_cr σ := rfl
theorem zc_cr_gx (σ : CSt) (v : (Nat → Int32)) : cs_cr (cs_gx_s σ v) = cs_cr σ := rfl
theorem zc_cr_gy (σ : CSt) (v : (Nat → Int32)) : cs_cr (cs_gy_s σ v) = cs_cr σ := rfl
theorem zc_cr_gc (σ : CSt) (v : Int32) : cs_cr (cs_gc_s σ v) = cs_cr σ := rfl
theorem zc_cr_gr (σ : CSt) (v : Int32) : cs_cr (cs_gr_s σ v) = cs_cr σ := rfl
theorem zc_cr_goR (σ : CSt) (v : (Nat → Int32)) : cs_cr (cs_goR_s σ v) = cs_cr σ := rfl
theorem zc_cr_goD (σ : CSt) (v : (Nat → Int32)) : cs_cr (cs_goD_s σ v) = cs_cr σ := rfl
theorem zc_cr_wre (σ : CSt) (v : Int32) : cs_cr (cs_wre_s σ v) = cs_cr σ := rfl
theorem zc_cr_whd (σ : CSt) (v : (Nat → Int32)) : cs_cr (cs_whd_s σ v) = cs_cr σ := rfl
theorem zc_cr_wnx (σ : CSt) (v : (Nat → Int32)) : cs_cr (cs_wnx_s σ v) = cs_cr σ := rfl
theorem zc_cr_wpv (σ : CSt) (v : (Nat → Int32)) : cs_cr (cs_wpv_s σ v) = cs_cr σ := rfl
theorem zc_cr_bs (σ : CSt) (v : Int32) : cs_cr (cs_bs_s σ v) = cs_cr σ := rfl
theorem zc_cr_bo (σ : CSt) (v : Int32) : cs_cr (cs_bo_s σ v) = cs_cr σ := rfl
theorem zc_cr_bst (σ : CSt) (v : (Nat → Int32)) : cs_cr (cs_bst_s σ v) = cs_cr σ := rfl
theorem zc_cr_ben (σ : CSt) (v : (Nat → Int32)) : cs_cr (cs_ben_s σ v) = cs_cr σ := rfl
theorem zc_cr_bpu (σ : CSt) (v : (Nat → Int32)) : cs_cr (cs_bpu_s σ v) = cs_cr σ := rfl
theorem zc_cr_bla (σ : CSt) (v : (Nat → Int32)) : cs_cr (cs_bla_s σ v) = cs_cr σ := rfl
theorem zc_cr_bre (σ : CSt) (v : (Nat → Int32)) : cs_cr (cs_bre_s σ v) = cs_cr σ := rfl
theorem zc_cr_tl (σ : CSt) (v : Int32) : cs_cr (cs_tl_s σ v) = cs_cr σ := rfl
theorem zc_cr_tb (σ : CSt) (v : (Nat → Int32)) : cs_cr (cs_tb_s σ v) = cs_cr σ := rfl
theorem zc_cr_tw (σ : CSt) (v : Int32) : cs_cr (cs_tw_s σ v) = cs_cr σ := rfl
theorem zc_cr_tn (σ : CSt) (v : (Nat → Int32)) : cs_cr (cs_tn_s σ v) = cs_cr σ := rfl
theorem zc_cr_tc (σ : CSt) (v : Int32) : cs_cr (cs_tc_s σ v) = cs_cr σ := rfl
theorem zc_cr_te (σ : CSt) (v : Int32) : cs_cr (cs_te_s σ v) = cs_cr σ := rfl
theorem zc_cr_tf (σ : CSt) (v : Int32) : cs_cr (cs_tf_s σ v) = cs_cr σ := rfl
theorem zc_cr_sct (σ : CSt) (v : Int32) : cs_cr (cs_sct_s σ v) = cs_cr σ := rfl
theorem zc_cr_sml (σ : CSt) (v : Int32) : cs_cr (cs_sml_s σ v) = cs_cr σ := rfl
theorem zc_cr_sv (σ : CSt) (v : (Nat → Int32)) : cs_cr (cs_sv_s σ v) = cs_cr σ := rfl
theorem zc_cr_scap (σ : CSt) (v : Nat) : cs_cr (cs_scap_s σ v) = cs_cr σ := rfl
theorem zc_cr_nc (σ : CSt) (v : Nat) : cs_cr (cs_nc_s σ v) = cs_cr σ := rfl
theorem zc_cr_ns (σ : CSt) (v : Nat) : cs_cr (cs_ns_s σ v) = cs_cr σ := rfl
theorem zc_kb_cb (σ : CSt) (v : Int32) : cs_kb (cs_cb_s σ v) = cs_kb σ := rfl
theorem zc_kb_cc (σ : CSt) (v : Int32) : cs_kb (cs_cc_s σ v) = cs_kb σ := rfl
theorem zc_kb_cp (σ : CSt) (v : Int32) : cs_kb (cs_cp_s σ v) = cs_kb σ := rfl
theorem zc_kb_ce (σ : CSt) (v : (Nat → Int32)) : cs_kb (cs_ce_s σ v) = cs_kb σ := rfl
theorem zc_kb_cq (σ : CSt) (v : (Nat → Int32)) : cs_kb (cs_cq_s σ v) = cs_kb σ := rfl
theorem zc_kb_cr (σ : CSt) (v : (Nat → Option RV)) : cs_kb (cs_cr_s σ v) = cs_kb σ := rfl
theorem zc_kb_kb (σ : CSt) (v : (Nat → Int32)) : cs_kb (cs_kb_s σ v) = v := rfl
theorem zc_kb_kc (σ : CSt) (v : (Nat → Int32)) : cs_kb (cs_kc_s σ v) = cs_kb σ := rfl
theorem zc_kb_kp (σ : CSt) (v : (Nat → Int32)) : cs_kb (cs_kp_s σ v) = cs_kb σ := rfl
theorem zc_kb_ke (σ : CSt) (v : (Nat → Nat → Int32)) : cs_kb (cs_ke_s σ v) = cs_kb σ := rfl
theorem zc_kb_kq (σ : CSt) (v : (Nat → Nat → Int32)) : cs_kb (cs_kq_s σ v) = cs_kb σ := rfl
theorem zc_kb_kr (σ : CSt) (v : (Nat → Nat → Option RV)) : cs_kb (cs_kr_s σ v) = cs_kb σ := rfl
theorem zc_kb_hs (σ : CSt) (v : Int32) : cs_kb (cs_hs_s σ v) = cs_kb σ := rfl
theorem zc_kb_ho (σ : CSt) (v : Int32) : cs_kb (cs_ho_s σ v) = cs_kb σ := rfl
theorem zc_kb_run (σ : CSt) (v : Int32) : cs_kb (cs_run_s σ v) = cs_kb σ := rfl
theorem zc_kb_frests (σ : CSt) (v : (Nat → Int32)) : cs_kb (cs_frests_s σ v) = cs_kb σ := rfl
theorem zc_kb_fpen (σ : CSt) (v : Int32) : cs_kb (cs_fpen_s σ v) = cs_kb σ := rfl
theorem zc_kb_fstart (σ : CSt) (v : Int32) : cs_kb (cs_fstart_s σ v) = cs_kb σ := rfl
theorem zc_kb_fss (σ : CSt) (v : Int32) : cs_kb (cs_fss_s σ v) = cs_kb σ := rfl
theorem zc_kb_fgoal (σ : CSt) (v : Int32) : cs_kb (cs_fgoal_s σ v) = cs_kb σ := rfl
theorem zc_kb_fgs (σ : CSt) (v : Int32) : cs_kb (cs_fgs_s σ v) = cs_kb σ := rfl
theorem zc_kb_fcx (σ : CSt) (v : (Nat → Int32)) : cs_kb (cs_fcx_s σ v) = cs_kb σ := rfl
theorem zc_kb_fcy (σ : CSt) (v : (Nat → Int32)) : cs_kb (cs_fcy_s σ v) = cs_kb σ := rfl
theorem zc_kb_fcn (σ : CSt) (v : Int32) : cs_kb (cs_fcn_s σ v) = cs_kb σ := rfl
theorem zc_kb_gx (σ : CSt) (v : (Nat → Int32)) : cs_kb (cs_gx_s σ v) = cs_kb σ := rfl
theorem zc_kb_gy (σ : CSt) (v : (Nat → Int32)) : cs_kb (cs_gy_s σ v) = cs_kb σ := rfl
theorem zc_kb_gc (σ : CSt) (v : Int32) : cs_kb (cs_gc_s σ v) = cs_kb σ := rfl
theorem zc_kb_gr (σ : CSt) (v : Int32) : cs_kb (cs_gr_s σ v) = cs_kb σ := rfl
theorem zc_kb_goR (σ : CSt) (v : (Nat → Int32)) : cs_kb (cs_goR_s σ v) = cs_kb σ := rfl
theorem zc_kb_goD (σ : CSt) (v : (Nat → Int32)) : cs_kb (cs_goD_s σ v) = cs_kb σ := rfl
theorem zc_kb_wre (σ : CSt) (v : Int32) : cs_kb (cs_wre_s σ v) = cs_kb σ := rfl
theorem zc_kb_whd (σ : CSt) (v : (Nat → Int32)) : cs_kb (cs_whd_s σ v) = cs_kb σ := rfl
theorem zc_kb_wnx (σ : CSt) (v : (Nat → Int32)) : cs_kb (cs_wnx_s σ v) = cs_kb σ := rfl
theorem zc_kb_wpv (σ : CSt) (v : (Nat → Int32)) : cs_kb (cs_wpv_s σ v) = cs_kb σ := rfl
theorem zc_kb_bs (σ : CSt) (v : Int32) : cs_kb (cs_bs_s σ v) = cs_kb σ := rfl
theorem zc_kb_bo (σ : CSt) (v : Int32) : cs_kb (cs_bo_s σ v) = cs_kb σ := rfl
theorem zc_kb_bst (σ : CSt) (v : (Nat → Int32)) : cs_kb (cs_bst_s σ v) = cs_kb σ := rfl
theorem zc_kb_ben (σ : CSt) (v : (Nat → Int32)) : cs_kb (cs_ben_s σ v) = cs_kb σ := rfl
theorem zc_kb_bpu (σ : CSt) (v : (Nat → Int32)) : cs_kb (cs_bpu_s σ v) = cs_kb σ := rfl
theorem zc_kb_bla (σ : CSt) (v : (Nat → Int32)) : cs_kb (cs_bla_s σ v) = cs_kb σ := rfl
theorem zc_kb_bre (σ : CSt) (v : (Nat → Int32)) : cs_kb (cs_bre_s σ v) = cs_kb σ := rfl
theorem zc_kb_tl (σ : CSt) (v : Int32) : cs_kb (cs_tl_s σ v) = cs_kb σ := rfl
theorem zc_kb_tb (σ : CSt) (v : (Nat → Int32)) : cs_kb (cs_tb_s σ v) = cs_kb σ := rfl
theorem zc_kb_tw (σ : CSt) (v : Int32) : cs_kb (cs_tw_s σ v) = cs_kb σ := rfl
theorem zc_kb_tn (σ : CSt) (v : (Nat → Int32)) : cs_kb (cs_tn_s σ v) = cs_kb σ := rfl
theorem zc_kb_tc (σ : CSt) (v : Int32) : cs_kb (cs_tc_s σ v) = cs_kb σ := rfl
theorem zc_kb_te (σ : CSt) (v : Int32) : cs_kb (cs_te_s σ v) = cs_kb σ := rfl
theorem zc_kb_tf (σ : CSt) (v : Int32) : cs_kb (cs_tf_s σ v) = cs_kb σ := rfl
theorem zc_kb_sct (σ : CSt) (v : Int32) : cs_kb (cs_sct_s σ v) = cs_kb σ := rfl
theorem zc_kb_sml (σ : CSt) (v : Int32) : cs_kb (cs_sml_s σ v) = cs_kb σ := rfl
theorem zc_kb_sv (σ : CSt) (v : (Nat → Int32)) : cs_kb (cs_sv_s σ v) = cs_kb σ := rfl
theorem zc_kb_scap (σ : CSt) (v : Nat) : cs_kb (cs_scap_s σ v) = cs_kb σ := rfl
theorem zc_kb_nc (σ : CSt) (v : Nat) : cs_kb (cs_nc_s σ v) = cs_kb σ := rfl
theorem zc_kb_ns (σ : CSt) (v : Nat) : cs_kb (cs_ns_s σ v) = cs_kb σ := rfl
theorem zc_kc_cb (σ : CSt) (v : Int32) : cs_kc (cs_cb_s σ v) = cs_kc σ := rfl
theorem zc_kc_cc (σ : CSt) (v : Int32) : cs_kc (cs_cc_s σ v) = cs_kc σ := rfl
theorem zc_kc_cp (σ : CSt) (v : Int32) : cs_kc (cs_cp_s σ v) = cs_kc σ := rfl
theorem zc_kc_ce (σ : CSt) (v : (Nat → Int32)) : cs_kc (cs_ce_s σ v) = cs_kc σ := rfl
theorem zc_kc_cq (σ : CSt) (v : (Nat → Int32)) : cs_kc (cs_cq_s σ v) = cs_kc σ := rfl
theorem zc_kc_cr (σ : CSt) (v : (Nat → Option RV)) : cs_kc (cs_cr_s σ v) = cs_kc σ := rfl
theorem zc_kc_kb (σ : CSt) (v : (Nat → Int32)) : cs_kc (cs_kb_s σ v) = cs_kc σ := rfl
theorem zc_kc_kc (σ : CSt) (v : (Nat → Int32)) : cs_kc (cs_kc_s σ v) = v := rfl
theorem zc_kc_kp (σ : CSt) (v : (Nat → Int32)) : cs_kc (cs_kp_s σ v) = cs_kc σ := rfl
theorem zc_kc_ke (σ : CSt) (v : (Nat → Nat → Int32)) : cs_kc (cs_ke_s σ v) = cs_kc σ := rfl
theorem zc_kc_kq (σ : CSt) (v : (Nat → Nat → Int32)) : cs_kc (cs_kq_s σ v) = cs_kc σ := rfl
theorem zc_kc_kr (σ : CSt) (v : (Nat → Nat → Option RV)) : cs_kc (cs_kr_s σ v) = cs_kc σ := rfl
theorem zc_kc_hs (σ : CSt) (v : Int32) : cs_kc (cs_hs_s σ v) = cs_kc σ := rfl
theorem zc_kc_ho (σ : CSt) (v : Int32) : cs_kc (cs_ho_s σ v) = cs_kc σ := rfl
theorem zc_kc_run (σ : CSt) (v : Int32) : cs_kc (cs_run_s σ v) = cs_kc σ := rfl
theorem zc_kc_frests (σ : CSt) (v : (Nat → Int32)) : cs_kc (cs_frests_s σ v) = cs_kc σ := rfl
theorem zc_kc_fpen (σ : CSt) (v : Int32) : cs_kc (cs_fpen_s σ v) = cs_kc σ := rfl
theorem zc_kc_fstart (σ : CSt) (v : Int32) : cs_kc (cs_fstart_s σ v) = cs_kc σ := rfl
theorem zc_kc_fss (σ : CSt) (v : Int32) : cs_kc (cs_fss_s σ v) = cs_kc σ := rfl
theorem zc_kc_fgoal (σ : CSt) (v : Int32) : cs_kc (cs_fgoal_s σ v) = cs_kc σ := rfl
theorem zc_kc_fgs (σ : CSt) (v : Int32) : cs_kc (cs_fgs_s σ v) = cs_kc σ := rfl
theorem zc_kc_fcx (σ : CSt) (v : (Nat → Int32)) : cs_kc (cs_fcx_s σ v) = cs_kc σ := rfl
theorem zc_kc_fcy (σ : CSt) (v : (Nat → Int32)) : cs_kc (cs_fcy_s σ v) = cs_kc σ := rfl
theorem zc_kc_fcn (σ : CSt) (v : Int32) : cs_kc (cs_fcn_s σ v) = cs_kc σ := rfl
theorem zc_kc_gx (σ : CSt) (v : (Nat → Int32)) : cs_kc (cs_gx_s σ v) = cs_kc σ := rfl
theorem zc_kc_gy (σ : CSt) (v : (Nat → Int32)) : cs_kc (cs_gy_s σ v) = cs_kc σ := rfl
theorem zc_kc_gc (σ : CSt) (v : Int32) : cs_kc (cs_gc_s σ v) = cs_kc σ := rfl
theorem zc_kc_gr (σ : CSt) (v : Int32) : cs_kc (cs_gr_s σ v) = cs_kc σ := rfl
theorem zc_kc_goR (σ : CSt) (v : (Nat → Int32)) : cs_kc (cs_goR_s σ v) = cs_kc σ := rfl
theorem zc_kc_goD (σ : CSt) (v : (Nat → Int32)) : cs_kc (cs_goD_s σ v) = cs_kc σ := rfl
theorem zc_kc_wre (σ : CSt) (v : Int32) : cs_kc (cs_wre_s σ v) = cs_kc σ := rfl
theorem zc_kc_whd (σ : CSt) (v : (Nat → Int32)) : cs_kc (cs_whd_s σ v) = cs_kc σ := rfl
theorem zc_kc_wnx (σ : CSt) (v : (Nat → Int32)) : cs_kc (cs_wnx_s σ v) = cs_kc σ := rfl
theorem zc_kc_wpv (σ : CSt) (v : (Nat → Int32)) : cs_kc (cs_wpv_s σ v) = cs_kc σ := rfl
theorem zc_kc_bs (σ : CSt) (v : Int32) : cs_kc (cs_bs_s σ v) = cs_kc σ := rfl
theorem zc_kc_bo (σ : CSt) (v : Int32) : cs_kc (cs_bo_s σ v) = cs_kc σ := rfl
theorem zc_kc_bst (σ : CSt) (v : (Nat → Int32)) : cs_kc (cs_bst_s σ v) = cs_kc σ := rfl
theorem zc_kc_ben (σ : CSt) (v : (Nat → Int32)) : cs_kc (cs_ben_s σ v) = cs_kc σ := rfl
theorem zc_kc_bpu (σ : CSt) (v : (Nat → Int32)) : cs_kc (cs_bpu_s σ v) = cs_kc σ := rfl
theorem zc_kc_bla (σ : CSt) (v : (Nat → Int32)) : cs_kc (cs_bla_s σ v) = cs_kc σ := rfl
theorem zc_kc_bre (σ : CSt) (v : (Nat → Int32)) : cs_kc (cs_bre_s σ v) = cs_kc σ := rfl
theorem zc_kc_tl (σ : CSt) (v : Int32) : cs_kc (cs_tl_s σ v) = cs_kc σ := rfl
theorem zc_kc_tb (σ : CSt) (v : (Nat → Int32)) : cs_kc (cs_tb_s σ v) = cs_kc σ := rfl
theorem zc_kc_tw (σ : CSt) (v : Int32) : cs_kc (cs_tw_s σ v) = cs_kc σ := rfl
theorem zc_kc_tn (σ : CSt) (v : (Nat → Int32)) : cs_kc (cs_tn_s σ v) = cs_kc σ := rfl
theorem zc_kc_tc (σ : CSt) (v : Int32) : cs_kc (cs_tc_s σ v) = cs_kc σ := rfl
theorem zc_kc_te (σ : CSt) (v : Int32) : cs_kc (cs_te_s σ v) = cs_kc σ := rfl
theorem zc_kc_tf (σ : CSt) (v : Int32) : cs_kc (cs_tf_s σ v) = cs_kc σ := rfl
theorem zc_kc_sct (σ : CSt) (v : Int32) : cs_kc (cs_sct_s σ v) = cs_kc σ := rfl
theorem zc_kc_sml (σ : CSt) (v : Int32) : cs_kc (cs_sml_s σ v) = cs_kc σ := rfl
theorem zc_kc_sv (σ : CSt) (v : (Nat → Int32)) : cs_kc (cs_sv_s σ v) = cs_kc σ := rfl
theorem zc_kc_scap (σ : CSt) (v : Nat) : cs_kc (cs_scap_s σ v) = cs_kc σ := rfl
theorem zc_kc_nc (σ : CSt) (v : Nat) : cs_kc (cs_nc_s σ v) = cs_kc σ := rfl
theorem zc_kc_ns (σ : CSt) (v : Nat) : cs_kc (cs_ns_s σ v) = cs_kc σ := rfl
theorem zc_kp_cb (σ : CSt) (v : Int32) : cs_kp (cs_cb_s σ v) = cs_kp σ := rfl
theorem zc_kp_cc (σ : CSt) (v : Int32) : cs_kp (cs_cc_s σ v) = cs_kp σ := rfl
theorem zc_kp_cp (σ : CSt) (v : Int32) : cs_kp (cs_cp_s σ v) = cs_kp σ := rfl
theorem zc_kp_ce (σ : CSt) (v : (Nat → Int32)) : cs_kp (cs_ce_s σ v) = cs_kp σ := rfl
theorem zc_kp_cq (σ : CSt) (v : (Nat → Int32)) : cs_kp (cs_cq_s σ v) = cs_kp σ := rfl
theorem zc_kp_cr (σ : CSt) (v : (Nat → Option RV)) : cs_kp (cs_cr_s σ v) = cs_kp σ := rfl
theorem zc_kp_kb (σ : CSt) (v : (Nat → Int32)) : cs_kp (cs_kb_s σ v) = cs_kp σ := rfl
theorem zc_kp_kc (σ : CSt) (v : (Nat → Int32)) : cs_kp (cs_kc_s σ v) = cs_kp σ := rfl
theorem zc_kp_kp (σ : CSt) (v : (Nat → Int32)) : cs_kp (cs_kp_s σ v) = v := rfl
theorem zc_kp_ke (σ : CSt) (v : (Nat → Nat → Int32)) : cs_kp (cs_ke_s σ v) = cs_kp σ := rfl
theorem zc_kp_kq (σ : CSt) (v : (Nat → Nat → Int32)) : cs_kp (cs_kq_s σ v) = cs_kp σ := rfl
theorem zc_kp_kr (σ : CSt) (v : (Nat → Nat → Option RV)) : cs_kp (cs_kr_s σ v) = cs_kp σ := rfl
theorem zc_kp_hs (σ : CSt) (v : Int32) : cs_kp (cs_hs_s σ v) = cs_kp σ := rfl
theorem zc_kp_ho (σ : CSt) (v : Int32) : cs_kp (cs_ho_s σ v) = cs_kp σ := rfl
theorem zc_kp_run (σ : CSt) (v : Int32) : cs_kp (cs_run_s σ v) = cs_kp σ := rfl
theorem zc_kp_frests (σ : CSt) (v : (Nat → Int32)) : cs_kp (cs_frests_s σ v) = cs_kp σ := rfl
theorem zc_kp_fpen (σ : CSt) (v : Int32) : cs_kp (cs_fpen_s σ v) = cs_kp σ := rfl
theorem zc_kp_fstart (σ : CSt) (v : Int32) : cs_kp (cs_fstart_s σ v) = cs_kp σ := rfl
theorem zc_kp_fss (σ : CSt) (v : Int32) : cs_kp (cs_fss_s σ v) = cs_kp σ := rfl
theorem zc_kp_fgoal (σ : CSt) (v : Int32) : cs_kp (cs_fgoal_s σ v) = cs_kp σ := rfl
theorem zc_kp_fgs (σ : CSt) (v : Int32) : cs_kp (cs_fgs_s σ v) = cs_kp σ := rfl
theorem zc_kp_fcx (σ : CSt) (v : (Nat → Int32)) : cs_kp (cs_fcx_s σ v) = cs_kp σ := rfl
theorem zc_kp_fcy (σ : CSt) (v : (Nat → Int32)) : cs_kp (cs_fcy_s σ v) = cs_kp σ := rfl
theorem zc_kp_fcn (σ : CSt) (v : Int32) : cs_kp (cs_fcn_s σ v) = cs_kp σ := rfl
theorem zc_kp_gx (σ : CSt) (v : (Nat → Int32)) : cs_kp (cs_gx_s σ v) = cs_kp σ := rfl
theorem zc_kp_gy (σ : CSt) (v : (Nat → Int32)) : cs_kp (cs_gy_s σ v) = cs_kp σ := rfl
theorem zc_kp_gc (σ : CSt) (v : Int32) : cs_kp (cs_gc_s σ v) = cs_kp σ := rfl
theorem zc_kp_gr (σ : CSt) (v : Int32) : cs_kp (cs_gr_s σ v) = cs_kp σ := rfl
theorem zc_kp_goR (σ : CSt) (v : (Nat → Int32)) : cs_kp (cs_goR_s σ v) = cs_kp σ := rfl
theorem zc_kp_goD (σ : CSt) (v : (Nat → Int32)) : cs_kp (cs_goD_s σ v) = cs_kp σ := rfl
theorem zc_kp_wre (σ : CSt) (v : Int32) : cs_kp (cs_wre_s σ v) = cs_kp σ := rfl
theorem zc_kp_whd (σ : CSt) (v : (Nat → Int32)) : cs_kp (cs_whd_s σ v) = cs_kp σ := rfl
theorem zc_kp_wnx (σ : CSt) (v : (Nat → Int32)) : cs_kp (cs_wnx_s σ v) = cs_kp σ := rfl
theorem zc_kp_wpv (σ : CSt) (v : (Nat → Int32)) : cs_kp (cs_wpv_s σ v) = cs_kp σ := rfl
theorem zc_kp_bs (σ : CSt) (v : Int32) : cs_kp (cs_bs_s σ v) = cs_kp σ := rfl
theorem zc_kp_bo (σ : CSt) (v : Int32) : cs_kp (cs_bo_s σ v) = cs_kp σ := rfl
theorem zc_kp_bst (σ : CSt) (v : (Nat → Int32)) : cs_kp (cs_bst_s σ v) = cs_kp σ := rfl
theorem zc_kp_ben (σ : CSt) (v : (Nat → Int32)) : cs_kp (cs_ben_s σ v) = cs_kp σ := rfl
theorem zc_kp_bpu (σ : CSt) (v : (Nat → Int32)) : cs_kp (cs_bpu_s σ v) = cs_kp σ := rfl
theorem zc_kp_bla (σ : CSt) (v : (Nat → Int32)) : cs_kp (cs_bla_s σ v) = cs_kp σ := rfl
theorem zc_kp_bre (σ : CSt) (v : (Nat → Int32)) : cs_kp (cs_bre_s σ v) = cs_kp σ := rfl
theorem zc_kp_tl (σ : CSt) (v : Int32) : cs_kp (cs_tl_s σ v) = cs_kp σ := rfl
theorem zc_kp_tb (σ : CSt) (v : (Nat → Int32)) : cs_kp (cs_tb_s σ v) = cs_kp σ := rfl
theorem zc_kp_tw (σ : CSt) (v : Int32) : cs_kp (cs_tw_s σ v) = cs_kp σ := rfl
theorem zc_kp_tn (σ : CSt) (v : (Nat → Int32)) : cs_kp (cs_tn_s σ v) = cs_kp σ := rfl
theorem zc_kp_tc (σ : CSt) (v : Int32) : cs_kp (cs_tc_s σ v) = cs_kp σ := rfl
theorem zc_kp_te (σ : CSt) (v : Int32) : cs_kp (cs_te_s σ v) = cs_kp σ := rfl
theorem zc_kp_tf (σ : CSt) (v : Int32) : cs_kp (cs_tf_s σ v) = cs_kp σ := rfl
theorem zc_kp_sct (σ : CSt) (v : Int32) : cs_kp (cs_sct_s σ v) = cs_kp σ := rfl
theorem zc_kp_sml (σ : CSt) (v : Int32) : cs_kp (cs_sml_s σ v) = cs_kp σ := rfl
theorem zc_kp_sv (σ : CSt) (v : (Nat → Int32)) : cs_kp (cs_sv_s σ v) = cs_kp σ := rfl
theorem zc_kp_scap (σ : CSt) (v : Nat) : cs_kp (cs_scap_s σ v) = cs_kp σ := rfl
theorem zc_kp_nc (σ : CSt) (v : Nat) : cs_kp (cs_nc_s σ v) = cs_kp σ := rfl
theorem zc_kp_ns (σ : CSt) (v : Nat) : cs_kp (cs_ns_s σ v) = cs_kp σ := rfl
theorem zc_ke_cb (σ : CSt) (v : Int32) : cs_ke (cs_cb_s σ v) = cs_ke σ := rfl
theorem zc_ke_cc (σ : CSt) (v : Int32) : cs_ke (cs_cc_s σ v) = cs_ke σ := rfl
theorem zc_ke_cp (σ : CSt) (v : Int32) : cs_ke (cs_cp_s σ v) = cs_ke σ := rfl
theorem zc_ke_ce (σ : CSt) (v : (Nat → Int32)) : cs_ke (cs_ce_s σ v) = cs_ke σ := rfl
theorem zc_ke_cq (σ : CSt) (v : (Nat → Int32)) : cs_ke (cs_cq_s σ v) = cs_ke σ := rfl
theorem zc_ke_cr (σ : CSt) (v : (Nat → Option RV)) : cs_ke (cs_cr_s σ v) = cs_ke σ := rfl
theorem zc_ke_kb (σ : CSt) (v : (Nat → Int32)) : cs_ke (cs_kb_s σ v) = cs_ke σ := rfl
theorem zc_ke_kc (σ : CSt) (v : (Nat → Int32)) : cs_ke (cs_kc_s σ v) = cs_ke σ := rfl
theorem zc_ke_kp (σ : CSt) (v : (Nat → Int32)) : cs_ke (cs_kp_s σ v) = cs_ke σ := rfl
theorem zc_ke_ke (σ : CSt) (v : (Nat → Nat → Int32)) : cs_ke (cs_ke_s σ v) = v := rfl
theorem zc_ke_kq (σ : CSt) (v : (Nat → Nat → Int32)) : cs_ke (cs_kq_s σ v) = cs_ke σ := rfl
theorem zc_ke_kr (σ : CSt) (v : (Nat → Nat → Option RV)) : cs_ke (cs_kr_s σ v) = cs_ke σ := rfl
theorem zc_ke_hs (σ : CSt) (v : Int32) : cs_ke (cs_hs_s σ v) = cs_ke σ := rfl
theorem zc_ke_ho (σ : CSt) (v : Int32) : cs_ke (cs_ho_s σ v) = cs_ke σ := rfl
theorem zc_ke_run (σ : CSt) (v : Int32) : cs_ke (cs_run_s σ v) = cs_ke σ := rfl
theorem zc_ke_frests (σ : CSt) (v : (Nat → Int32)) : cs_ke (cs_frests_s σ v) = cs_ke σ := rfl
theorem zc_ke_fpen (σ : CSt) (v : Int32) : cs_ke (cs_fpen_s σ v) = cs_ke σ := rfl
theorem zc_ke_fstart (σ : CSt) (v : Int32) : cs_ke (cs_fstart_s σ v) = cs_ke σ := rfl
theorem zc_ke_fss (σ : CSt) (v : Int32) : cs_ke (cs_fss_s σ v) = cs_ke σ := rfl
theorem zc_ke_fgoal (σ : CSt) (v : Int32) : cs_ke (cs_fgoal_s σ v) = cs_ke σ := rfl
theorem zc_ke_fgs (σ : CSt) (v : Int32) : cs_ke (cs_fgs_s σ v) = cs_ke σ := rfl
theorem zc_ke_fcx (σ : CSt) (v : (Nat → Int32)) : cs_ke (cs_fcx_s σ v) = cs_ke σ := rfl
theorem zc_ke_fcy (σ : CSt) (v : (Nat → Int32)) : cs_ke (cs_fcy_s σ v) = cs_ke σ := rfl
theorem zc_ke_fcn (σ : CSt) (v : Int32) : cs_ke (cs_fcn_s σ v) = cs_ke σ := rfl
theorem zc_ke_gx (σ : CSt) (v : (Nat → Int32)) : cs_ke (cs_gx_s σ v) = cs_ke σ := rfl
theorem zc_ke_gy (σ : CSt) (v : (Nat → Int32)) : cs_ke (cs_gy_s σ v) = cs_ke σ := rfl
theorem zc_ke_gc (σ : CSt) (v : Int32) : cs_ke (cs_gc_s σ v) = cs_ke σ := rfl
theorem zc_ke_gr (σ : CSt) (v : Int32) : cs_ke (cs_gr_s σ v) = cs_ke σ := rfl
theorem zc_ke_goR (σ : CSt) (v : (Nat → Int32)) : cs_ke (cs_goR_s σ v) = cs_ke σ := rfl
theorem zc_ke_goD (σ : CSt) (v : (Nat → Int32)) : cs_ke (cs_goD_s σ v) = cs_ke σ := rfl
theorem zc_ke_wre (σ : CSt) (v : Int32) : cs_ke (cs_wre_s σ v) = cs_ke σ := rfl
theorem zc_ke_whd (σ : CSt) (v : (Nat → Int32)) : cs_ke (cs_whd_s σ v) = cs_ke σ := rfl
theorem zc_ke_wnx (σ : CSt) (v : (Nat → Int32)) : cs_ke (cs_wnx_s σ v) = cs_ke σ := rfl
theorem zc_ke_wpv (σ : CSt) (v : (Nat → Int32)) : cs_ke (cs_wpv_s σ v) = cs_ke σ := rfl
theorem zc_ke_bs (σ : CSt) (v : Int32) : cs_ke (cs_bs_s σ v) = cs_ke σ := rfl
theorem zc_ke_bo (σ : CSt) (v : Int32) : cs_ke (cs_bo_s σ v) = cs_ke σ := rfl
theorem zc_ke_bst (σ : CSt) (v : (Nat → Int32)) : cs_ke (cs_bst_s σ v) = cs_ke σ := rfl
theorem zc_ke_ben (σ : CSt) (v : (Nat → Int32)) : cs_ke (cs_ben_s σ v) = cs_ke σ := rfl
theorem zc_ke_bpu (σ : CSt) (v : (Nat → Int32)) : cs_ke (cs_bpu_s σ v) = cs_ke σ := rfl
theorem zc_ke_bla (σ : CSt) (v : (Nat → Int32)) : cs_ke (cs_bla_s σ v) = cs_ke σ := rfl
theorem zc_ke_bre (σ : CSt) (v : (Nat → Int32)) : cs_ke (cs_bre_s σ v) = cs_ke σ := rfl
theorem zc_ke_tl (σ : CSt) (v : Int32) : cs_ke (cs_tl_s σ v) = cs_ke σ := rfl
theorem zc_ke_tb (σ : CSt) (v : (Nat → Int32)) : cs_ke (cs_tb_s σ v) = cs_ke σ := rfl
theorem zc_ke_tw (σ : CSt) (v : Int32) : cs_ke (cs_tw_s σ v) = cs_ke σ := rfl
theorem zc_ke_tn (σ : CSt) (v : (Nat → Int32)) : cs_ke (cs_tn_s σ v) = cs_ke σ := rfl
theorem zc_ke_tc (σ : CSt) (v : Int32) : cs_ke (cs_tc_s σ v) = cs_ke σ := rfl
theorem zc_ke_te (σ : CSt) (v : Int32) : cs_ke (cs_te_s σ v) = cs_ke σ := rfl
theorem zc_ke_tf (σ : CSt) (v : Int32) : cs_ke (cs_tf_s σ v) = cs_ke σ := rfl
theorem zc_ke_sct (σ : CSt) (v : Int32) : cs_ke (cs_sct_s σ v) = cs_ke σ := rfl
theorem zc_ke_sml (σ : CSt) (v : Int32) : cs_ke (cs_sml_s σ v) = cs_ke σ := rfl
theorem zc_ke_sv (σ : CSt) (v : (Nat → Int32)) : cs_ke (cs_sv_s σ v) = cs_ke σ := rfl
theorem zc_ke_scap (σ : CSt) (v : Nat) : cs_ke (cs_scap_s σ v) = cs_ke σ := rfl
theorem zc_ke_nc (σ : CSt) (v : Nat) : cs_ke (cs_nc_s σ v) = cs_ke σ := rfl
theorem zc_ke_ns (σ : CSt) (v : Nat) : cs_ke (cs_ns_s σ v) = cs_ke σ := rfl
theorem zc_kq_cb (σ : CSt) (v : Int32) : cs_kq (cs_cb_s σ v) = cs_kq σ := rfl
theorem zc_kq_cc (σ : CSt) (v : Int32) : cs_kq (cs_cc_s σ v) = cs_kq σ := rfl
theorem zc_kq_cp (σ : CSt) (v : Int32) : cs_kq (cs_cp_s σ v) = cs_kq σ := rfl
theorem zc_kq_ce (σ : CSt) (v : (Nat → Int32)) : cs_kq (cs_ce_s σ v) = cs_kq σ := rfl
theorem zc_kq_cq (σ : CSt) (v : (Nat → Int32)) : cs_kq (cs_cq_s σ v) = cs_kq σ := rfl
theorem zc_kq_cr (σ : CSt) (v : (Nat → Option RV)) : cs_kq (cs_cr_s σ v) = cs_kq σ := rfl
theorem zc_kq_kb (σ : CSt) (v : (Nat → Int32)) : cs_kq (cs_kb_s σ v) = cs_kq σ := rfl
theorem zc_kq_kc (σ : CSt) (v : (Nat → Int32)) : cs_kq (cs_kc_s σ v) = cs_kq σ := rfl
theorem zc_kq_kp (σ : CSt) (v : (Nat → Int32)) : cs_kq (cs_kp_s σ v) = cs_kq σ := rfl
theorem zc_kq_ke (σ : CSt) (v : (Nat → Nat → Int32)) : cs_kq (cs_ke_s σ v) = cs_kq σ := rfl
theorem zc_kq_kq (σ : CSt) (v : (Nat → Nat → Int32)) : cs_kq (cs_kq_s σ v) = v := rfl
theorem zc_kq_kr (σ : CSt) (v : (Nat → Nat → Option RV)) : cs_kq (cs_kr_s σ v) = cs_kq σ := rfl
theorem zc_kq_hs (σ : CSt) (v : Int32) : cs_kq (cs_hs_s σ v) = cs_kq σ := rfl
theorem zc_kq_ho (σ : CSt) (v : Int32) : cs_kq (cs_ho_s σ v) = cs_kq σ := rfl
theorem zc_kq_run (σ : CSt) (v : Int32) : cs_kq (cs_run_s σ v) = cs_kq σ := rfl
theorem zc_kq_frests (σ : CSt) (v : (Nat → Int32)) : cs_kq (cs_frests_s σ v) = cs_kq σ := rfl
theorem zc_kq_fpen (σ : CSt) (v : Int32) : cs_kq (cs_fpen_s σ v) = cs_kq σ := rfl
theorem zc_kq_fstart (σ : CSt) (v : Int32) : cs_kq (cs_fstart_s σ v) = cs_kq σ := rfl
theorem zc_kq_fss (σ : CSt) (v : Int32) : cs_kq (cs_fss_s σ v) = cs_kq σ := rfl
theorem zc_kq_fgoal (σ : CSt) (v : Int32) : cs_kq (cs_fgoal_s σ v) = cs_kq σ := rfl
theorem zc_kq_fgs (σ : CSt) (v : Int32) : cs_kq (cs_fgs_s σ v) = cs_kq σ := rfl
theorem zc_kq_fcx (σ : CSt) (v : (Nat → Int32)) : cs_kq (cs_fcx_s σ v) = cs_kq σ := rfl
theorem zc_kq_fcy (σ : CSt) (v : (Nat → Int32)) : cs_kq (cs_fcy_s σ v) = cs_kq σ := rfl
theorem zc_kq_fcn (σ : CSt) (v : Int32) : cs_kq (cs_fcn_s σ v) = cs_kq σ := rfl
theorem zc_kq_gx (σ : CSt) (v : (Nat → Int32)) : cs_kq (cs_gx_s σ v) = cs_kq σ := rfl
theorem zc_kq_gy (σ : CSt) (v : (Nat → Int32)) : cs_kq (cs_gy_s σ v) = cs_kq σ := rfl
theorem zc_kq_gc (σ : CSt) (v : Int32) : cs_kq (cs_gc_s σ v) = cs_kq σ := rfl
theorem zc_kq_gr (σ : CSt) (v : Int32) : cs_kq (cs_gr_s σ v) = cs_kq σ := rfl
theorem zc_kq_goR (σ : CSt) (v : (Nat → Int32)) : cs_kq (cs_goR_s σ v) = cs_kq σ := rfl
theorem zc_kq_goD (σ : CSt) (v : (Nat → Int32)) : cs_kq (cs_goD_s σ v) = cs_kq σ := rfl
theorem zc_kq_wre (σ : CSt) (v : Int32) : cs_kq (cs_wre_s σ v) = cs_kq σ := rfl
theorem zc_kq_whd (σ : CSt) (v : (Nat → Int32)) : cs_kq (cs_whd_s σ v) = cs_kq σ := rfl
theorem zc_kq_wnx (σ : CSt) (v : (Nat → Int32)) : cs_kq (cs_wnx_s σ v) = cs_kq σ := rfl
theorem zc_kq_wpv (σ : CSt) (v : (Nat → Int32)) : cs_kq (cs_wpv_s σ v) = cs_kq σ := rfl
theorem zc_kq_bs (σ : CSt) (v : Int32) : cs_kq (cs_bs_s σ v) = cs_kq σ := rfl
theorem zc_kq_bo (σ : CSt) (v : Int32) : cs_kq (cs_bo_s σ v) = cs_kq σ := rfl
theorem zc_kq_bst (σ : CSt) (v : (Nat → Int32)) : cs_kq (cs_bst_s σ v) = cs_kq σ := rfl
theorem zc_kq_ben (σ : CSt) (v : (Nat → Int32)) : cs_kq (cs_ben_s σ v) = cs_kq σ := rfl
theorem zc_kq_bpu (σ : CSt) (v : (Nat → Int32)) : cs_kq (cs_bpu_s σ v) = cs_kq σ := rfl
theorem zc_kq_bla (σ : CSt) (v : (Nat → Int32)) : cs_kq (cs_bla_s σ v) = cs_kq σ := rfl
theorem zc_kq_bre (σ : CSt) (v : (Nat → Int32)) : cs_kq (cs_bre_s σ v) = cs_kq σ := rfl
theorem zc_kq_tl (σ : CSt) (v : Int32) : cs_kq (cs_tl_s σ v) = cs_kq σ := rfl
theorem zc_kq_tb (σ : CSt) (v : (Nat → Int32)) : cs_kq (cs_tb_s σ v) = cs_kq σ := rfl
theorem zc_kq_tw (σ : CSt) (v : Int32) : cs_kq (cs_tw_s σ v) = cs_kq σ := rfl
theorem zc_kq_tn (σ : CSt) (v : (Nat → Int32)) : cs_kq (cs_tn_s σ v) = cs_kq σ := rfl
theorem zc_kq_tc (σ : CSt) (v : Int32) : cs_kq (cs_tc_s σ v) = cs_kq σ := rfl
theorem zc_kq_te (σ : CSt) (v : Int32) : cs_kq (cs_te_s σ v) = cs_kq σ := rfl
theorem zc_kq_tf (σ : CSt) (v : Int32) : cs_kq (cs_tf_s σ v) = cs_kq σ := rfl
theorem zc_kq_sct (σ : CSt) (v : Int32) : cs_kq (cs_sct_s σ v) = cs_kq σ := rfl
theorem zc_kq_sml (σ : CSt) (v : Int32) : cs_kq (cs_sml_s σ v) = cs_kq σ := rfl
theorem zc_kq_sv (σ : CSt) (v : (Nat → Int32)) : cs_kq (cs_sv_s σ v) = cs_kq σ := rfl
theorem zc_kq_scap (σ : CSt) (v : Nat) : cs_kq (cs_scap_s σ v) = cs_kq σ := rfl
theorem zc_kq_nc (σ : CSt) (v : Nat) : cs_kq (cs_nc_s σ v) = cs_kq σ := rfl
theorem zc_kq_ns (σ : CSt) (v : Nat) : cs_kq (cs_ns_s σ v) = cs_kq σ := rfl
theorem zc_kr_cb (σ : CSt) (v : Int32) : cs_kr (cs_cb_s σ v) = cs_kr σ := rfl
theorem zc_kr_cc (σ : CSt) (v : Int32) : cs_kr (cs_cc_s σ v) = cs_kr σ := rfl
theorem zc_kr_cp (σ : CSt) (v : Int32) : cs_kr (cs_cp_s σ v) = cs_kr σ := rfl
theorem zc_kr_ce (σ : CSt) (v : (Nat → Int32)) : cs_kr (cs_ce_s σ v) = cs_kr σ := rfl
theorem zc_kr_cq (σ : CSt) (v : (Nat → Int32)) : cs_kr (cs_cq_s σ v) = cs_kr σ := rfl
theorem zc_kr_cr (σ : CSt) (v : (Nat → Option RV)) : cs_kr (cs_cr_s σ v) = cs_kr σ := rfl
theorem zc_kr_kb (σ : CSt) (v : (Nat → Int32)) : cs_kr (cs_kb_s σ v) = cs_kr σ := rfl
theorem zc_kr_kc (σ : CSt) (v : (Nat → Int32)) : cs_kr (cs_kc_s σ v) = cs_kr σ := rfl
theorem zc_kr_kp (σ : CSt) (v : (Nat → Int32)) : cs_kr (cs_kp_s σ v) = cs_kr σ := rfl
theorem zc_kr_ke (σ : CSt) (v : (Nat → Nat → Int32)) : cs_kr (cs_ke_s σ v) = cs_kr σ := rfl
theorem zc_kr_kq (σ : CSt) (v : (Nat → Nat → Int32)) : cs_kr (cs_kq_s σ v) = cs_kr σ := rfl
theorem zc_kr_kr (σ : CSt) (v : (Nat → Nat → Option RV)) : cs_kr (cs_kr_s σ v) = v := rfl
theorem zc_kr_hs (σ : CSt) (v : Int32) : cs_kr (cs_hs_s σ v) = cs_kr σ := rfl
theorem zc_kr_ho (σ : CSt) (v : Int32) : cs_kr (cs_ho_s σ v) = cs_kr σ := rfl
theorem zc_kr_run (σ : CSt) (v : Int32) : cs_kr (cs_run_s σ v) = cs_kr σ := rfl
theorem zc_kr_frests (σ : CSt) (v : (Nat → Int32)) : cs_kr (cs_frests_s σ v) = cs_kr σ := rfl
theorem zc_kr_fpen (σ : CSt) (v : Int32) : cs_kr (cs_fpen_s σ v) = cs_kr σ := rfl
theorem zc_kr_fstart (σ : CSt) (v : Int32) : cs_kr (cs_fstart_s σ v) = cs_kr σ := rfl
theorem zc_kr_fss (σ : CSt) (v : Int32) : cs_kr (cs_fss_s σ v) = cs_kr σ := rfl
theorem zc_kr_fgoal (σ : CSt) (v : Int32) : cs_kr (cs_fgoal_s σ v) = cs_kr σ := rfl
theorem zc_kr_fgs (σ : CSt) (v : Int32) : cs_kr (cs_fgs_s σ v) = cs_kr σ := rfl
theorem zc_kr_fcx (σ : CSt) (v : (Nat → Int32)) : cs_kr (cs_fcx_s σ v) = cs_kr σ := rfl
theorem zc_kr_fcy (σ : CSt) (v : (Nat → Int32)) : cs_kr (cs_fcy_s σ v) = cs_kr σ := rfl
theorem zc_kr_fcn (σ : CSt) (v : Int32) : cs_kr (cs_fcn_s σ v) = cs_kr σ := rfl
theorem zc_kr_gx (σ : CSt) (v : (Nat → Int32)) : cs_kr (cs_gx_s σ v) = cs_kr σ := rfl
theorem zc_kr_gy (σ : CSt) (v : (Nat → Int32)) : cs_kr (cs_gy_s σ v) = cs_kr σ := rfl
theorem zc_kr_gc (σ : CSt) (v : Int32) : cs_kr (cs_gc_s σ v) = cs_kr σ := rfl
theorem zc_kr_gr (σ : CSt) (v : Int32) : cs_kr (cs_gr_s σ v) = cs_kr σ := rfl
theorem zc_kr_goR (σ : CSt) (v : (Nat → Int32)) : cs_kr (cs_goR_s σ v) = cs_kr σ := rfl
theorem zc_kr_goD (σ : CSt) (v : (Nat → Int32)) : cs_kr (cs_goD_s σ v) = cs_kr σ := rfl
theorem zc_kr_wre (σ : CSt) (v : Int32) : cs_kr (cs_wre_s σ v) = cs_kr σ := rfl
theorem zc_kr_whd (σ : CSt) (v : (Nat → Int32)) : cs_kr (cs_whd_s σ v) = cs_kr σ := rfl
theorem zc_kr_wnx (σ : CSt) (v : (Nat → Int32)) : cs_kr (cs_wnx_s σ v) = cs_kr σ := rfl
theorem zc_kr_wpv (σ : CSt) (v : (Nat → Int32)) : cs_kr (cs_wpv_s σ v) = cs_kr σ := rfl
theorem zc_kr_bs (σ : CSt) (v : Int32) : cs_kr (cs_bs_s σ v) = cs_kr σ := rfl
theorem zc_kr_bo (σ : CSt) (v : Int32) : cs_kr (cs_bo_s σ v) = cs_kr σ := rfl
theorem zc_kr_bst (σ : CSt) (v : (Nat → Int32)) : cs_kr (cs_bst_s σ v) = cs_kr σ := rfl
theorem zc_kr_ben (σ : CSt) (v : (Nat → Int32)) : cs_kr (cs_ben_s σ v) = cs_kr σ := rfl
theorem zc_kr_bpu (σ : CSt) (v : (Nat → Int32)) : cs_kr (cs_bpu_s σ v) = cs_kr σ := rfl
theorem zc_kr_bla (σ : CSt) (v : (Nat → Int32)) : cs_kr (cs_bla_s σ v) = cs_kr σ := rfl
theorem zc_kr_bre (σ : CSt) (v : (Nat → Int32)) : cs_kr (cs_bre_s σ v) = cs_kr σ := rfl
theorem zc_kr_tl (σ : CSt) (v : Int32) : cs_kr (cs_tl_s σ v) = cs_kr σ := rfl
theorem zc_kr_tb (σ : CSt) (v : (Nat → Int32)) : cs_kr (cs_tb_s σ v) = cs_kr σ := rfl
theorem zc_kr_tw (σ : CSt) (v : Int32) : cs_kr (cs_tw_s σ v) = cs_kr σ := rfl
theorem zc_kr_tn (σ : CSt) (v : (Nat → Int32)) : cs_kr (cs_tn_s σ v) = cs_kr σ := rfl
theorem zc_kr_tc (σ : CSt) (v : Int32) : cs_kr (cs_tc_s σ v) = cs_kr σ := rfl
theorem zc_kr_te (σ : CSt) (v : Int32) : cs_kr (cs_te_s σ v) = cs_kr σ := rfl
theorem zc_kr_tf (σ : CSt) (v : Int32) : cs_kr (cs_tf_s σ v) = cs_kr σ := rfl
theorem zc_kr_sct (σ : CSt) (v : Int32) : cs_kr (cs_sct_s σ v) = cs_kr σ := rfl
theorem zc_kr_sml (σ : CSt) (v : Int32) : cs_kr (cs_sml_s σ v) = cs_kr σ := rfl
theorem zc_kr_sv (σ : CSt) (v : (Nat → Int32)) : cs_kr (cs_sv_s σ v) = cs_kr σ := rfl
theorem zc_kr_scap (σ : CSt) (v : Nat) : cs_kr (cs_scap_s σ v) = cs_kr σ := rfl
theorem zc_kr_nc (σ : CSt) (v : Nat) : cs_kr (cs_nc_s σ v) = cs_kr σ := rfl
theorem zc_kr_ns (σ : CSt) (v : Nat) : cs_kr (cs_ns_s σ v) = cs_kr σ := rfl
theorem zc_hs_cb (σ : CSt) (v : Int32) : cs_hs (cs_cb_s σ v) = cs_hs σ := rfl
theorem zc_hs_cc (σ : CSt) (v : Int32) : cs_hs (cs_cc_s σ v) = cs_hs σ := rfl
theorem zc_hs_cp (σ : CSt) (v : Int32) : cs_hs (cs_cp_s σ v) = cs_hs σ := rfl
theorem zc_hs_ce (σ : CSt) (v : (Nat → Int32)) : cs_hs (cs_ce_s σ v) = cs_hs σ := rfl
theorem zc_hs_cq (σ : CSt) (v : (Nat → Int32)) : cs_hs (cs_cq_s σ v) = cs_hs σ := rfl
theorem zc_hs_cr (σ : CSt) (v : (Nat → Option RV)) : cs_hs (cs_cr_s σ v) = cs_hs σ := rfl
theorem zc_hs_kb (σ : CSt) (v : (Nat → Int32)) : cs_hs (cs_kb_s σ v) = cs_hs σ := rfl
theorem zc_hs_kc (σ : CSt) (v : (Nat → Int32)) : cs_hs (cs_kc_s σ v) = cs_hs σ := rfl
theorem zc_hs_kp (σ : CSt) (v : (Nat → Int32)) : cs_hs (cs_kp_s σ v) = cs_hs σ := rfl
theorem zc_hs_ke (σ : CSt) (v : (Nat → Nat → Int32)) : cs_hs (cs_ke_s σ v) = cs_hs σ := rfl
theorem zc_hs_kq (σ : CSt) (v : (Nat → Nat → Int32)) : cs_hs (cs_kq_s σ v) = cs_hs σ := rfl
theorem zc_hs_kr (σ : CSt) (v : (Nat → Nat → Option RV)) : cs_hs (cs_kr_s σ v) = cs_hs σ := rfl
theorem zc_hs_hs (σ : CSt) (v : Int32) : cs_hs (cs_hs_s σ v) = v := rfl
theorem zc_hs_ho (σ : CSt) (v : Int32) : cs_hs (cs_ho_s σ v) = cs_hs σ := rfl
theorem zc_hs_run (σ : CSt) (v : Int32) : cs_hs (cs_run_s σ v) = cs_hs σ := rfl
theorem zc_hs_frests (σ : CSt) (v : (Nat → Int32)) : cs_hs (cs_frests_s σ v) = cs_hs σ := rfl
theorem zc_hs_fpen (σ : CSt) (v : Int32) : cs_hs (cs_fpen_s σ v) = cs_hs σ := rfl
theorem zc_hs_fstart (σ : CSt) (v : Int32) : cs_hs (cs_fstart_s σ v) = cs_hs σ := rfl
theorem zc_hs_fss (σ : CSt) (v : Int32) : cs_hs (cs_fss_s σ v) = cs_hs σ := rfl
theorem zc_hs_fgoal (σ : CSt) (v : Int32) : cs_hs (cs_fgoal_s σ v) = cs_hs σ := rfl
theorem zc_hs_fgs (σ : CSt) (v : Int32) : cs_hs (cs_fgs_s σ v) = cs_hs σ := rfl
theorem zc_hs_fcx (σ : CSt) (v : (Nat → Int32)) : cs_hs (cs_fcx_s σ v) = cs_hs σ := rfl
theorem zc_hs_fcy (σ : CSt) (v : (Nat → Int32)) : cs_hs (cs_fcy_s σ v) = cs_hs σ := rfl
theorem zc_hs_fcn (σ : CSt) (v : Int32) : cs_hs (cs_fcn_s σ v) = cs_hs σ := rfl
theorem zc_hs_gx (σ : CSt) (v : (Nat → Int32)) : cs_hs (cs_gx_s σ v) = cs_hs σ := rfl
theorem zc_hs_gy (σ : CSt) (v : (Nat → Int32)) : cs_hs (cs_gy_s σ v) = cs_hs σ := rfl
theorem zc_hs_gc (σ : CSt) (v : Int32) : cs_hs (cs_gc_s σ v) = cs_hs σ := rfl
theorem zc_hs_gr (σ : CSt) (v : Int32) : cs_hs (cs_gr_s σ v) = cs_hs σ := rfl
theorem zc_hs_goR (σ : CSt) (v : (Nat → Int32)) : cs_hs (cs_goR_s σ v) = cs_hs σ := rfl
theorem zc_hs_goD (σ : CSt) (v : (Nat → Int32)) : cs_hs (cs_goD_s σ v) = cs_hs σ := rfl
theorem zc_hs_wre (σ : CSt) (v : Int32) : cs_hs (cs_wre_s σ v) = cs_hs σ := rfl
theorem zc_hs_whd (σ : CSt) (v : (Nat → Int32)) : cs_hs (cs_whd_s σ v) = cs_hs σ := rfl
theorem zc_hs_wnx (σ : CSt) (v : (Nat → Int32)) : cs_hs (cs_wnx_s σ v) = cs_hs σ := rfl
theorem zc_hs_wpv (σ : CSt) (v : (Nat → Int32)) : cs_hs (cs_wpv_s σ v) = cs_hs σ := rfl
theorem zc_hs_bs (σ : CSt) (v : Int32) : cs_hs (cs_bs_s σ v) = cs_hs σ := rfl
theorem zc_hs_bo (σ : CSt) (v : Int32) : cs_hs (cs_bo_s σ v) = cs_hs σ := rfl
theorem zc_hs_bst (σ : CSt) (v : (Nat → Int32)) : cs_hs (cs_bst_s σ v) = cs_hs σ := rfl
theorem zc_hs_ben (σ : CSt) (v : (Nat → Int32)) : cs_hs (cs_ben_s σ v) = cs_hs σ := rfl
theorem zc_hs_bpu (σ : CSt) (v : (Nat → Int32)) : cs_hs (cs_bpu_s σ v) = cs_hs σ := rfl
theorem zc_hs_bla (σ : CSt) (v : (Nat → Int32)) : cs_hs (cs_bla_s σ v) = cs_hs σ := rfl
theorem zc_hs_bre (σ : CSt) (v : (Nat → Int32)) : cs_hs (cs_bre_s σ v) = cs_hs σ := rfl
theorem zc_hs_tl (σ : CSt) (v : Int32) : cs_hs (cs_tl_s σ v) = cs_hs σ := rfl
theorem zc_hs_tb (σ : CSt) (v : (Nat → Int32)) : cs_hs (cs_tb_s σ v) = cs_hs σ := rfl
theorem zc_hs_tw (σ : CSt) (v : Int32) : cs_hs (cs_tw_s σ v) = cs_hs σ := rfl
theorem zc_hs_tn (σ : CSt) (v : (Nat → Int32)) : cs_hs (cs_tn_s σ v) = cs_hs σ := rfl
theorem zc_hs_tc (σ : CSt) (v : Int32) : cs_hs (cs_tc_s σ v) = cs_hs σ := rfl
theorem zc_hs_te (σ : CSt) (v : Int32) : cs_hs (cs_te_s σ v) = cs_hs σ := rfl
theorem zc_hs_tf (σ : CSt) (v : Int32) : cs_hs (cs_tf_s σ v) = cs_hs σ := rfl
theorem zc_hs_sct (σ : CSt) (v : Int32) : cs_hs (cs_sct_s σ v) = cs_hs σ := rfl
theorem zc_hs_sml (σ : CSt) (v : Int32) : cs_hs (cs_sml_s σ v) = cs_hs σ := rfl
theorem zc_hs_sv (σ : CSt) (v : (Nat → Int32)) : cs_hs (cs_sv_s σ v) = cs_hs σ := rfl
theorem zc_hs_scap (σ : CSt) (v : Nat) : cs_hs (cs_scap_s σ v) = cs_hs σ := rfl
theorem zc_hs_nc (σ : CSt) (v : Nat) : cs_hs (cs_nc_s σ v) = cs_hs σ := rfl
theorem zc_hs_ns (σ : CSt) (v : Nat) : cs_hs (cs_ns_s σ v) = cs_hs σ := rfl
theorem zc_ho_cb (σ : CSt) (v : Int32) : cs_ho (cs_cb_s σ v) = cs_ho σ := rfl
theorem zc_ho_cc (σ : CSt) (v : Int32) : cs_ho (cs_cc_s σ v) = cs_ho σ := rfl
theorem zc_ho_cp (σ : CSt) (v : Int32) : cs_ho (cs_cp_s σ v) = cs_ho σ := rfl
theorem zc_ho_ce (σ : CSt) (v : (Nat → Int32)) : cs_ho (cs_ce_s σ v) = cs_ho σ := rfl
theorem zc_ho_cq (σ : CSt) (v : (Nat → Int32)) : cs_ho (cs_cq_s σ v) = cs_ho σ := rfl
theorem zc_ho_cr (σ : CSt) (v : (Nat → Option RV)) : cs_ho (cs_cr_s σ v) = cs_ho σ := rfl
theorem zc_ho_kb (σ : CSt) (v : (Nat → Int32)) : cs_ho (cs_kb_s σ v) = cs_ho σ := rfl
theorem zc_ho_kc (σ : CSt) (v : (Nat → Int32)) : cs_ho (cs_kc_s σ v) = cs_ho σ := rfl
theorem zc_ho_kp (σ : CSt) (v : (Nat → Int32)) : cs_ho (cs_kp_s σ v) = cs_ho σ := rfl
theorem zc_ho_ke (σ : CSt) (v : (Nat → Nat → Int32)) : cs_ho (cs_ke_s σ v) = cs_ho σ := rfl
theorem zc_ho_kq (σ : CSt) (v : (Nat → Nat → Int32)) : cs_ho (cs_kq_s σ v) = cs_ho σ := rfl
theorem zc_ho_kr (σ : CSt) (v : (Nat → Nat → Option RV)) : cs_ho (cs_kr_s σ v) = cs_ho σ := rfl
theorem zc_ho_hs (σ : CSt) (v : Int32) : cs_ho (cs_hs_s σ v) = cs_ho σ := rfl
theorem zc_ho_ho (σ : CSt) (v : Int32) : cs_ho (cs_ho_s σ v) = v := rfl
theorem zc_ho_run (σ : CSt) (v : Int32) : cs_ho (cs_run_s σ v) = cs_ho σ := rfl
theorem zc_ho_frests (σ : CSt) (v : (Nat → Int32)) : cs_ho (cs_frests_s σ v) = cs_ho σ := rfl
theorem zc_ho_fpen (σ : CSt) (v : Int32) : cs_ho (cs_fpen_s σ v) = cs_ho σ := rfl
theorem zc_ho_fstart (σ : CSt) (v : Int32) : cs_ho (cs_fstart_s σ v) = cs_ho σ := rfl
theorem zc_ho_fss (σ : CSt) (v : Int32) : cs_ho (cs_fss_s σ v) = cs_ho σ := rfl
theorem zc_ho_fgoal (σ : CSt) (v : Int32) : cs_ho (cs_fgoal_s σ v) = cs_ho σ := rfl
theorem zc_ho_fgs (σ : CSt) (v : Int32) : cs_ho (cs_fgs_s σ v) = cs_ho σ := rfl
theorem zc_ho_fcx (σ : CSt) (v : (Nat → Int32)) : cs_ho (cs_fcx_s σ v) = cs_ho σ := rfl
theorem zc_ho_fcy (σ : CSt) (v : (Nat → Int32)) : cs_ho (cs_fcy_s σ v) = cs_ho σ := rfl
theorem zc_ho_fcn (σ : CSt) (v : Int32) : cs_ho (cs_fcn_s σ v) = cs_ho σ := rfl
theorem zc_ho_gx (σ : CSt) (v : (Nat → Int32)) : cs_ho (cs_gx_s σ v) = cs_ho σ := rfl
theorem zc_ho_gy (σ : CSt) (v : (Nat → Int32)) : cs_ho (cs_gy_s σ v) = cs_ho σ := rfl
theorem zc_ho_gc (σ : CSt) (v : Int32) : cs_ho (cs_gc_s σ v) = cs_ho σ := rfl
theorem zc_ho_gr (σ : CSt) (v : Int32) : cs_ho (cs_gr_s σ v) = cs_ho σ := rfl
theorem zc_ho_goR (σ : CSt) (v : (Nat → Int32)) : cs_ho (cs_goR_s σ v) = cs_ho σ := rfl
theorem zc_ho_goD (σ : CSt) (v : (Nat → Int32)) : cs_ho (cs_goD_s σ v) = cs_ho σ := rfl
theorem zc_ho_wre (σ : CSt) (v : Int32) : cs_ho (cs_wre_s σ v) = cs_ho σ := rfl
theorem zc_ho_whd (σ : CSt) (v : (Nat → Int32)) : cs_ho (cs_whd_s σ v) = cs_ho σ := rfl
theorem zc_ho_wnx (σ : CSt) (v : (Nat → Int32)) : cs_ho (cs_wnx_s σ v) = cs_ho σ := rfl
theorem zc_ho_wpv (σ : CSt) (v : (Nat → Int32)) : cs_ho (cs_wpv_s σ v) = cs_ho σ := rfl
theorem zc_ho_bs (σ : CSt) (v : Int32) : cs_ho (cs_bs_s σ v) = cs_ho σ := rfl
theorem zc_ho_bo (σ : CSt) (v : Int32) : cs_ho (cs_bo_s σ v) = cs_ho σ := rfl
theorem zc_ho_bst (σ : CSt) (v : (Nat → Int32)) : cs_ho (cs_bst_s σ v) = cs_ho σ := rfl
theorem zc_ho_ben (σ : CSt) (v : (Nat → Int32)) : cs_ho (cs_ben_s σ v) = cs_ho σ := rfl
theorem zc_ho_bpu (σ : CSt) (v : (Nat → Int32)) : cs_ho (cs_bpu_s σ v) = cs_ho σ := rfl
theorem zc_ho_bla (σ : CSt) (v : (Nat → Int32)) : cs_ho (cs_bla_s σ v) = cs_ho σ := rfl
theorem zc_ho_bre (σ : CSt) (v : (Nat → Int32)) : cs_ho (cs_bre_s σ v) = cs_ho σ := rfl
theorem zc_ho_tl (σ : CSt) (v : Int32) : cs_ho (cs_tl_s σ v) = cs_ho σ := rfl
theorem zc_ho_tb (σ : CSt) (v : (Nat → Int32)) : cs_ho (cs_tb_s σ v) = cs_ho σ := rfl
theorem zc_ho_tw (σ : CSt) (v : Int32) : cs_ho (cs_tw_s σ v) = cs_ho σ := rfl
theorem zc_ho_tn (σ : CSt) (v : (Nat → Int32)) : cs_ho (cs_tn_s σ v) = cs_ho σ := rfl
theorem zc_ho_tc (σ : CSt) (v : Int32) : cs_ho (cs_tc_s σ v) = cs_ho σ := rfl
theorem zc_ho_te (σ : CSt) (v : Int32) : cs_ho (cs_te_s σ v) = cs_ho σ := rfl
theorem zc_ho_tf (σ : CSt) (v : Int32) : cs_ho (cs_tf_s σ v) = cs_ho σ := rfl
theorem zc_ho_sct (σ : CSt) (v : Int32) : cs_ho (cs_sct_s σ v) = cs_ho σ := rfl
theorem zc_ho_sml (σ : CSt) (v : Int32) : cs_ho (cs_sml_s σ v) = cs_ho σ := rfl
theorem zc_ho_sv (σ : CSt) (v : (Nat → Int32)) : cs_ho (cs_sv_s σ v) = cs_ho σ := rfl
theorem zc_ho_scap (σ : CSt) (v : Nat) : cs_ho (cs_scap_s σ v) = cs_ho σ := rfl
theorem zc_ho_nc (σ : CSt) (v : Nat) : cs_ho (cs_nc_s σ v) = cs_ho σ := rfl
theorem zc_ho_ns (σ : CSt) (v : Nat) : cs_ho (cs_ns_s σ v) = cs_ho σ := rfl
theorem zc_run_cb (σ : CSt) (v : Int32) : cs_run (cs_cb_s σ v) = cs_run σ := rfl
theorem zc_run_cc (σ : CSt) (v : Int32) : cs_run (cs_cc_s σ v) = cs_run σ := rfl
theorem zc_run_cp (σ : CSt) (v : Int32) : cs_run (cs_cp_s σ v) = cs_run σ := rfl
theorem zc_run_ce (σ : CSt) (v : (Nat → Int32)) : cs_run (cs_ce_s σ v) = cs_run σ := rfl
theorem zc_run_cq (σ : CSt) (v : (Nat → Int32)) : cs_run (cs_cq_s σ v) = cs_run σ := rfl
theorem zc_run_cr (σ : CSt) (v : (Nat → Option RV)) : cs_run (cs_cr_s σ v) = cs_run σ := rfl
theorem zc_run_kb (σ : CSt) (v : (Nat → Int32)) : cs_run (cs_kb_s σ v) = cs_run σ := rfl
theorem zc_run_kc (σ : CSt) (v : (Nat → Int32)) : cs_run (cs_kc_s σ v) = cs_run σ := rfl
theorem zc_run_kp (σ : CSt) (v : (Nat → Int32)) : cs_run (cs_kp_s σ v) = cs_run σ := rfl
theorem zc_run_ke (σ : CSt) (v : (Nat → Nat → Int32)) : cs_run (cs_ke_s σ v) = cs_run σ := rfl
theorem zc_run_kq (σ : CSt) (v : (Nat → Nat → Int32)) : cs_run (cs_kq_s σ v) = cs_run σ := rfl
theorem zc_run_kr (σ : CSt) (v : (Nat → Nat → Option RV)) : cs_run (cs_kr_s σ v) = cs_run σ := rfl
theorem zc_run_hs (σ : CSt) (v : Int32) : cs_run (cs_hs_s σ v) = cs_run σ := rfl
theorem zc_run_ho (σ : CSt) (v : Int32) : cs_run (cs_ho_s σ v) = cs_run σ := rfl
theorem zc_run_run (σ : CSt) (v : Int32) : cs_run (cs_run_s σ v) = v := rfl
theorem zc_run_frests (σ : CSt) (v : (Nat → Int32)) : cs_run (cs_frests_s σ v) = cs_run σ := rfl
theorem zc_run_fpen (σ : CSt) (v : Int32) : cs_run (cs_fpen_s σ v) = cs_run σ := rfl
theorem zc_run_fstart (σ : CSt) (v : Int32) : cs_run (cs_fstart_s σ v) = cs_run σ := rfl
theorem zc_run_fss (σ : CSt) (v : Int32) : cs_run (cs_fss_s σ v) = cs_run σ := rfl
theorem zc_run_fgoal (σ : CSt) (v : Int32) : cs_run (cs_fgoal_s σ v) = cs_run σ := rfl
theorem zc_run_fgs (σ : CSt) (v : Int32) : cs_run (cs_fgs_s σ v) = cs_run σ := rfl
theorem zc_run_fcx (σ : CSt) (v : (Nat → Int32)) : cs_run (cs_fcx_s σ v) = cs_run σ := rfl
theorem zc_run_fcy (σ : CSt) (v : (Nat → Int32)) : cs_run (cs_fcy_s σ v) = cs_run σ := rfl
theorem zc_run_fcn (σ : CSt) (v : Int32) : cs_run (cs_fcn_s σ v) = cs_run σ := rfl
theorem zc_run_gx (σ : CSt) (v : (Nat → Int32)) : cs_run (cs_gx_s σ v) = cs_run σ := rfl
theorem zc_run_gy (σ : CSt) (v : (Nat → Int32)) : cs_run (cs_gy_s σ v) = cs_run σ := rfl
theorem zc_run_gc (σ : CSt) (v : Int32) : cs_run (cs_gc_s σ v) = cs_run σ := rfl
theorem zc_run_gr (σ : CSt) (v : Int32) : cs_run (cs_gr_s σ v) = cs_run σ := rfl
theorem zc_run_goR (σ : CSt) (v : (Nat → Int32)) : cs_run (cs_goR_s σ v) = cs_run σ := rfl
theorem zc_run_goD (σ : CSt) (v : (Nat → Int32)) : cs_run (cs_goD_s σ v) = cs_run σ := rfl
theorem zc_run_wre (σ : CSt) (v : Int32) : cs_run (cs_wre_s σ v) = cs_run σ := rfl
theorem zc_run_whd (σ : CSt) (v : (Nat → Int32)) : cs_run (cs_whd_s σ v) = cs_run σ := rfl
theorem zc_run_wnx (σ : CSt) (v : (Nat → Int32)) : cs_run (cs_wnx_s σ v) = cs_run σ := rfl
theorem zc_run_wpv (σ : CSt) (v : (Nat → Int32)) : cs_run (cs_wpv_s σ v) = cs_run σ := rfl
theorem zc_run_bs (σ : CSt) (v : Int32) : cs_run (cs_bs_s σ v) = cs_run σ := rfl
theorem zc_run_bo (σ : CSt) (v : Int32) : cs_run (cs_bo_s σ v) = cs_run σ := rfl
theorem zc_run_bst (σ : CSt) (v : (Nat → Int32)) : cs_run (cs_bst_s σ v) = cs_run σ := rfl
theorem zc_run_ben (σ : CSt) (v : (Nat → Int32)) : cs_run (cs_ben_s σ v) = cs_run σ := rfl
theorem zc_run_bpu (σ : CSt) (v : (Nat → Int32)) : cs_run (cs_bpu_s σ v) = cs_run σ := rfl
theorem zc_run_bla (σ : CSt) (v : (Nat → Int32)) : cs_run (cs_bla_s σ v) = cs_run σ := rfl
theorem zc_run_bre (σ : CSt) (v : (Nat → Int32)) : cs_run (cs_bre_s σ v) = cs_run σ := rfl
theorem zc_run_tl (σ : CSt) (v : Int32) : cs_run (cs_tl_s σ v) = cs_run σ := rfl
theorem zc_run_tb (σ : CSt) (v : (Nat → Int32)) : cs_run (cs_tb_s σ v) = cs_run σ := rfl
theorem zc_run_tw (σ : CSt) (v : Int32) : cs_run (cs_tw_s σ v) = cs_run σ := rfl
theorem zc_run_tn (σ : CSt) (v : (Nat → Int32)) : cs_run (cs_tn_s σ v) = cs_run σ := rfl
theorem zc_run_tc (σ : CSt) (v : Int32) : cs_run (cs_tc_s σ v) = cs_run σ := rfl
theorem zc_run_te (σ : CSt) (v : Int32) : cs_run (cs_te_s σ v) = cs_run σ := rfl
theorem zc_run_tf (σ : CSt) (v : Int32) : cs_run (cs_tf_s σ v) = cs_run σ := rfl
theorem zc_run_sct (σ : CSt) (v : Int32) : cs_run (cs_sct_s σ v) = cs_run σ := rfl
theorem zc_run_sml (σ : CSt) (v : Int32) : cs_run (cs_sml_s σ v) = cs_run σ := rfl
theorem zc_run_sv (σ : CSt) (v : (Nat → Int32)) : cs_run (cs_sv_s σ v) = cs_run σ := rfl
theorem zc_run_scap (σ : CSt) (v : Nat) : cs_run (cs_scap_s σ v) = cs_run σ := rfl
theorem zc_run_nc (σ : CSt) (v : Nat) : cs_run (cs_nc_s σ v) = cs_run σ := rfl
theorem zc_run_ns (σ : CSt) (v : Nat) : cs_run (cs_ns_s σ v) = cs_run σ := rfl
theorem zc_frests_cb (σ : CSt) (v : Int32) : cs_frests (cs_cb_s σ v) = cs_frests σ := rfl
theorem zc_frests_cc (σ : CSt) (v : Int32) : cs_frests (cs_cc_s σ v) = cs_frests σ := rfl
theorem zc_frests_cp (σ : CSt) (v : Int32) : cs_frests (cs_cp_s σ v) = cs_frests σ := rfl
theorem zc_frests_ce (σ : CSt) (v : (Nat → Int32)) : cs_frests (cs_ce_s σ v) = cs_frests σ := rfl
theorem zc_frests_cq (σ : CSt) (v : (Nat → Int32)) : cs_frests (cs_cq_s σ v) = cs_frests σ := rfl
theorem zc_frests_cr (σ : CSt) (v : (Nat → Option RV)) : cs_frests (cs_cr_s σ v) = cs_frests σ := rfl
theorem zc_frests_kb (σ : CSt) (v : (Nat → Int32)) : cs_frests (cs_kb_s σ v) = cs_frests σ := rfl
theorem zc_frests_kc (σ : CSt) (v : (Nat → Int32)) : cs_frests (cs_kc_s σ v) = cs_frests σ := rfl
theorem zc_frests_kp (σ : CSt) (v : (Nat → Int32)) : cs_frests (cs_kp_s σ v) = cs_frests σ := rfl
theorem zc_frests_ke (σ : CSt) (v : (Nat → Nat → Int32)) : cs_frests (cs_ke_s σ v) = cs_frests σ := rfl
theorem zc_frests_kq (σ : CSt) (v : (Nat → Nat → Int32)) : cs_frests (cs_kq_s σ v) = cs_frests σ := rfl
theorem zc_frests_kr (σ : CSt) (v : (Nat → Nat → Option RV)) : cs_frests (cs_kr_s σ v) = cs_frests σ := rfl
theorem zc_frests_hs (σ : CSt) (v : Int32) : cs_frests (cs_hs_s σ v) = cs_frests σ := rfl
theorem zc_frests_ho (σ : CSt) (v : Int32) : cs_frests (cs_ho_s σ v) = cs_frests σ := rfl
theorem zc_frests_run (σ : CSt) (v : Int32) : cs_frests (cs_run_s σ v) = cs_frests σ := rfl
theorem zc_frests_frests (σ : CSt) (v : (Nat → Int32)) : cs_frests (cs_frests_s σ v) = v := rfl
theorem zc_frests_fpen (σ : CSt) (v : Int32) : cs_frests (cs_fpen_s σ v) = cs_frests σ := rfl
theorem zc_frests_fstart (σ : CSt) (v : Int32) : cs_frests (cs_fstart_s σ v) = cs_frests σ := rfl
theorem zc_frests_fss (σ : CSt) (v : Int32) : cs_frests (cs_fss_s σ v) = cs_frests σ := rfl
theorem zc_frests_fgoal (σ : CSt) (v : Int32) : cs_frests (cs_fgoal_s σ v) = cs_frests σ := rfl
theorem zc_frests_fgs (σ : CSt) (v : Int32) : cs_frests (cs_fgs_s σ v) = cs_frests σ := rfl
theorem zc_frests_fcx (σ : CSt) (v : (Nat → Int32)) : cs_frests (cs_fcx_s σ v) = cs_frests σ := rfl
theorem zc_frests_fcy (σ : CSt) (v : (Nat → Int32)) : cs_frests (cs_fcy_s σ v) = cs_frests σ := rfl
theorem zc_frests_fcn (σ : CSt) (v : Int32) : cs_frests (cs_fcn_s σ v) = cs_frests σ := rfl
theorem zc_frests_gx (σ : CSt) (v : (Nat → Int32)) : cs_frests (cs_gx_s σ v) = cs_frests σ := rfl
theorem zc_frests_gy (σ : CSt) (v : (Nat → Int32)) : cs_frests (cs_gy_s σ v) = cs_frests σ := rfl
theorem zc_frests_gc (σ : CSt) (v : Int32) : cs_frests (cs_gc_s σ v) = cs_frests σ := rfl
theorem zc_frests_gr (σ : CSt) (v : Int32) : cs_frests (cs_gr_s σ v) = cs_frests σ := rfl
theorem zc_frests_goR (σ : CSt) (v : (Nat → Int32)) : cs_frests (cs_goR_s σ v) = cs_frests σ := rfl
theorem zc_frests_goD (σ : CSt) (v : (Nat → Int32)) : cs_frests (cs_goD_s σ v) = cs_frests σ := rfl
theorem zc_frests_wre (σ : CSt) (v : Int32) : cs_frests (cs_wre_s σ v) = cs_frests σ := rfl
theorem zc_frests_whd (σ : CSt) (v : (Nat → Int32)) : cs_frests (cs_whd_s σ v) = cs_frests σ := rfl
theorem zc_frests_wnx (σ : CSt) (v : (Nat → Int32)) : cs_frests (cs_wnx_s σ v) = cs_frests σ := rfl
theorem zc_frests_wpv (σ : CSt) (v : (Nat → Int32)) : cs_frests (cs_wpv_s σ v) = cs_frests σ := rfl
theorem zc_frests_bs (σ : CSt) (v : Int32) : cs_frests (cs_bs_s σ v) = cs_frests σ := rfl
theorem zc_frests_bo (σ : CSt) (v : Int32) : cs_frests (cs_bo_s σ v) = cs_frests σ := rfl
theorem zc_frests_bst (σ : CSt) (v : (Nat → Int32)) : cs_frests (cs_bst_s σ v) = cs_frests σ := rfl
theorem zc_frests_ben (σ : CSt) (v : (Nat → Int32)) : cs_frests (cs_ben_s σ v) = cs_frests σ := rfl
theorem zc_frests_bpu (σ : CSt) (v : (Nat → Int32)) : cs_frests (cs_bpu_s σ v) = cs_frests σ := rfl
theorem zc_frests_bla (σ : CSt) (v : (Nat → Int32)) : cs_frests (cs_bla_s σ v) = cs_frests σ := rfl
theorem zc_frests_bre (σ : CSt) (v : (Nat → Int32)) : cs_frests (cs_bre_s σ v) = cs_frests σ := rfl
theorem zc_frests_tl (σ : CSt) (v : Int32) : cs_frests (cs_tl_s σ v) = cs_frests σ := rfl
theorem zc_frests_tb (σ : CSt) (v : (Nat → Int32)) : cs_frests (cs_tb_s σ v) = cs_frests σ := rfl
theorem zc_frests_tw (σ : CSt) (v : Int32) : cs_frests (cs_tw_s σ v) = cs_frests σ := rfl
theorem zc_frests_tn (σ : CSt) (v : (Nat → Int32)) : cs_frests (cs_tn_s σ v) = cs_frests σ := rfl
theorem zc_frests_tc (σ : CSt) (v : Int32) : cs_frests (cs_tc_s σ v) = cs_frests σ := rfl
theorem zc_frests_te (σ : CSt) (v : Int32) : cs_frests (cs_te_s σ v) = cs_frests σ := rfl
theorem zc_frests_tf (σ : CSt) (v : Int32) : cs_frests (cs_tf_s σ v) = cs_frests σ := rfl
theorem zc_frests_sct (σ : CSt) (v : Int32) : cs_frests (cs_sct_s σ v) = cs_frests σ := rfl
theorem zc_frests_sml (σ : CSt) (v : Int32) : cs_frests (cs_sml_s σ v) = cs_frests σ := rfl
theorem zc_frests_sv (σ : CSt) (v : (Nat → Int32)) : cs_frests (cs_sv_s σ v) = cs_frests σ := rfl
theorem zc_frests_scap (σ : CSt) (v : Nat) : cs_frests (cs_scap_s σ v) = cs_frests σ := rfl
theorem zc_frests_nc (σ : CSt) (v : Nat) : cs_frests (cs_nc_s σ v) = cs_frests σ := rfl
theorem zc_frests_ns (σ : CSt) (v : Nat) : cs_frests (cs_ns_s σ v) = cs_frests σ := rfl
theorem zc_fpen_cb (σ : CSt) (v : Int32) : cs_fpen (cs_cb_s σ v) = cs_fpen σ := rfl
theorem zc_fpen_cc (σ : CSt) (v : Int32) : cs_fpen (cs_cc_s σ v) = cs_fpen σ := rfl
theorem zc_fpen_cp (σ : CSt) (v : Int32) : cs_fpen (cs_cp_s σ v) = cs_fpen σ := rfl
theorem zc_fpen_ce (σ : CSt) (v : (Nat → Int32)) : cs_fpen (cs_ce_s σ v) = cs_fpen σ := rfl
theorem zc_fpen_cq (σ : CSt) (v : (Nat → Int32)) : cs_fpen (cs_cq_s σ v) = cs_fpen σ := rfl
theorem zc_fpen_cr (σ : CSt) (v : (Nat → Option RV)) : cs_fpen (cs_cr_s σ v) = cs_fpen σ := rfl
theorem zc_fpen_kb (σ : CSt) (v : (Nat → Int32)) : cs_fpen (cs_kb_s σ v) = cs_fpen σ := rfl
theorem zc_fpen_kc (σ : CSt) (v : (Nat → Int32)) : cs_fpen (cs_kc_s σ v) = cs_fpen σ := rfl
theorem zc_fpen_kp (σ : CSt) (v : (Nat → Int32)) : cs_fpen (cs_kp_s σ v) = cs_fpen σ := rfl
theorem zc_fpen_ke (σ : CSt) (v : (Nat → Nat → Int32)) : cs_fpen (cs_ke_s σ v) = cs_fpen σ := rfl
theorem zc_fpen_kq (σ : CSt) (v : (Nat → Nat → Int32)) : cs_fpen (cs_kq_s σ v) = cs_fpen σ := rfl
theorem zc_fpen_kr (σ : CSt) (v : (Nat → Nat → Option RV)) : cs_fpen (cs_kr_s σ v) = cs_fpen σ := rfl
theorem zc_fpen_hs (σ : CSt) (v : Int32) : cs_fpen (cs_hs_s σ v) = cs_fpen σ := rfl
theorem zc_fpen_ho (σ : CSt) (v : Int32) : cs_fpen (cs_ho_s σ v) = cs_fpen σ := rfl
theorem zc_fpen_run (σ : CSt) (v : Int32) : cs_fpen (cs_run_s σ v) = cs_fpen σ := rfl
theorem zc_fpen_frests (σ : CSt) (v : (Nat → Int32)) : cs_fpen (cs_frests_s σ v) = cs_fpen σ := rfl
theorem zc_fpen_fpen (σ : CSt) (v : Int32) : cs_fpen (cs_fpen_s σ v) = v := rfl
theorem zc_fpen_fstart (σ : CSt) (v : Int32) : cs_fpen (cs_fstart_s σ v) = cs_fpen σ := rfl
theorem zc_fpen_fss (σ : CSt) (v : Int32) : cs_fpen (cs_fss_s σ v) = cs_fpen σ := rfl
theorem zc_fpen_fgoal (σ : CSt) (v : Int32) : cs_fpen (cs_fgoal_s σ v) = cs_fpen σ := rfl
theorem zc_fpen_fgs (σ : CSt) (v : Int32) : cs_fpen (cs_fgs_s σ v) = cs_fpen σ := rfl
theorem zc_fpen_fcx (σ : CSt) (v : (Nat → Int32)) : cs_fpen (cs_fcx_s σ v) = cs_fpen σ := rfl
theorem zc_fpen_fcy (σ : CSt) (v : (Nat → Int32)) : cs_fpen (cs_fcy_s σ v) = cs_fpen σ := rfl
theorem zc_fpen_fcn (σ : CSt) (v : Int32) : cs_fpen (cs_fcn_s σ v) = cs_fpen σ := rfl
theorem zc_fpen_gx (σ : CSt) (v : (Nat → Int32)) : cs_fpen (cs_gx_s σ v) = cs_fpen σ := rfl
theorem zc_fpen_gy (σ : CSt) (v : (Nat → Int32)) : cs_fpen (cs_gy_s σ v) = cs_fpen σ := rfl
theorem zc_fpen_gc (σ : CSt) (v : Int32) : cs_fpen (cs_gc_s σ v) = cs_fpen σ := rfl
theorem zc_fpen_gr (σ : CSt) (v : Int32) : cs_fpen (cs_gr_s σ v) = cs_fpen σ := rfl
theorem zc_fpen_goR (σ : CSt) (v : (Nat → Int32)) : cs_fpen (cs_goR_s σ v) = cs_fpen σ := rfl
theorem zc_fpen_goD (σ : CSt) (v : (Nat → Int32)) : cs_fpen (cs_goD_s σ v) = cs_fpen σ := rfl
theorem zc_fpen_wre (σ : CSt) (v : Int32) : cs_fpen (cs_wre_s σ v) = cs_fpen σ := rfl
theorem zc_fpen_whd (σ : CSt) (v : (Nat → Int32)) : cs_fpen (cs_whd_s σ v) = cs_fpen σ := rfl
theorem zc_fpen_wnx (σ : CSt) (v : (Nat → Int32)) : cs_fpen (cs_wnx_s σ v) = cs_fpen σ := rfl
theorem zc_fpen_wpv (σ : CSt) (v : (Nat → Int32)) : cs_fpen (cs_wpv_s σ v) = cs_fpen σ := rfl
theorem zc_fpen_bs (σ : CSt) (v : Int32) : cs_fpen (cs_bs_s σ v) = cs_fpen σ := rfl
theorem zc_fpen_bo (σ : CSt) (v : Int32) : cs_fpen (cs_bo_s σ v) = cs_fpen σ := rfl
theorem zc_fpen_bst (σ : CSt) (v : (Nat → Int32)) : cs_fpen (cs_bst_s σ v) = cs_fpen σ := rfl
theorem zc_fpen_ben (σ : CSt) (v : (Nat → Int32)) : cs_fpen (cs_ben_s σ v) = cs_fpen σ := rfl
theorem zc_fpen_bpu (σ : CSt) (v : (Nat → Int32)) : cs_fpen (cs_bpu_s σ v) = cs_fpen σ := rfl
theorem zc_fpen_bla (σ : CSt) (v : (Nat → Int32)) : cs_fpen (cs_bla_s σ v) = cs_fpen σ := rfl
theorem zc_fpen_bre (σ : CSt) (v : (Nat → Int32)) : cs_fpen (cs_bre_s σ v) = cs_fpen σ := rfl
theorem zc_fpen_tl (σ : CSt) (v : Int32) : cs_fpen (cs_tl_s σ v) = cs_fpen σ := rfl
theorem zc_fpen_tb (σ : CSt) (v : (Nat → Int32)) : cs_fpen (cs_tb_s σ v) = cs_fpen σ := rfl
theorem zc_fpen_tw (σ : CSt) (v : Int32) : cs_fpen (cs_tw_s σ v) = cs_fpen σ := rfl
theorem zc_fpen_tn (σ : CSt) (v : (Nat → Int32)) : cs_fpen (cs_tn_s σ v) = cs_fpen σ := rfl
theorem zc_fpen_tc (σ : CSt) (v : Int32) : cs_fpen (cs_tc_s σ v) = cs_fpen σ := rfl
theorem zc_fpen_te (σ : CSt) (v : Int32) : cs_fpen (cs_te_s σ v) = cs_fpen σ := rfl
theorem zc_fpen_tf (σ : CSt) (v : Int32) : cs_fpen (cs_tf_s σ v) = cs_fpen σ := rfl
theorem zc_fpen_sct (σ : CSt) (v : Int32) : cs_fpen (cs_sct_s σ v) = cs_fpen σ := rfl
theorem zc_fpen_sml (σ : CSt) (v : Int32) : cs_fpen (cs_sml_s σ v) = cs_fpen σ := rfl
theorem zc_fpen_sv (σ : CSt) (v : (Nat → Int32)) : cs_fpen (cs_sv_s σ v) = cs_fpen σ := rfl
theorem zc_fpen_scap (σ : CSt) (v : Nat) : cs_fpen (cs_scap_s σ v) = cs_fpen σ := rfl
theorem zc_fpen_nc (σ : CSt) (v : Nat) : cs_fpen (cs_nc_s σ v) = cs_fpen σ := rfl
theorem zc_fpen_ns (σ : CSt) (v : Nat) : cs_fpen (cs_ns_s σ v) = cs_fpen σ := rfl
theorem zc_fstart_cb (σ : CSt) (v : Int32) : cs_fstart (cs_cb_s σ v) = cs_fstart σ := rfl
theorem zc_fstart_cc (σ : CSt) (v : Int32) : cs_fstart (cs_cc_s σ v) = cs_fstart σ := rfl
theorem zc_fstart_cp (σ : CSt) (v : Int32) : cs_fstart (cs_cp_s σ v) = cs_fstart σ := rfl
theorem zc_fstart_ce (σ : CSt) (v : (Nat → Int32)) : cs_fstart (cs_ce_s σ v) = cs_fstart σ := rfl
theorem zc_fstart_cq (σ : CSt) (v : (Nat → Int32)) : cs_fstart (cs_cq_s σ v) = cs_fstart σ := rfl
theorem zc_fstart_cr (σ : CSt) (v : (Nat → Option RV)) : cs_fstart (cs_cr_s σ v) = cs_fstart σ := rfl
theorem zc_fstart_kb (σ : CSt) (v : (Nat → Int32)) : cs_fstart (cs_kb_s σ v) = cs_fstart σ := rfl
theorem zc_fstart_kc (σ : CSt) (v : (Nat → Int32)) : cs_fstart (cs_kc_s σ v) = cs_fstart σ := rfl
theorem zc_fstart_kp (σ : CSt) (v : (Nat → Int32)) : cs_fstart (cs_kp_s σ v) = cs_fstart σ := rfl
theorem zc_fstart_ke (σ : CSt) (v : (Nat → Nat → Int32)) : cs_fstart (cs_ke_s σ v) = cs_fstart σ := rfl
theorem zc_fstart_kq (σ : CSt) (v : (Nat → Nat → Int32)) : cs_fstart (cs_kq_s σ v) = cs_fstart σ := rfl
theorem zc_fstart_kr (σ : CSt) (v : (Nat → Nat → Option RV)) : cs_fstart (cs_kr_s σ v) = cs_fstart σ := rfl
theorem zc_fstart_hs (σ : CSt) (v : Int32) : cs_fstart (cs_hs_s σ v) = cs_fstart σ := rfl
theorem zc_fstart_ho (σ : CSt) (v : Int32) : cs_fstart (cs_ho_s σ v) = cs_fstart σ := rfl
theorem zc_fstart_run (σ : CSt) (v : Int32) : cs_fstart (cs_run_s σ v) = cs_fstart σ := rfl
theorem zc_fstart_frests (σ : CSt) (v : (Nat → Int32)) : cs_fstart (cs_frests_s σ v) = cs_fstart σ := rfl
theorem zc_fstart_fpen (σ : CSt) (v : Int32) : cs_fstart (cs_fpen_s σ v) = cs_fstart σ := rfl
theorem zc_fstart_fstart (σ : CSt) (v : Int32) : cs_fstart (cs_fstart_s σ v) = v := rfl
theorem zc_fstart_fss (σ : CSt) (v : Int32) : cs_fstart (cs_fss_s σ v) = cs_fstart σ := rfl
theorem zc_fstart_fgoal (σ : CSt) (v : Int32) : cs_fstart (cs_fgoal_s σ v) = cs_fstart σ := rfl
theorem zc_fstart_fgs (σ : CSt) (v : Int32) : cs_fstart (cs_fgs_s σ v) = cs_fstart σ := rfl
theorem zc_fstart_fcx (σ : CSt) (v : (Nat → Int32)) : cs_fstart (cs_fcx_s σ v) = cs_fstart σ := rfl
theorem zc_fstart_fcy (σ : CSt) (v : (Nat → Int32)) : cs_fstart (cs_fcy_s σ v) = cs_fstart σ := rfl
theorem zc_fstart_fcn (σ : CSt) (v : Int32) : cs_fstart (cs_fcn_s σ v) = cs_fstart σ := rfl
theorem zc_fstart_gx (σ : CSt) (v : (Nat → Int32)) : cs_fstart (cs_gx_s σ v) = cs_fstart σ := rfl
theorem zc_fstart_gy (σ : CSt) (v : (Nat → Int32)) : cs_fstart (cs_gy_s σ v) = cs_fstart σ := rfl
theorem zc_fstart_gc (σ : CSt) (v : Int32) : cs_fstart (cs_gc_s σ v) = cs_fstart σ := rfl
theorem zc_fstart_gr (σ : CSt) (v : Int32) : cs_fstart (cs_gr_s σ v) = cs_fstart σ := rfl
theorem zc_fstart_goR (σ : CSt) (v : (Nat → Int32)) : cs_fstart (cs_goR_s σ v) = cs_fstart σ := rfl
theorem zc_fstart_goD (σ : CSt) (v : (Nat → Int32)) : cs_fstart (cs_goD_s σ v) = cs_fstart σ := rfl
theorem zc_fstart_wre (σ : CSt) (v : Int32) : cs_fstart (cs_wre_s σ v) = cs_fstart σ := rfl
theorem zc_fstart_whd (σ : CSt) (v : (Nat → Int32)) : cs_fstart (cs_whd_s σ v) = cs_fstart σ := rfl
theorem zc_fstart_wnx (σ : CSt) (v : (Nat → Int32)) : cs_fstart (cs_wnx_s σ v) = cs_fstart σ := rfl
theorem zc_fstart_wpv (σ : CSt) (v : (Nat → Int32)) : cs_fstart (cs_wpv_s σ v) = cs_fstart σ := rfl
theorem zc_fstart_bs (σ : CSt) (v : Int32) : cs_fstart (cs_bs_s σ v) = cs_fstart σ := rfl
theorem zc_fstart_bo (σ : CSt) (v : Int32) : cs_fstart (cs_bo_s σ v) = cs_fstart σ := rfl
theorem zc_fstart_bst (σ : CSt) (v : (Nat → Int32)) : cs_fstart (cs_bst_s σ v) = cs_fstart σ := rfl
theorem zc_fstart_ben (σ : CSt) (v : (Nat → Int32)) : cs_fstart (cs_ben_s σ v) = cs_fstart σ := rfl
theorem zc_fstart_bpu (σ : CSt) (v : (Nat → Int32)) : cs_fstart (cs_bpu_s σ v) = cs_fstart σ := rfl
theorem zc_fstart_bla (σ : CSt) (v : (Nat → Int32)) : cs_fstart (cs_bla_s σ v) = cs_fstart σ := rfl
theorem zc_fstart_bre (σ : CSt) (v : (Nat → Int32)) : cs_fstart (cs_bre_s σ v) = cs_fstart σ := rfl
theorem zc_fstart_tl (σ : CSt) (v : Int32) : cs_fstart (cs_tl_s σ v) = cs_fstart σ := rfl
theorem zc_fstart_tb (σ : CSt) (v : (Nat → Int32)) : cs_fstart (cs_tb_s σ v) = cs_fstart σ := rfl
theorem zc_fstart_tw (σ : CSt) (v : Int32) : cs_fstart (cs_tw_s σ v) = cs_fstart σ := rfl
theorem zc_fstart_tn (σ : CSt) (v : (Nat → Int32)) : cs_fstart (cs_tn_s σ v) = cs_fstart σ := rfl
theorem zc_fstart_tc (σ : CSt) (v : Int32) : cs_fstart (cs_tc_s σ v) = cs_fstart σ := rfl
theorem zc_fstart_te (σ : CSt) (v : Int32) : cs_fstart (cs_te_s σ v) = cs_fstart σ := rfl
theorem zc_fstart_tf (σ : CSt) (v : Int32) : cs_fstart (cs_tf_s σ v) = cs_fstart σ := rfl
theorem zc_fstart_sct (σ : CSt) (v : Int32) : cs_fstart (cs_sct_s σ v) = cs_fstart σ := rfl
theorem zc_fstart_sml (σ : CSt) (v : Int32) : cs_fstart (cs_sml_s σ v) = cs_fstart σ := rfl
theorem zc_fstart_sv (σ : CSt) (v : (Nat → Int32)) : cs_fstart (cs_sv_s σ v) = cs_fstart σ := rfl
theorem zc_fstart_scap (σ : CSt) (v : Nat) : cs_fstart (cs_scap_s σ v) = cs_fstart σ := rfl
theorem zc_fstart_nc (σ : CSt) (v : Nat) : cs_fstart (cs_nc_s σ v) = cs_fstart σ := rfl
theorem zc_fstart_ns (σ : CSt) (v : Nat) : cs_fstart (cs_ns_s σ v) = cs_fstart σ := rfl
theorem zc_fss_cb (σ : CSt) (v : Int32) : cs_fss (cs_cb_s σ v) = cs_fss σ := rfl
theorem zc_fss_cc (σ : CSt) (v : Int32) : cs_fss (cs_cc_s σ v) = cs_fss σ := rfl
theorem zc_fss_cp (σ : CSt) (v : Int32) : cs_fss (cs_cp_s σ v) = cs_fss σ := rfl
theorem zc_fss_ce (σ : CSt) (v : (Nat → Int32)) : cs_fss (cs_ce_s σ v) = cs_fss σ := rfl
theorem zc_fss_cq (σ : CSt) (v : (Nat → Int32)) : cs_fss (cs_cq_s σ v) = cs_fss σ := rfl
theorem zc_fss_cr (σ : CSt) (v : (Nat → Option RV)) : cs_fss (cs_cr_s σ v) = cs_fss σ := rfl
theorem zc_fss_kb (σ : CSt) (v : (Nat → Int32)) : cs_fss (cs_kb_s σ v) = cs_fss σ := rfl
theorem zc_fss_kc (σ : CSt) (v : (Nat → Int32)) : cs_fss (cs_kc_s σ v) = cs_fss σ := rfl
theorem zc_fss_kp (σ : CSt) (v : (Nat → Int32)) : cs_fss (cs_kp_s σ v) = cs_fss σ := rfl
theorem zc_fss_ke (σ : CSt) (v : (Nat → Nat → Int32)) : cs_fss (cs_ke_s σ v) = cs_fss σ := rfl
theorem zc_fss_kq (σ : CSt) (v : (Nat → Nat → Int32)) : cs_fss (cs_kq_s σ v) = cs_fss σ := rfl
theorem zc_fss_kr (σ : CSt) (v : (Nat → Nat → Option RV)) : cs_fss (cs_kr_s σ v) = cs_fss σ := rfl
theorem zc_fss_hs (σ : CSt) (v : Int32) : cs_fss (cs_hs_s σ v) = cs_fss σ := rfl
theorem zc_fss_ho (σ : CSt) (v : Int32) : cs_fss (cs_ho_s σ v) = cs_fss σ := rfl
theorem zc_fss_run (σ : CSt) (v : Int32) : cs_fss (cs_run_s σ v) = cs_fss σ := rfl
theorem zc_fss_frests (σ : CSt) (v : (Nat → Int32)) : cs_fss (cs_frests_s σ v) = cs_fss σ := rfl
theorem zc_fss_fpen (σ : CSt) (v : Int32) : cs_fss (cs_fpen_s σ v) = cs_fss σ := rfl
theorem zc_fss_fstart (σ : CSt) (v : Int32) : cs_fss (cs_fstart_s σ v) = cs_fss σ := rfl
theorem zc_fss_fss (σ : CSt) (v : Int32) : cs_fss (cs_fss_s σ v) = v := rfl
theorem zc_fss_fgoal (σ : CSt) (v : Int32) : cs_fss (cs_fgoal_s σ v) = cs_fss σ := rfl
theorem zc_fss_fgs (σ : CSt) (v : Int32) : cs_fss (cs_fgs_s σ v) = cs_fss σ := rfl
theorem zc_fss_fcx (σ : CSt) (v : (Nat → Int32)) : cs_fss (cs_fcx_s σ v) = cs_fss σ := rfl
theorem zc_fss_fcy (σ : CSt) (v : (Nat → Int32)) : cs_fss (cs_fcy_s σ v) = cs_fss σ := rfl
theorem zc_fss_fcn (σ : CSt) (v : Int32) : cs_fss (cs_fcn_s σ v) = cs_fss σ := rfl
theorem zc_fss_gx (σ : CSt) (v : (Nat → Int32)) : cs_fss (cs_gx_s σ v) = cs_fss σ := rfl
theorem zc_fss_gy (σ : CSt) (v : (Nat → Int32)) : cs_fss (cs_gy_s σ v) = cs_fss σ := rfl
theorem zc_fss_gc (σ : CSt) (v : Int32) : cs_fss (cs_gc_s σ v) = cs_fss σ := rfl
theorem zc_fss_gr (σ : CSt) (v : Int32) : cs_fss (cs_gr_s σ v) = cs_fss σ := rfl
theorem zc_fss_goR (σ : CSt) (v : (Nat → Int32)) : cs_fss (cs_goR_s σ v) = cs_fss σ := rfl
theorem zc_fss_goD (σ : CSt) (v : (Nat → Int32)) : cs_fss (cs_goD_s σ v) = cs_fss σ := rfl
theorem zc_fss_wre (σ : CSt) (v : Int32) : cs_fss (cs_wre_s σ v) = cs_fss σ := rfl
theorem zc_fss_whd (σ : CSt) (v : (Nat → Int32)) : cs_fss (cs_whd_s σ v) = cs_fss σ := rfl
theorem zc_fss_wnx (σ : CSt) (v : (Nat → Int32)) : cs_fss (cs_wnx_s σ v) = cs_fss σ := rfl
theorem zc_fss_wpv (σ : CSt) (v : (Nat → Int32)) : cs_fss (cs_wpv_s σ v) = cs_fss σ := rfl
theorem zc_fss_bs (σ : CSt) (v : Int32) : cs_fss (cs_bs_s σ v) = cs_fss σ := rfl
theorem zc_fss_bo (σ : CSt) (v : Int32) : cs_fss (cs_bo_s σ v) = cs_fss σ := rfl
theorem zc_fss_bst (σ : CSt) (v : (Nat → Int32)) : cs_fss (cs_bst_s σ v) = cs_fss σ := rfl
theorem zc_fss_ben (σ : CSt) (v : (Nat → Int32)) : cs_fss (cs_ben_s σ v) = cs_fss σ := rfl
theorem zc_fss_bpu (σ : CSt) (v : (Nat → Int32)) : cs_fss (cs_bpu_s σ v) = cs_fss σ := rfl
theorem zc_fss_bla (σ : CSt) (v : (Nat → Int32)) : cs_fss (cs_bla_s σ v) = cs_fss σ := rfl
theorem zc_fss_bre (σ : CSt) (v : (Nat → Int32)) : cs_fss (cs_bre_s σ v) = cs_fss σ := rfl
theorem zc_fss_tl (σ : CSt) (v : Int32) : cs_fss (cs_tl_s σ v) = cs_fss σ := rfl
theorem zc_fss_tb (σ : CSt) (v : (Nat → Int32)) : cs_fss (cs_tb_s σ v) = cs_fss σ := rfl
theorem zc_fss_tw (σ : CSt) (v : Int32) : cs_fss (cs_tw_s σ v) = cs_fss σ := rfl
theorem zc_fss_tn (σ : CSt) (v : (Nat → Int32)) : cs_fss (cs_tn_s σ v) = cs_fss σ := rfl
theorem zc_fss_tc (σ : CSt) (v : Int32) : cs_fss (cs_tc_s σ v) = cs_fss σ := rfl
theorem zc_fss_te (σ : CSt) (v : Int32) : cs_fss (cs_te_s σ v) = cs_fss σ := rfl
theorem zc_fss_tf (σ : CSt) (v : Int32) : cs_fss (cs_tf_s σ v) = cs_fss σ := rfl
theorem zc_fss_sct (σ : CSt) (v : Int32) : cs_fss (cs_sct_s σ v) = cs_fss σ := rfl
theorem zc_fss_sml (σ : CSt) (v : Int32) : cs_fss (cs_sml_s σ v) = cs_fss σ := rfl
theorem zc_fss_sv (σ : CSt) (v : (Nat → Int32)) : cs_fss (cs_sv_s σ v) = cs_fss σ := rfl
theorem zc_fss_scap (σ : CSt) (v : Nat) : cs_fss (cs_scap_s σ v) = cs_fss σ := rfl
theorem zc_fss_nc (σ : CSt) (v : Nat) : cs_fss (cs_nc_s σ v) = cs_fss σ := rfl
theorem zc_fss_ns (σ : CSt) (v : Nat) : cs_fss (cs_ns_s σ v) = cs_fss σ := rfl
theorem zc_fgoal_cb (σ : CSt) (v : Int32) : cs_fgoal (cs_cb_s σ v) = cs_fgoal σ := rfl
theorem zc_fgoal_cc (σ : CSt) (v : Int32) : cs_fgoal (cs_cc_s σ v) = cs_fgoal σ := rfl
theorem zc_fgoal_cp (σ : CSt) (v : Int32) : cs_fgoal (cs_cp_s σ v) = cs_fgoal σ := rfl
theorem zc_fgoal_ce (σ : CSt) (v : (Nat → Int32)) : cs_fgoal (cs_ce_s σ v) = cs_fgoal σ := rfl
theorem zc_fgoal_cq (σ : CSt) (v : (Nat → Int32)) : cs_fgoal (cs_cq_s σ v) = cs_fgoal σ := rfl
theorem zc_fgoal_cr (σ : CSt) (v : (Nat → Option RV)) : cs_fgoal (cs_cr_s σ v) = cs_fgoal σ := rfl
theorem zc_fgoal_kb (σ : CSt) (v : (Nat → Int32)) : cs_fgoal (cs_kb_s σ v) = cs_fgoal σ := rfl
theorem zc_fgoal_kc (σ : CSt) (v : (Nat → Int32)) : cs_fgoal (cs_kc_s σ v) = cs_fgoal σ := rfl
theorem zc_fgoal_kp (σ : CSt) (v : (Nat → Int32)) : cs_fgoal (cs_kp_s σ v) = cs_fgoal σ := rfl
theorem zc_fgoal_ke (σ : CSt) (v : (Nat → Nat → Int32)) : cs_fgoal (cs_ke_s σ v) = cs_fgoal σ := rfl
theorem zc_fgoal_kq (σ : CSt) (v : (Nat → Nat → Int32)) : cs_fgoal (cs_kq_s σ v) = cs_fgoal σ := rfl
theorem zc_fgoal_kr (σ : CSt) (v : (Nat → Nat → Option RV)) : cs_fgoal (cs_kr_s σ v) = cs_fgoal σ := rfl
theorem zc_fgoal_hs (σ : CSt) (v : Int32) : cs_fgoal (cs_hs_s σ v) = cs_fgoal σ := rfl
theorem zc_fgoal_ho (σ : CSt) (v : Int32) : cs_fgoal (cs_ho_s σ v) = cs_fgoal σ := rfl
theorem zc_fgoal_run (σ : CSt) (v : Int32) : cs_fgoal (cs_run_s σ v) = cs_fgoal σ := rfl
theorem zc_fgoal_frests (σ : CSt) (v : (Nat → Int32)) : cs_fgoal (cs_frests_s σ v) = cs_fgoal σ := rfl
theorem zc_fgoal_fpen (σ : CSt) (v : Int32) : cs_fgoal (cs_fpen_s σ v) = cs_fgoal σ := rfl
theorem zc_fgoal_fstart (σ : CSt) (v : Int32) : cs_fgoal (cs_fstart_s σ v) = cs_fgoal σ := rfl
theorem zc_fgoal_fss (σ : CSt) (v : Int32) : cs_fgoal (cs_fss_s σ v) = cs_fgoal σ := rfl
theorem zc_fgoal_fgoal (σ : CSt) (v : Int32) : cs_fgoal (cs_fgoal_s σ v) = v := rfl
theorem zc_fgoal_fgs (σ : CSt) (v : Int32) : cs_fgoal (cs_fgs_s σ v) = cs_fgoal σ := rfl
theorem zc_fgoal_fcx (σ : CSt) (v : (Nat → Int32)) : cs_fgoal (cs_fcx_s σ v) = cs_fgoal σ := rfl
theorem zc_fgoal_fcy (σ : CSt) (v : (Nat → Int32)) : cs_fgoal (cs_fcy_s σ v) = cs_fgoal σ := rfl
theorem zc_fgoal_fcn (σ : CSt) (v : Int32) : cs_fgoal (cs_fcn_s σ v) = cs_fgoal σ := rfl
theorem zc_fgoal_gx (σ : CSt) (v : (Nat → Int32)) : cs_fgoal (cs_gx_s σ v) = cs_fgoal σ := rfl
theorem zc_fgoal_gy (σ : CSt) (v : (Nat → Int32)) : cs_fgoal (cs_gy_s σ v) = cs_fgoal σ := rfl
theorem zc_fgoal_gc (σ : CSt) (v : Int32) : cs_fgoal (cs_gc_s σ v) = cs_fgoal σ := rfl
theorem zc_fgoal_gr (σ : CSt) (v : Int32) : cs_fgoal (cs_gr_s σ v) = cs_fgoal σ := rfl
theorem zc_fgoal_goR (σ : CSt) (v : (Nat → Int32)) : cs_fgoal (cs_goR_s σ v) = cs_fgoal σ := rfl
theorem zc_fgoal_goD (σ : CSt) (v : (Nat → Int32)) : cs_fgoal (cs_goD_s σ v) = cs_fgoal σ := rfl
theorem zc_fgoal_wre (σ : CSt) (v : Int32) : cs_fgoal (cs_wre_s σ v) = cs_fgoal σ := rfl
theorem zc_fgoal_whd (σ : CSt) (v : (Nat → Int32)) : cs_fgoal (cs_whd_s σ v) = cs_fgoal σ := rfl
theorem zc_fgoal_wnx (σ : CSt) (v : (Nat → Int32)) : cs_fgoal (cs_wnx_s σ v) = cs_fgoal σ := rfl
theorem zc_fgoal_wpv (σ : CSt) (v : (Nat → Int32)) : cs_fgoal (cs_wpv_s σ v) = cs_fgoal σ := rfl
theorem zc_fgoal_bs (σ : CSt) (v : Int32) : cs_fgoal (cs_bs_s σ v) = cs_fgoal σ := rfl
theorem zc_fgoal_bo (σ : CSt) (v : Int32) : cs_fgoal (cs_bo_s σ v) = cs_fgoal σ := rfl
theorem zc_fgoal_bst (σ : CSt) (v : (Nat → Int32)) : cs_fgoal (cs_bst_s σ v) = cs_fgoal σ := rfl
theorem zc_fgoal_ben (σ : CSt) (v : (Nat → Int32)) : cs_fgoal (cs_ben_s σ v) = cs_fgoal σ := rfl
theorem zc_fgoal_bpu (σ : CSt) (v : (Nat → Int32)) : cs_fgoal (cs_bpu_s σ v) = cs_fgoal σ := rfl
theorem zc_fgoal_bla (σ : CSt) (v : (Nat → Int32)) : cs_fgoal (cs_bla_s σ v) = cs_fgoal σ := rfl
theorem zc_fgoal_bre (σ : CSt) (v : (Nat → Int32)) : cs_fgoal (cs_bre_s σ v) = cs_fgoal σ := rfl
theorem zc_fgoal_tl (σ : CSt) (v : Int32) : cs_fgoal (cs_tl_s σ v) = cs_fgoal σ := rfl
theorem zc_fgoal_tb (σ : CSt) (v : (Nat → Int32)) : cs_fgoal (cs_tb_s σ v) = cs_fgoal σ := rfl
theorem zc_fgoal_tw (σ : CSt) (v : Int32) : cs_fgoal (cs_tw_s σ v) = cs_fgoal σ := rfl
theorem zc_fgoal_tn (σ : CSt) (v : (Nat → Int32)) : cs_fgoal (cs_tn_s σ v) = cs_fgoal σ := rfl
theorem zc_fgoal_tc (σ : CSt) (v : Int32) : cs_fgoal (cs_tc_s σ v) = cs_fgoal σ := rfl
theorem zc_fgoal_te (σ : CSt) (v : Int32) : cs_fgoal (cs_te_s σ v) = cs_fgoal σ := rfl
theorem zc_fgoal_tf (σ : CSt) (v : Int32) : cs_fgoal (cs_tf_s σ v) = cs_fgoal σ := rfl
theorem zc_fgoal_sct (σ : CSt) (v : Int32) : cs_fgoal (cs_sct_s σ v) = cs_fgoal σ := rfl
theorem zc_fgoal_sml (σ : CSt) (v : Int32) : cs_fgoal (cs_sml_s σ v) = cs_fgoal σ := rfl
theorem zc_fgoal_sv (σ : CSt) (v : (Nat → Int32)) : cs_fgoal (cs_sv_s σ v) = cs_fgoal σ := rfl
theorem zc_fgoal_scap (σ : CSt) (v : Nat) : cs_fgoal (cs_scap_s σ v) = cs_fgoal σ := rfl
theorem zc_fgoal_nc (σ : CSt) (v : Nat) : cs_fgoal (cs_nc_s σ v) = cs_fgoal σ := rfl
theorem zc_fgoal_ns (σ : CSt) (v : Nat) : cs_fgoal (cs_ns_s σ v) = cs_fgoal σ := rfl
theorem zc_fgs_cb (σ : CSt) (v : Int32) : cs_fgs (cs_cb_s σ v) = cs_fgs σ := rfl
theorem zc_fgs_cc (σ : CSt) (v : Int32) : cs_fgs (cs_cc_s σ v) = cs_fgs σ := rfl
theorem zc_fgs_cp (σ : CSt) (v : Int32) : cs_fgs (cs_cp_s σ v) = cs_fgs σ := rfl
theorem zc_fgs_ce (σ : CSt) (v : (Nat → Int32)) : cs_fgs (cs_ce_s σ v) = cs_fgs σ := rfl
theorem zc_fgs_cq (σ : CSt) (v : (Nat → Int32)) : cs_fgs (cs_cq_s σ v) = cs_fgs σ := rfl
theorem zc_fgs_cr (σ : CSt) (v : (Nat → Option RV)) : cs_fgs (cs_cr_s σ v) = cs_fgs σ := rfl
theorem zc_fgs_kb (σ : CSt) (v : (Nat → Int32)) : cs_fgs (cs_kb_s σ v) = cs_fgs σ := rfl
theorem zc_fgs_kc (σ : CSt) (v : (Nat → Int32)) : cs_fgs (cs_kc_s σ v) = cs_fgs σ := rfl
theorem zc_fgs_kp (σ : CSt) (v : (Nat → Int32)) : cs_fgs (cs_kp_s σ v) = cs_fgs σ := rfl
theorem zc_fgs_ke (σ : CSt) (v : (Nat → Nat → Int32)) : cs_fgs (cs_ke_s σ v) = cs_fgs σ := rfl
theorem zc_fgs_kq (σ : CSt) (v : (Nat → Nat → Int32)) : cs_fgs (cs_kq_s σ v) = cs_fgs σ := rfl
theorem zc_fgs_kr (σ : CSt) (v : (Nat → Nat → Option RV)) : cs_fgs (cs_kr_s σ v) = cs_fgs σ := rfl
theorem zc_fgs_hs (σ : CSt) (v : Int32) : cs_fgs (cs_hs_s σ v) = cs_fgs σ := rfl
theorem zc_fgs_ho (σ : CSt) (v : Int32) : cs_fgs (cs_ho_s σ v) = cs_fgs σ := rfl
theorem zc_fgs_run (σ : CSt) (v : Int32) : cs_fgs (cs_run_s σ v) = cs_fgs σ := rfl
theorem zc_fgs_frests (σ : CSt) (v : (Nat → Int32)) : cs_fgs (cs_frests_s σ v) = cs_fgs σ := rfl
theorem zc_fgs_fpen (σ : CSt) (v : Int32) : cs_fgs (cs_fpen_s σ v) = cs_fgs σ := rfl
theorem zc_fgs_fstart (σ : CSt) (v : Int32) : cs_fgs (cs_fstart_s σ v) = cs_fgs σ := rfl
theorem zc_fgs_fss (σ : CSt) (v : Int32) : cs_fgs (cs_fss_s σ v) = cs_fgs σ := rfl
theorem zc_fgs_fgoal (σ : CSt) (v : Int32) : cs_fgs (cs_fgoal_s σ v) = cs_fgs σ := rfl
theorem zc_fgs_fgs (σ : CSt) (v : Int32) : cs_fgs (cs_fgs_s σ v) = v := rfl
theorem zc_fgs_fcx (σ : CSt) (v : (Nat → Int32)) : cs_fgs (cs_fcx_s σ v) = cs_fgs σ := rfl
theorem zc_fgs_fcy (σ : CSt) (v : (Nat → Int32)) : cs_fgs (cs_fcy_s σ v) = cs_fgs σ := rfl
theorem zc_fgs_fcn (σ : CSt) (v : Int32) : cs_fgs (cs_fcn_s σ v) = cs_fgs σ := rfl
theorem zc_fgs_gx (σ : CSt) (v : (Nat → Int32)) : cs_fgs (cs_gx_s σ v) = cs_fgs σ := rfl
theorem zc_fgs_gy (σ : CSt) (v : (Nat → Int32)) : cs_fgs (cs_gy_s σ v) = cs_fgs σ := rfl
theorem zc_fgs_gc (σ : CSt) (v : Int32) : cs_fgs (cs_gc_s σ v) = cs_fgs σ := rfl
theorem zc_fgs_gr (σ : CSt) (v : Int32) : cs_fgs (cs_gr_s σ v) = cs_fgs σ := rfl
theorem zc_fgs_goR (σ : CSt) (v : (Nat → Int32)) : cs_fgs (cs_goR_s σ v) = cs_fgs σ := rfl
theorem zc_fgs_goD (σ : CSt) (v : (Nat → Int32)) : cs_fgs (cs_goD_s σ v) = cs_fgs σ := rfl
theorem zc_fgs_wre (σ : CSt) (v : Int32) : cs_fgs (cs_wre_s σ v) = cs_fgs σ := rfl
theorem zc_fgs_whd (σ : CSt) (v : (Nat → Int32)) : cs_fgs (cs_whd_s σ v) = cs_fgs σ := rfl
theorem zc_fgs_wnx (σ : CSt) (v : (Nat → Int32)) : cs_fgs (cs_wnx_s σ v) = cs_fgs σ := rfl
theorem zc_fgs_wpv (σ : CSt) (v : (Nat → Int32)) : cs_fgs (cs_wpv_s σ v) = cs_fgs σ := rfl
theorem zc_fgs_bs (σ : CSt) (v : Int32) : cs_fgs (cs_bs_s σ v) = cs_fgs σ := rfl
theorem zc_fgs_bo (σ : CSt) (v : Int32) : cs_fgs (cs_bo_s σ v) = cs_fgs σ := rfl
theorem zc_fgs_bst (σ : CSt) (v : (Nat → Int32)) : cs_fgs (cs_bst_s σ v) = cs_fgs σ := rfl
theorem zc_fgs_ben (σ : CSt) (v : (Nat → Int32)) : cs_fgs (cs_ben_s σ v) = cs_fgs σ := rfl
theorem zc_fgs_bpu (σ : CSt) (v : (Nat → Int32)) : cs_fgs (cs_bpu_s σ v) = cs_fgs σ := rfl
theorem zc_fgs_bla (σ : CSt) (v : (Nat → Int32)) : cs_fgs (cs_bla_s σ v) = cs_fgs σ := rfl
theorem zc_fgs_bre (σ : CSt) (v : (Nat → Int32)) : cs_fgs (cs_bre_s σ v) = cs_fgs σ := rfl
theorem zc_fgs_tl (σ : CSt) (v : Int32) : cs_fgs (cs_tl_s σ v) = cs_fgs σ := rfl
theorem zc_fgs_tb (σ : CSt) (v : (Nat → Int32)) : cs_fgs (cs_tb_s σ v) = cs_fgs σ := rfl
theorem zc_fgs_tw (σ : CSt) (v : Int32) : cs_fgs (cs_tw_s σ v) = cs_fgs σ := rfl
theorem zc_fgs_tn (σ : CSt) (v : (Nat → Int32)) : cs_fgs (cs_tn_s σ v) = cs_fgs σ := rfl
theorem zc_fgs_tc (σ : CSt) (v : Int32) : cs_fgs (cs_tc_s σ v) = cs_fgs σ := rfl
theorem zc_fgs_te (σ : CSt) (v : Int32) : cs_fgs (cs_te_s σ v) = cs_fgs σ := rfl
theorem zc_fgs_tf (σ : CSt) (v : Int32) : cs_fgs (cs_tf_s σ v) = cs_fgs σ := rfl
theorem zc_fgs_sct (σ : CSt) (v : Int32) : cs_fgs (cs_sct_s σ v) = cs_fgs σ := rfl
theorem zc_fgs_sml (σ : CSt) (v : Int32) : cs_fgs (cs_sml_s σ v) = cs_fgs σ := rfl
theorem zc_fgs_sv (σ : CSt) (v : (Nat → Int32)) : cs_fgs (cs_sv_s σ v) = cs_fgs σ := rfl
theorem zc_fgs_scap (σ : CSt) (v : Nat) : cs_fgs (cs_scap_s σ v) = cs_fgs σ := rfl
theorem zc_fgs_nc (σ : CSt) (v : Nat) : cs_fgs (cs_nc_s σ v) = cs_fgs σ := rfl
theorem zc_fgs_ns (σ : CSt) (v : Nat) : cs_fgs (cs_ns_s σ v) = cs_fgs σ := rfl
theorem zc_fcx_cb (σ : CSt) (v : Int32) : cs_fcx (cs_cb_s σ v) = cs_fcx σ := rfl
theorem zc_fcx_cc (σ : CSt) (v : Int32) : cs_fcx (cs_cc_s σ v) = cs_fcx σ := rfl
theorem zc_fcx_cp (σ : CSt) (v : Int32) : cs_fcx (cs_cp_s σ v) = cs_fcx σ := rfl
theorem zc_fcx_ce (σ : CSt) (v : (Nat → Int32)) : cs_fcx (cs_ce_s σ v) = cs_fcx σ := rfl
theorem zc_fcx_cq (σ : CSt) (v : (Nat → Int32)) : cs_fcx (cs_cq_s σ v) = cs_fcx σ := rfl
theorem zc_fcx_cr (σ : CSt) (v : (Nat → Option RV)) : cs_fcx (cs_cr_s σ v) = cs_fcx σ := rfl
theorem zc_fcx_kb (σ : CSt) (v : (Nat → Int32)) : cs_fcx (cs_kb_s σ v) = cs_fcx σ := rfl
theorem zc_fcx_kc (σ : CSt) (v : (Nat → Int32)) : cs_fcx (cs_kc_s σ v) = cs_fcx σ := rfl
theorem zc_fcx_kp (σ : CSt) (v : (Nat → Int32)) : cs_fcx (cs_kp_s σ v) = cs_fcx σ := rfl
theorem zc_fcx_ke (σ : CSt) (v : (Nat → Nat → Int32)) : cs_fcx (cs_ke_s σ v) = cs_fcx σ := rfl
theorem zc_fcx_kq (σ : CSt) (v : (Nat → Nat → Int32)) : cs_fcx (cs_kq_s σ v) = cs_fcx σ := rfl
theorem zc_fcx_kr (σ : CSt) (v : (Nat → Nat → Option RV)) : cs_fcx (cs_kr_s σ v) = cs_fcx σ := rfl
theorem zc_fcx_hs (σ : CSt) (v : Int32) : cs_fcx (cs_hs_s σ v) = cs_fcx σ := rfl
theorem zc_fcx_ho (σ : CSt) (v : Int32) : cs_fcx (cs_ho_s σ v) = cs_fcx σ := rfl
theorem zc_fcx_run (σ : CSt) (v : Int32) : cs_fcx (cs_run_s σ v) = cs_fcx σ := rfl
theorem zc_fcx_frests (σ : CSt) (v : (Nat → Int32)) : cs_fcx (cs_frests_s σ v) = cs_fcx σ := rfl
theorem zc_fcx_fpen (σ : CSt) (v : Int32) : cs_fcx (cs_fpen_s σ v) = cs_fcx σ := rfl
theorem zc_fcx_fstart (σ : CSt) (v : Int32) : cs_fcx (cs_fstart_s σ v) = cs_fcx σ := rfl
theorem zc_fcx_fss (σ : CSt) (v : Int32) : cs_fcx (cs_fss_s σ v) = cs_fcx σ := rfl
theorem zc_fcx_fgoal (σ : CSt) (v : Int32) : cs_fcx (cs_fgoal_s σ v) = cs_fcx σ := rfl
theorem zc_fcx_fgs (σ : CSt) (v : Int32) : cs_fcx (cs_fgs_s σ v) = cs_fcx σ := rfl
theorem zc_fcx_fcx (σ : CSt) (v : (Nat → Int32)) : cs_fcx (cs_fcx_s σ v) = v := rfl
theorem zc_fcx_fcy (σ : CSt) (v : (Nat → Int32)) : cs_fcx (cs_fcy_s σ v) = cs_fcx σ := rfl
theorem zc_fcx_fcn (σ : CSt) (v : Int32) : cs_fcx (cs_fcn_s σ v) = cs_fcx σ := rfl
theorem zc_fcx_gx (σ : CSt) (v : (Nat → Int32)) : cs_fcx (cs_gx_s σ v) = cs_fcx σ := rfl
theorem zc_fcx_gy (σ : CSt) (v : (Nat → Int32)) : cs_fcx (cs_gy_s σ v) = cs_fcx σ := rfl
theorem zc_fcx_gc (σ : CSt) (v : Int32) : cs_fcx (cs_gc_s σ v) = cs_fcx σ := rfl
theorem zc_fcx_gr (σ : CSt) (v : Int32) : cs_fcx (cs_gr_s σ v) = cs_fcx σ := rfl
theorem zc_fcx_goR (σ : CSt) (v : (Nat → Int32)) : cs_fcx (cs_goR_s σ v) = cs_fcx σ := rfl
theorem zc_fcx_goD (σ : CSt) (v : (Nat → Int32)) : cs_fcx (cs_goD_s σ v) = cs_fcx σ := rfl
theorem zc_fcx_wre (σ : CSt) (v : Int32) : cs_fcx (cs_wre_s σ v) = cs_fcx σ := rfl
theorem zc_fcx_whd (σ : CSt) (v : (Nat → Int32)) : cs_fcx (cs_whd_s σ v) = cs_fcx σ := rfl
theorem zc_fcx_wnx (σ : CSt) (v : (Nat → Int32)) : cs_fcx (cs_wnx_s σ v) = cs_fcx σ := rfl
theorem zc_fcx_wpv (σ : CSt) (v : (Nat → Int32)) : cs_fcx (cs_wpv_s σ v) = cs_fcx σ := rfl
theorem zc_fcx_bs (σ : CSt) (v : Int32) : cs_fcx (cs_bs_s σ v) = cs_fcx σ := rfl
theorem zc_fcx_bo (σ : CSt) (v : Int32) : cs_fcx (cs_bo_s σ v) = cs_fcx σ := rfl
theorem zc_fcx_bst (σ : CSt) (v : (Nat → Int32)) : cs_fcx (cs_bst_s σ v) = cs_fcx σ := rfl
theorem zc_fcx_ben (σ : CSt) (v : (Nat → Int32)) : cs_fcx (cs_ben_s σ v) = cs_fcx σ := rfl
theorem zc_fcx_bpu (σ : CSt) (v : (Nat → Int32)) : cs_fcx (cs_bpu_s σ v) = cs_fcx σ := rfl
theorem zc_fcx_bla (σ : CSt) (v : (Nat → Int32)) : cs_fcx (cs_bla_s σ v) = cs_fcx σ := rfl
theorem zc_fcx_bre (σ : CSt) (v : (Nat → Int32)) : cs_fcx (cs_bre_s σ v) = cs_fcx σ := rfl
theorem zc_fcx_tl (σ : CSt) (v : Int32) : cs_fcx (cs_tl_s σ v) = cs_fcx σ := rfl
theorem zc_fcx_tb (σ : CSt) (v : (Nat → Int32)) : cs_fcx (cs_tb_s σ v) = cs_fcx σ := rfl
theorem zc_fcx_tw (σ : CSt) (v : Int32) : cs_fcx (cs_tw_s σ v) = cs_fcx σ := rfl
theorem zc_fcx_tn (σ : CSt) (v : (Nat → Int32)) : cs_fcx (cs_tn_s σ v) = cs_fcx σ := rfl
theorem zc_fcx_tc (σ : CSt) (v : Int32) : cs_fcx (cs_tc_s σ v) = cs_fcx σ := rfl
theorem zc_fcx_te (σ : CSt) (v : Int32) : cs_fcx (cs_te_s σ v) = cs_fcx σ := rfl
theorem zc_fcx_tf (σ : CSt) (v : Int32) : cs_fcx (cs_tf_s σ v) = cs_fcx σ := rfl
theorem zc_fcx_sct (σ : CSt) (v : Int32) : cs_fcx (cs_sct_s σ v) = cs_fcx σ := rfl
theorem zc_fcx_sml (σ : CSt) (v : Int32) : cs_fcx (cs_sml_s σ v) = cs_fcx σ := rfl
theorem zc_fcx_sv (σ : CSt) (v : (Nat → Int32)) : cs_fcx (cs_sv_s σ v) = cs_fcx σ := rfl
theorem zc_fcx_scap (σ : CSt) (v : Nat) : cs_fcx (cs_scap_s σ v) = cs_fcx σ := rfl
theorem zc_fcx_nc (σ : CSt) (v : Nat) : cs_fcx (cs_nc_s σ v) = cs_fcx σ := rfl
theorem zc_fcx_ns (σ : CSt) (v : Nat) : cs_fcx (cs_ns_s σ v) = cs_fcx σ := rfl
theorem zc_fcy_cb (σ : CSt) (v : Int32) : cs_fcy (cs_cb_s σ v) = cs_fcy σ := rfl
theorem zc_fcy_cc (σ : CSt) (v : Int32) : cs_fcy (cs_cc_s σ v) = cs_fcy σ := rfl
theorem zc_fcy_cp (σ : CSt) (v : Int32) : cs_fcy (cs_cp_s σ v) = cs_fcy σ := rfl
theorem zc_fcy_ce (σ : CSt) (v : (Nat → Int32)) : cs_fcy (cs_ce_s σ v) = cs_fcy σ := rfl
theorem zc_fcy_cq (σ : CSt) (v : (Nat → Int32)) : cs_fcy (cs_cq_s σ v) = cs_fcy σ := rfl
theorem zc_fcy_cr (σ : CSt) (v : (Nat → Option RV)) : cs_fcy (cs_cr_s σ v) = cs_fcy σ := rfl
theorem zc_fcy_kb (σ : CSt) (v : (Nat → Int32)) : cs_fcy (cs_kb_s σ v) = cs_fcy σ := rfl
theorem zc_fcy_kc (σ : CSt) (v : (Nat → Int32)) : cs_fcy (cs_kc_s σ v) = cs_fcy σ := rfl
theorem zc_fcy_kp (σ : CSt) (v : (Nat → Int32)) : cs_fcy (cs_kp_s σ v) = cs_fcy σ := rfl
theorem zc_fcy_ke (σ : CSt) (v : (Nat → Nat → Int32)) : cs_fcy (cs_ke_s σ v) = cs_fcy σ := rfl
theorem zc_fcy_kq (σ : CSt) (v : (Nat → Nat → Int32)) : cs_fcy (cs_kq_s σ v) = cs_fcy σ := rfl
theorem zc_fcy_kr (σ : CSt) (v : (Nat → Nat → Option RV)) : cs_fcy (cs_kr_s σ v) = cs_fcy σ := rfl
theorem zc_fcy_hs (σ : CSt) (v : Int32) : cs_fcy (cs_hs_s σ v) = cs_fcy σ := rfl
theorem zc_fcy_ho (σ : CSt) (v : Int32) : cs_fcy (cs_ho_s σ v) = cs_fcy σ := rfl
theorem zc_fcy_run (σ : CSt) (v : Int32) : cs_fcy (cs_run_s σ v) = cs_fcy σ := rfl
theorem zc_fcy_frests (σ : CSt) (v : (Nat → Int32)) : cs_fcy (cs_frests_s σ v) = cs_fcy σ := rfl
theorem zc_fcy_fpen (σ : CSt) (v : Int32) : cs_fcy (cs_fpen_s σ v) = cs_fcy σ := rfl
theorem zc_fcy_fstart (σ : CSt) (v : Int32) : cs_fcy (cs_fstart_s σ v) = cs_fcy σ := rfl
theorem zc_fcy_fss (σ : CSt) (v : Int32) : cs_fcy (cs_fss_s σ v) = cs_fcy σ := rfl
theorem zc_fcy_fgoal (σ : CSt) (v : Int32) : cs_fcy (cs_fgoal_s σ v) = cs_fcy σ := rfl
theorem zc_fcy_fgs (σ : CSt) (v : Int32) : cs_fcy (cs_fgs_s σ v) = cs_fcy σ := rfl
theorem zc_fcy_fcx (σ : CSt) (v : (Nat → Int32)) : cs_fcy (cs_fcx_s σ v) = cs_fcy σ := rfl
theorem zc_fcy_fcy (σ : CSt) (v : (Nat → Int32)) : cs_fcy (cs_fcy_s σ v) = v := rfl
theorem zc_fcy_fcn (σ : CSt) (v : Int32) : cs_fcy (cs_fcn_s σ v) = cs_fcy σ := rfl
theorem zc_fcy_gx (σ : CSt) (v : (Nat → Int32)) : cs_fcy (cs_gx_s σ v) = cs_fcy σ := rfl
theorem zc_fcy_gy (σ : CSt) (v : (Nat → Int32)) : cs_fcy (cs_gy_s σ v) = cs_fcy σ := rfl
theorem zc_fcy_gc (σ : CSt) (v : Int32) : cs_fcy (cs_gc_s σ v) = cs_fcy σ := rfl
theorem zc_fcy_gr (σ : CSt) (v : Int32) : cs_fcy (cs_gr_s σ v) = cs_fcy σ := rfl
theorem zc_fcy_goR (σ : CSt) (v : (Nat → Int32)) : cs_fcy (cs_goR_s σ v) = cs_fcy σ := rfl
theorem zc_fcy_goD (σ : CSt) (v : (Nat → Int32)) : cs_fcy (cs_goD_s σ v) = cs_fcy σ := rfl
theorem zc_fcy_wre (σ : CSt) (v : Int32) : cs_fcy (cs_wre_s σ v) = cs_fcy σ := rfl
theorem zc_fcy_whd (σ : CSt) (v : (Nat → Int32)) : cs_fcy (cs_whd_s σ v) = cs_fcy σ := rfl
theorem zc_fcy_wnx (σ : CSt) (v : (Nat → Int32)) : cs_fcy (cs_wnx_s σ v) = cs_fcy σ := rfl
theorem zc_fcy_wpv (σ : CSt) (v : (Nat → Int32)) : cs_fcy (cs_wpv_s σ v) = cs_fcy σ := rfl
theorem zc_fcy_bs (σ : CSt) (v : Int32) : cs_fcy (cs_bs_s σ v) = cs_fcy σ := rfl
theorem zc_fcy_bo (σ : CSt) (v : Int32) : cs_fcy (cs_bo_s σ v) = cs_fcy σ := rfl
theorem zc_fcy_bst (σ : CSt) (v : (Nat → Int32)) : cs_fcy (cs_bst_s σ v) = cs_fcy σ := rfl
theorem zc_fcy_ben (σ : CSt) (v : (Nat → Int32)) : cs_fcy (cs_ben_s σ v) = cs_fcy σ := rfl
theorem zc_fcy_bpu (σ : CSt) (v : (Nat → Int32)) : cs_fcy (cs_bpu_s σ v) = cs_fcy σ := rfl
theorem zc_fcy_bla (σ : CSt) (v : (Nat → Int32)) : cs_fcy (cs_bla_s σ v) = cs_fcy σ := rfl
theorem zc_fcy_bre (σ : CSt) (v : (Nat → Int32)) : cs_fcy (cs_bre_s σ v) = cs_fcy σ := rfl
theorem zc_fcy_tl (σ : CSt) (v : Int32) : cs_fcy (cs_tl_s σ v) = cs_fcy σ := rfl
theorem zc_fcy_tb (σ : CSt) (v : (Nat → Int32)) : cs_fcy (cs_tb_s σ v) = cs_fcy σ := rfl
theorem zc_fcy_tw (σ : CSt) (v : Int32) : cs_fcy (cs_tw_s σ v) = cs_fcy σ := rfl
theorem zc_fcy_tn (σ : CSt) (v : (Nat → Int32)) : cs_fcy (cs_tn_s σ v) = cs_fcy σ := rfl
theorem zc_fcy_tc (σ : CSt) (v : Int32) : cs_fcy (cs_tc_s σ v) = cs_fcy σ := rfl
theorem zc_fcy_te (σ : CSt) (v : Int32) : cs_fcy (cs_te_s σ v) = cs_fcy σ := rfl
theorem zc_fcy_tf (σ : CSt) (v : Int32) : cs_fcy (cs_tf_s σ v) = cs_fcy σ := rfl
theorem zc_fcy_sct (σ : CSt) (v : Int32) : cs_fcy (cs_sct_s σ v) = cs_fcy σ := rfl
theorem zc_fcy_sml (σ : CSt) (v : Int32) : cs_fcy (cs_sml_s σ v) = cs_fcy σ := rfl
theorem zc_fcy_sv (σ : CSt) (v : (Nat → Int32)) : cs_fcy (cs_sv_s σ v) = cs_fcy σ := rfl
theorem zc_fcy_scap (σ : CSt) (v : Nat) : cs_fcy (cs_scap_s σ v) = cs_fcy σ := rfl
theorem zc_fcy_nc (σ : CSt) (v : Nat) : cs_fcy (cs_nc_s σ v) = cs_fcy σ := rfl
theorem zc_fcy_ns (σ : CSt) (v : Nat) : cs_fcy (cs_ns_s σ v) = cs_fcy σ := rfl
theorem zc_fcn_cb (σ : CSt) (v : Int32) : cs_fcn (cs_cb_s σ v) = cs_fcn σ := rfl
theorem zc_fcn_cc (σ : CSt) (v : Int32) : cs_fcn (cs_cc_s σ v) = cs_fcn σ := rfl
theorem zc_fcn_cp (σ : CSt) (v : Int32) : cs_fcn (cs_cp_s σ v) = cs_fcn σ := rfl
theorem zc_fcn_ce (σ : CSt) (v : (Nat → Int32)) : cs_fcn (cs_ce_s σ v) = cs_fcn σ := rfl
theorem zc_fcn_cq (σ : CSt) (v : (Nat → Int32)) : cs_fcn (cs_cq_s σ v) = cs_fcn σ := rfl
theorem zc_fcn_cr (σ : CSt) (v : (Nat → Option RV)) : cs_fcn (cs_cr_s σ v) = cs_fcn σ := rfl
theorem zc_fcn_kb (σ : CSt) (v : (Nat → Int32)) : cs_fcn (cs_kb_s σ v) = cs_fcn σ := rfl
theorem zc_fcn_kc (σ : CSt) (v : (Nat → Int32)) : cs_fcn (cs_kc_s σ v) = cs_fcn σ := rfl
theorem zc_fcn_kp (σ : CSt) (v : (Nat → Int32)) : cs_fcn (cs_kp_s σ v) = cs_fcn σ := rfl
theorem zc_fcn_ke (σ : CSt) (v : (Nat → Nat → Int32)) : cs_fcn (cs_ke_s σ v) = cs_fcn σ := rfl
theorem zc_fcn_kq (σ : CSt) (v : (Nat → Nat → Int32)) : cs_fcn (cs_kq_s σ v) = cs_fcn σ := rfl
theorem zc_fcn_kr (σ : CSt) (v : (Nat → Nat → Option RV)) : cs_fcn (cs_kr_s σ v) = cs_fcn σ := rfl
theorem zc_fcn_hs (σ : CSt) (v : Int32) : cs_fcn (cs_hs_s σ v) = cs_fcn σ := rfl
theorem zc_fcn_ho (σ : CSt) (v : Int32) : cs_fcn (cs_ho_s σ v) = cs_fcn σ := rfl
theorem zc_fcn_run (σ : CSt) (v : Int32) : cs_fcn (cs_run_s σ v) = cs_fcn σ := rfl
theorem zc_fcn_frests (σ : CSt) (v : (Nat → Int32)) : cs_fcn (cs_frests_s σ v) = cs_fcn σ := rfl
theorem zc_fcn_fpen (σ : CSt) (v : Int32) : cs_fcn (cs_fpen_s σ v) = cs_fcn σ := rfl
theorem zc_fcn_fstart (σ : CSt) (v : Int32) : cs_fcn (cs_fstart_s σ v) = cs_fcn σ := rfl
theorem zc_fcn_fss (σ : CSt) (v : Int32) : cs_fcn (cs_fss_s σ v) = cs_fcn σ := rfl
theorem zc_fcn_fgoal (σ : CSt) (v : Int32) : cs_fcn (cs_fgoal_s σ v) = cs_fcn σ := rfl
theorem zc_fcn_fgs (σ : CSt) (v : Int32) : cs_fcn (cs_fgs_s σ v) = cs_fcn σ := rfl
theorem zc_fcn_fcx (σ : CSt) (v : (Nat → Int32)) : cs_fcn (cs_fcx_s σ v) = cs_fcn σ := rfl
theorem zc_fcn_fcy (σ : CSt) (v : (Nat → Int32)) : cs_fcn (cs_fcy_s σ v) = cs_fcn σ := rfl
theorem zc_fcn_fcn (σ : CSt) (v : Int32) : cs_fcn (cs_fcn_s σ v) = v := rfl
theorem zc_fcn_gx (σ : CSt) (v : (Nat → Int32)) : cs_fcn (cs_gx_s σ v) = cs_fcn σ := rfl
theorem zc_fcn_gy (σ : CSt) (v : (Nat → Int32)) : cs_fcn (cs_gy_s σ v) = cs_fcn σ := rfl
theorem zc_fcn_gc (σ : CSt) (v : Int32) : cs_fcn (cs_gc_s σ v) = cs_fcn σ := rfl
theorem zc_fcn_gr (σ : CSt) (v : Int32) : cs_fcn (cs_gr_s σ v) = cs_fcn σ := rfl
theorem zc_fcn_goR (σ : CSt) (v : (Nat → Int32)) : cs_fcn (cs_goR_s σ v) = cs_fcn σ := rfl
theorem zc_fcn_goD (σ : CSt) (v : (Nat → Int32)) : cs_fcn (cs_goD_s σ v) = cs_fcn σ := rfl
theorem zc_fcn_wre (σ : CSt) (v : Int32) : cs_fcn (cs_wre_s σ v) = cs_fcn σ := rfl
theorem zc_fcn_whd (σ : CSt) (v : (Nat → Int32)) : cs_fcn (cs_whd_s σ v) = cs_fcn σ := rfl
theorem zc_fcn_wnx (σ : CSt) (v : (Nat → Int32)) : cs_fcn (cs_wnx_s σ v) = cs_fcn σ := rfl
theorem zc_fcn_wpv (σ : CSt) (v : (Nat → Int32)) : cs_fcn (cs_wpv_s σ v) = cs_fcn σ := rfl
theorem zc_fcn_bs (σ : CSt) (v : Int32) : cs_fcn (cs_bs_s σ v) = cs_fcn σ := rfl
theorem zc_fcn_bo (σ : CSt) (v : Int32) : cs_fcn (cs_bo_s σ v) = cs_fcn σ := rfl
theorem zc_fcn_bst (σ : CSt) (v : (Nat → Int32)) : cs_fcn (cs_bst_s σ v) = cs_fcn σ := rfl
theorem zc_fcn_ben (σ : CSt) (v : (Nat → Int32)) : cs_fcn (cs_ben_s σ v) = cs_fcn σ := rfl
theorem zc_fcn_bpu (σ : CSt) (v : (Nat → Int32)) : cs_fcn (cs_bpu_s σ v) = cs_fcn σ := rfl
theorem zc_fcn_bla (σ : CSt) (v : (Nat → Int32)) : cs_fcn (cs_bla_s σ v) = cs_fcn σ := rfl
theorem zc_fcn_bre (σ : CSt) (v : (Nat → Int32)) : cs_fcn (cs_bre_s σ v) = cs_fcn σ := rfl
theorem zc_fcn_tl (σ : CSt) (v : Int32) : cs_fcn (cs_tl_s σ v) = cs_fcn σ := rfl
theorem zc_fcn_tb (σ : CSt) (v : (Nat → Int32)) : cs_fcn (cs_tb_s σ v) = cs_fcn σ := rfl
theorem zc_fcn_tw (σ : CSt) (v : Int32) : cs_fcn (cs_tw_s σ v) = cs_fcn σ := rfl
theorem zc_fcn_tn (σ : CSt) (v : (Nat → Int32)) : cs_fcn (cs_tn_s σ v) = cs_fcn σ := rfl
theorem zc_fcn_tc (σ : CSt) (v : Int32) : cs_fcn (cs_tc_s σ v) = cs_fcn σ := rfl
theorem zc_fcn_te (σ : CSt) (v : Int32) : cs_fcn (cs_te_s σ v) = cs_fcn σ := rfl
theorem zc_fcn_tf (σ : CSt) (v : Int32) : cs_fcn (cs_tf_s σ v) = cs_fcn σ := rfl
theorem zc_fcn_sct (σ : CSt) (v : Int32) : cs_fcn (cs_sct_s σ v) = cs_fcn σ := rfl
theorem zc_fcn_sml (σ : CSt) (v : Int32) : cs_fcn (cs_sml_s σ v) = cs_fcn σ := rfl
theorem zc_fcn_sv (σ : CSt) (v : (Nat → Int32)) : cs_fcn (cs_sv_s σ v) = cs_fcn σ := rfl
theorem zc_fcn_scap (σ : CSt) (v : Nat) : cs_fcn (cs_scap_s σ v) = cs_fcn σ := rfl
theorem zc_fcn_nc (σ : CSt) (v : Nat) : cs_fcn (cs_nc_s σ v) = cs_fcn σ := rfl
theorem zc_fcn_ns (σ : CSt) (v : Nat) : cs_fcn (cs_ns_s σ v) = cs_fcn σ := rfl
theorem zc_gx_cb (σ : CSt) (v : Int32) : cs_gx (cs_cb_s σ v) = cs_gx σ := rfl
theorem zc_gx_cc (σ : CSt) (v : Int32) : cs_gx (cs_cc_s σ v) = cs_gx σ := rfl
theorem zc_gx_cp (σ : CSt) (v : Int32) : cs_gx (cs_cp_s σ v) = cs_gx σ := rfl
theorem zc_gx_ce (σ : CSt) (v : (Nat → Int32)) : cs_gx (cs_ce_s σ v) = cs_gx σ := rfl
theorem zc_gx_cq (σ : CSt) (v : (Nat → Int32)) : cs_gx (cs_cq_s σ v) = cs_gx σ := rfl
theorem zc_gx_cr (σ : CSt) (v : (Nat → Option RV)) : cs_gx (cs_cr_s σ v) = cs_gx σ := rfl
theorem zc_gx_kb (σ : CSt) (v : (Nat → Int32)) : cs_gx (cs_kb_s σ v) = cs_gx σ := rfl
theorem zc_gx_kc (σ : CSt) (v : (Nat → Int32)) : cs_gx (cs_kc_s σ v) = cs_gx σ := rfl
theorem zc_gx_kp (σ : CSt) (v : (Nat → Int32)) : cs_gx (cs_kp_s σ v) = cs_gx σ := rfl
theorem zc_gx_ke (σ : CSt) (v : (Nat → Nat → Int32)) : cs_gx (cs_ke_s σ v) = cs_gx σ := rfl
theorem zc_gx_kq (σ : CSt) (v : (Nat → Nat → Int32)) : cs_gx (cs_kq_s σ v) = cs_gx σ := rfl
theorem zc_gx_kr (σ : CSt) (v : (Nat → Nat → Option RV)) : cs_gx (cs_kr_s σ v) = cs_gx σ := rfl
theorem zc_gx_hs (σ : CSt) (v : Int32) : cs_gx (cs_hs_s σ v) = cs_gx σ := rfl
theorem zc_gx_ho (σ : CSt) (v : Int32) : cs_gx (cs_ho_s σ v) = cs_gx σ := rfl
theorem zc_gx_run (σ : CSt) (v : Int32) : cs_gx (cs_run_s σ v) = cs_gx σ := rfl
theorem zc_gx_frests (σ : CSt) (v : (Nat → Int32)) : cs_gx (cs_frests_s σ v) = cs_gx σ := rfl
theorem zc_gx_fpen (σ : CSt) (v : Int32) : cs_gx (cs_fpen_s σ v) = cs_gx σ := rfl
theorem zc_gx_fstart (σ : CSt) (v : Int32) : cs_gx (cs_fstart_s σ v) = cs_gx σ := rfl
theorem zc_gx_fss (σ : CSt) (v : Int32) : cs_gx (cs_fss_s σ v) = cs_gx σ := rfl
theorem zc_gx_fgoal (σ : CSt) (v : Int32) : cs_gx (cs_fgoal_s σ v) = cs_gx σ := rfl
theorem zc_gx_fgs (σ : CSt) (v : Int32) : cs_gx (cs_fgs_s σ v) = cs_gx σ := rfl
theorem zc_gx_fcx (σ : CSt) (v : (Nat → Int32)) : cs_gx (cs_fcx_s σ v) = cs_gx σ := rfl
theorem zc_gx_fcy (σ : CSt) (v : (Nat → Int32)) : cs_gx (cs_fcy_s σ v) = cs_gx σ := rfl
theorem zc_gx_fcn (σ : CSt) (v : Int32) : cs_gx (cs_fcn_s σ v) = cs_gx σ := rfl
theorem zc_gx_gx (σ : CSt) (v : (Nat → Int32)) : cs_gx (cs_gx_s σ v) = v := rfl
theorem zc_gx_gy (σ : CSt) (v : (Nat → Int32)) : cs_gx (cs_gy_s σ v) = cs_gx σ := rfl
theorem zc_gx_gc (σ : CSt) (v : Int32) : cs_gx (cs_gc_s σ v) = cs_gx σ := rfl
theorem zc_gx_gr (σ : CSt) (v : Int32) : cs_gx (cs_gr_s σ v) = cs_gx σ := rfl
theorem zc_gx_goR (σ : CSt) (v : (Nat → Int32)) : cs_gx (cs_goR_s σ v) = cs_gx σ := rfl
theorem zc_gx_goD (σ : CSt) (v : (Nat → Int32)) : cs_gx (cs_goD_s σ v) = cs_gx σ := rfl
theorem zc_gx_wre (σ : CSt) (v : Int32) : cs_gx (cs_wre_s σ v) = cs_gx σ := rfl
theorem zc_gx_whd (σ : CSt) (v : (Nat → Int32)) : cs_gx (cs_whd_s σ v) = cs_gx σ := rfl
theorem zc_gx_wnx (σ : CSt) (v : (Nat → Int32)) : cs_gx (cs_wnx_s σ v) = cs_gx σ := rfl
theorem zc_gx_wpv (σ : CSt) (v : (Nat → Int32)) : cs_gx (cs_wpv_s σ v) = cs_gx σ := rfl
theorem zc_gx_bs (σ : CSt) (v : Int32) : cs_gx (cs_bs_s σ v) = cs_gx σ := rfl
theorem zc_gx_bo (σ : CSt) (v : Int32) : cs_gx (cs_bo_s σ v) = cs_gx σ := rfl
theorem zc_gx_bst (σ : CSt) (v : (Nat → Int32)) : cs_gx (cs_bst_s σ v) = cs_gx σ := rfl
theorem zc_gx_ben (σ : CSt) (v : (Nat → Int32)) : cs_gx (cs_ben_s σ v) = cs_gx σ := rfl
theorem zc_gx_bpu (σ : CSt) (v : (Nat → Int32)) : cs_gx (cs_bpu_s σ v) = cs_gx σ := rfl
theorem zc_gx_bla (σ : CSt) (v : (Nat → Int32)) : cs_gx (cs_bla_s σ v) = cs_gx σ := rfl
theorem zc_gx_bre (σ : CSt) (v : (Nat → Int32)) : cs_gx (cs_bre_s σ v) = cs_gx σ := rfl
theorem zc_gx_tl (σ : CSt) (v : Int32) : cs_gx (cs_tl_s σ v) = cs_gx σ := rfl
theorem zc_gx_tb (σ : CSt) (v : (Nat → Int32)) : cs_gx (cs_tb_s σ v) = cs_gx σ := rfl
theorem zc_gx_tw (σ : CSt) (v : Int32) : cs_gx (cs_tw_s σ v) = cs_gx σ := rfl
theorem zc_gx_tn (σ : CSt) (v : (Nat → Int32)) : cs_gx (cs_tn_s σ v) = cs_gx σ := rfl
theorem zc_gx_tc (σ : CSt) (v : Int32) : cs_gx (cs_tc_s σ v) = cs_gx σ := rfl
theorem zc_gx_te (σ : CSt) (v : Int32) : cs_gx (cs_te_s σ v) = cs_gx σ := rfl
theorem zc_gx_tf (σ : CSt) (v : Int32) : cs_gx (cs_tf_s σ v) = cs_gx σ := rfl
theorem zc_gx_sct (σ : CSt) (v : Int32) : cs_gx (cs_sct_s σ v) = cs_gx σ := rfl
theorem zc_gx_sml (σ : CSt) (v : Int32) : cs_gx (cs_sml_s σ v) = cs_gx σ := rfl
theorem zc_gx_sv (σ : CSt) (v : (Nat → Int32)) : cs_gx (cs_sv_s σ v) = cs_gx σ := rfl
theorem zc_gx_scap (σ : CSt) (v : Nat) : cs_gx (cs_scap_s σ v) = cs_gx σ := rfl
theorem zc_gx_nc (σ : CSt) (v : Nat) : cs_gx (cs_nc_s σ v) = cs_gx σ := rfl
theorem zc_gx_ns (σ : CSt) (v : Nat) : cs_gx (cs_ns_s σ v) = cs_gx σ := rfl
theorem zc_gy_cb (σ : CSt) (v : Int32) : cs_gy (cs_cb_s σ v) = cs_gy σ := rfl
theorem zc_gy_cc (σ : CSt) (v : Int32) : cs_gy (cs_cc_s σ v) = cs_gy σ := rfl
theorem zc_gy_cp (σ : CSt) (v : Int32) : cs_gy (cs_cp_s σ v) = cs_gy σ := rfl
theorem zc_gy_ce (σ : CSt) (v : (Nat → Int32)) : cs_gy (cs_ce_s σ v) = cs_gy σ := rfl
theorem zc_gy_cq (σ : CSt) (v : (Nat → Int32)) : cs_gy (cs_cq_s σ v) = cs_gy σ := rfl
theorem zc_gy_cr (σ : CSt) (v : (Nat → Option RV)) : cs_gy (cs_cr_s σ v) = cs_gy σ := rfl
theorem zc_gy_kb (σ : CSt) (v : (Nat → Int32)) : cs_gy (cs_kb_s σ v) = cs_gy σ := rfl
theorem zc_gy_kc (σ : CSt) (v : (Nat → Int32)) : cs_gy (cs_kc_s σ v) = cs_gy σ := rfl
theorem zc_gy_kp (σ : CSt) (v : (Nat → Int32)) : cs_gy (cs_kp_s σ v) = cs_gy σ := rfl
theorem zc_gy_ke (σ : CSt) (v : (Nat → Nat → Int32)) : cs_gy (cs_ke_s σ v) = cs_gy σ := rfl
theorem zc_gy_kq (σ : CSt) (v : (Nat → Nat → Int32)) : cs_gy (cs_kq_s σ v) = cs_gy σ := rfl
theorem zc_gy_kr (σ : CSt) (v : (Nat → Nat → Option RV)) : cs_gy (cs_kr_s σ v) = cs_gy σ := rfl
theorem zc_gy_hs (σ : CSt) (v : Int32) : cs_gy (cs_hs_s σ v) = cs_gy σ := rfl
theorem zc_gy_ho (σ : CSt) (v : Int32) : cs_gy (cs_ho_s σ v) = cs_gy σ := rfl
theorem zc_gy_run (σ : CSt) (v : Int32) : cs_gy (cs_run_s σ v) = cs_gy σ := rfl
theorem zc_gy_frests (σ : CSt) (v : (Nat → Int32)) : cs_gy (cs_frests_s σ v) = cs_gy σ := rfl
theorem zc_gy_fpen (σ : CSt) (v : Int32) : cs_gy (cs_fpen_s σ v) = cs_gy σ := rfl
theorem zc_gy_fstart (σ : CSt) (v : Int32) : cs_gy (cs_fstart_s σ v) = cs_gy σ := rfl
theorem zc_gy_fss (σ : CSt) (v : Int32) : cs_gy (cs_fss_s σ v) = cs_gy σ := rfl
theorem zc_gy_fgoal (σ : CSt) (v : Int32) : cs_gy (cs_fgoal_s σ v) = cs_gy σ := rfl
theorem zc_gy_fgs (σ : CSt) (v : Int32) : cs_gy (cs_fgs_s σ v) = cs_gy σ := rfl
theorem zc_gy_fcx (σ : CSt) (v : (Nat → Int32)) : cs_gy (cs_fcx_s σ v) = cs_gy σ := rfl
theorem zc_gy_fcy (σ : CSt) (v : (Nat → Int32)) : cs_gy (cs_fcy_s σ v) = cs_gy σ := rfl
theorem zc_gy_fcn (σ : CSt) (v : Int32) : cs_gy (cs_fcn_s σ v) = cs_gy σ := rfl
theorem zc_gy_gx (σ : CSt) (v : (Nat → Int32)) : cs_gy (cs_gx_s σ v) = cs_gy σ := rfl
theorem zc_gy_gy (σ : CSt) (v : (Nat → Int32)) : cs_gy (cs_gy_s σ v) = v := rfl
theorem zc_gy_gc (σ : CSt) (v : Int32) : cs_gy (cs_gc_s σ v) = cs_gy σ := rfl
theorem zc_gy_gr (σ : CSt) (v : Int32) : cs_gy (cs_gr_s σ v) = cs_gy σ := rfl
theorem zc_gy_goR (σ : CSt) (v : (Nat → Int32)) : cs_gy (cs_goR_s σ v) = cs_gy σ := rfl
theorem zc_gy_goD (σ : CSt) (v : (Nat → Int32)) : cs_gy (cs_goD_s σ v) = cs_gy σ := rfl
theorem zc_gy_wre (σ : CSt) (v : Int32) : cs_gy (cs_wre_s σ v) = cs_gy σ := rfl
theorem zc_gy_whd (σ : CSt) (v : (Nat → Int32)) : cs_gy (cs_whd_s σ v) = cs_gy σ := rfl
theorem zc_gy_wnx (σ : CSt) (v : (Nat → Int32)) : cs_gy (cs_wnx_s σ v) = cs_gy σ := rfl
theorem zc_gy_wpv (σ : CSt) (v : (Nat → Int32)) : cs_gy (cs_wpv_s σ v) = cs_gy σ := rfl
theorem zc_gy_bs (σ : CSt) (v : Int32) : cs_gy (cs_bs_s σ v) = cs_gy σ := rfl
theorem zc_gy_bo (σ : CSt) (v : Int32) : cs_gy (cs_bo_s σ v) = cs_gy σ := rfl
theorem zc_gy_bst (σ : CSt) (v : (Nat → Int32)) : cs_gy (cs_bst_s σ v) = cs_gy σ := rfl
theorem zc_gy_ben (σ : CSt) (v : (Nat → Int32)) : cs_gy (cs_ben_s σ v) = cs_gy σ := rfl
theorem zc_gy_bpu (σ : CSt) (v : (Nat → Int32)) : cs_gy (cs_bpu_s σ v) = cs_gy σ := rfl
theorem zc_gy_bla (σ : CSt) (v : (Nat → Int32)) : cs_gy (cs_bla_s σ v) = cs_gy σ := rfl
theorem zc_gy_bre (σ : CSt) (v : (Nat → Int32)) : cs_gy (cs_bre_s σ v) = cs_gy σ := rfl
theorem zc_gy_tl (σ : CSt) (v : Int32) : cs_gy (cs_tl_s σ v) = cs_gy σ := rfl
theorem zc_gy_tb (σ : CSt) (v : (Nat → Int32)) : cs_gy (cs_tb_s σ v) = cs_gy σ := rfl
theorem zc_gy_tw (σ : CSt) (v : Int32) : cs_gy (cs_tw_s σ v) = cs_gy σ := rfl
theorem zc_gy_tn (σ : CSt) (v : (Nat → Int32)) : cs_gy (cs_tn_s σ v) = cs_gy σ := rfl
theorem zc_gy_tc (σ : CSt) (v : Int32) : cs_gy (cs_tc_s σ v) = cs_gy σ := rfl
theorem zc_gy_te (σ : CSt) (v : Int32) : cs_gy (cs_te_s σ v) = cs_gy σ := rfl
theorem zc_gy_tf (σ : CSt) (v : Int32) : cs_gy (cs_tf_s σ v) = cs_gy σ := rfl
theorem zc_gy_sct (σ : CSt) (v : Int32) : cs_gy (cs_sct_s σ v) = cs_gy σ := rfl
theorem zc_gy_sml (σ : CSt) (v : Int32) : cs_gy (cs_sml_s σ v) = cs_gy σ := rfl
theorem zc_gy_sv (σ : CSt) (v : (Nat → Int32)) : cs_gy (cs_sv_s σ v) = cs_gy σ := rfl
theorem zc_gy_scap (σ : CSt) (v : Nat) : cs_gy (cs_scap_s σ v) = cs_gy σ := rfl
theorem zc_gy_nc (σ : CSt) (v : Nat) : cs_gy (cs_nc_s σ v) = cs_gy σ := rfl
theorem zc_gy_ns (σ : CSt) (v : Nat) : cs_gy (cs_ns_s σ v) = cs_gy σ := rfl
theorem zc_gc_cb (σ : CSt) (v : Int32) : cs_gc (cs_cb_s σ v) = cs_gc σ := rfl
theorem zc_gc_cc (σ : CSt) (v : Int32) : cs_gc (cs_cc_s σ v) = cs_gc σ := rfl
theorem zc_gc_cp (σ : CSt) (v : Int32) : cs_gc (cs_cp_s σ v) = cs_gc σ := rfl
theorem zc_gc_ce (σ : CSt) (v : (Nat → Int32)) : cs_gc (cs_ce_s σ v) = cs_gc σ := rfl
theorem zc_gc_cq (σ : CSt) (v : (Nat → Int32)) : cs_gc (cs_cq_s σ v) = cs_gc σ := rfl
theorem zc_gc_cr (σ : CSt) (v : (Nat → Option RV)) : cs_gc (cs_cr_s σ v) = cs_gc σ := rfl
theorem zc_gc_kb (σ : CSt) (v : (Nat → Int32)) : cs_gc (cs_kb_s σ v) = cs_gc σ := rfl
theorem zc_gc_kc (σ : CSt) (v : (Nat → Int32)) : cs_gc (cs_kc_s σ v) = cs_gc σ := rfl
theorem zc_gc_kp (σ : CSt) (v : (Nat → Int32)) : cs_gc (cs_kp_s σ v) = cs_gc σ := rfl
theorem zc_gc_ke (σ : CSt) (v : (Nat → Nat → Int32)) : cs_gc (cs_ke_s σ v) = cs_gc σ := rfl
theorem zc_gc_kq (σ : CSt) (v : (Nat → Nat → Int32)) : cs_gc (cs_kq_s σ v) = cs_gc σ := rfl
theorem zc_gc_kr (σ : CSt) (v : (Nat → Nat → Option RV)) : cs_gc (cs_kr_s σ v) = cs_gc σ := rfl
theorem zc_gc_hs (σ : CSt) (v : Int32) : cs_gc (cs_hs_s σ v) = cs_gc σ := rfl
theorem zc_gc_ho (σ : CSt) (v : Int32) : cs_gc (cs_ho_s σ v) = cs_gc σ := rfl
theorem zc_gc_run (σ : CSt) (v : Int32) : cs_gc (cs_run_s σ v) = cs_gc σ := rfl
theorem zc_gc_frests (σ : CSt) (v : (Nat → Int32)) : cs_gc (cs_frests_s σ v) = cs_gc σ := rfl
theorem zc_gc_fpen (σ : CSt) (v : Int32) : cs_gc (cs_fpen_s σ v) = cs_gc σ := rfl
theorem zc_gc_fstart (σ : CSt) (v : Int32) : cs_gc (cs_fstart_s σ v) = cs_gc σ := rfl
theorem zc_gc_fss (σ : CSt) (v : Int32) : cs_gc (cs_fss_s σ v) = cs_gc σ := rfl
theorem zc_gc_fgoal (σ : CSt) (v : Int32) : cs_gc (cs_fgoal_s σ v) = cs_gc σ := rfl
theorem zc_gc_fgs (σ : CSt) (v : Int32) : cs_gc (cs_fgs_s σ v) = cs_gc σ := rfl
theorem zc_gc_fcx (σ : CSt) (v : (Nat → Int32)) : cs_gc (cs_fcx_s σ v) = cs_gc σ := rfl
theorem zc_gc_fcy (σ : CSt) (v : (Nat → Int32)) : cs_gc (cs_fcy_s σ v) = cs_gc σ := rfl
theorem zc_gc_fcn (σ : CSt) (v : Int32) : cs_gc (cs_fcn_s σ v) = cs_gc σ := rfl
theorem zc_gc_gx (σ : CSt) (v : (Nat → Int32)) : cs_gc (cs_gx_s σ v) = cs_gc σ := rfl
theorem zc_gc_gy (σ : CSt) (v : (Nat → Int32)) : cs_gc (cs_gy_s σ v) = cs_gc σ := rfl
theorem zc_gc_gc (σ : CSt) (v : Int32) : cs_gc (cs_gc_s σ v) = v := rfl
theorem zc_gc_gr (σ : CSt) (v : Int32) : cs_gc (cs_gr_s σ v) = cs_gc σ := rfl
theorem zc_gc_goR (σ : CSt) (v : (Nat → Int32)) : cs_gc (cs_goR_s σ v) = cs_gc σ := rfl
theorem zc_gc_goD (σ : CSt) (v : (Nat → Int32)) : cs_gc (cs_goD_s σ v) = cs_gc σ := rfl
theorem zc_gc_wre (σ : CSt) (v : Int32) : cs_gc (cs_wre_s σ v) = cs_gc σ := rfl
theorem zc_gc_whd (σ : CSt) (v : (Nat → Int32)) : cs_gc (cs_whd_s σ v) = cs_gc σ := rfl
theorem zc_gc_wnx (σ : CSt) (v : (Nat → Int32)) : cs_gc (cs_wnx_s σ v) = cs_gc σ := rfl
theorem zc_gc_wpv (σ : CSt) (v : (Nat → Int32)) : cs_gc (cs_wpv_s σ v) = cs_gc σ := rfl
theorem zc_gc_bs (σ : CSt) (v : Int32) : cs_gc (cs_bs_s σ v) = cs_gc σ := rfl
theorem zc_gc_bo (σ : CSt) (v : Int32) : cs_gc (cs_bo_s σ v) = cs_gc σ := rfl
theorem zc_gc_bst (σ : CSt) (v : (Nat → Int32)) : cs_gc (cs_bst_s σ v) = cs_gc σ := rfl
theorem zc_gc_ben (σ : CSt) (v : (Nat → Int32)) : cs_gc (cs_ben_s σ v) = cs_gc σ := rfl
theorem zc_gc_bpu (σ : CSt) (v : (Nat → Int32)) : cs_gc (cs_bpu_s σ v) = cs_gc σ := rfl
theorem zc_gc_bla (σ : CSt) (v : (Nat → Int32)) : cs_gc (cs_bla_s σ v) = cs_gc σ := rfl
theorem zc_gc_bre (σ : CSt) (v : (Nat → Int32)) : cs_gc (cs_bre_s σ v) = cs_gc σ := rfl
theorem zc_gc_tl (σ : CSt) (v : Int32) : cs_gc (cs_tl_s σ v) = cs_gc σ := rfl
theorem zc_gc_tb (σ : CSt) (v : (Nat → Int32)) : cs_gc (cs_tb_s σ v) = cs_gc σ := rfl
theorem zc_gc_tw (σ : CSt) (v : Int32) : cs_gc (cs_tw_s σ v) = cs_gc σ := rfl
theorem zc_gc_tn (σ : CSt) (v : (Nat → Int32)) : cs_gc (cs_tn_s σ v) = cs_gc σ := rfl
theorem zc_gc_tc (σ : CSt) (v : Int32) : cs_gc (cs_tc_s σ v) = cs_gc σ := rfl
theorem zc_gc_te (σ : CSt) (v : Int32) : cs_gc (cs_te_s σ v) = cs_gc σ := rfl
theorem zc_gc_tf (σ : CSt) (v : Int32) : cs_gc (cs_tf_s σ v) = cs_gc σ := rfl
theorem zc_gc_sct (σ : CSt) (v : Int32) : cs_gc (cs_sct_s σ v) = cs_gc σ := rfl
theorem zc_gc_sml (σ : CSt) (v : Int32) : cs_gc (cs_sml_s σ v) = cs_gc σ := rfl
theorem zc_gc_sv (σ : CSt) (v : (Nat → Int32)) : cs_gc (cs_sv_s σ v) = cs_gc σ := rfl
theorem zc_gc_scap (σ : CSt) (v : Nat) : cs_gc (cs_scap_s σ v) = cs_gc σ := rfl
theorem zc_gc_nc (σ : CSt) (v : Nat) : cs_gc (cs_nc_s σ v) = cs_gc σ := rfl
theorem zc_gc_ns (σ : CSt) (v : Nat) : cs_gc (cs_ns_s σ v) = cs_gc σ := rfl
theorem zc_gr_cb (σ : CSt) (v : Int32) : cs_gr (cs_cb_s σ v) = cs_gr σ := rfl
theorem zc_gr_cc (σ : CSt) (v : Int32) : cs_gr (cs_cc_s σ v) = cs_gr σ := rfl
theorem zc_gr_cp (σ : CSt) (v : Int32) : cs_gr (cs_cp_s σ v) = cs_gr σ := rfl
theorem zc_gr_ce (σ : CSt) (v : (Nat → Int32)) : cs_gr (cs_ce_s σ v) = cs_gr σ := rfl
theorem zc_gr_cq (σ : CSt) (v : (Nat → Int32)) : cs_gr (cs_cq_s σ v) = cs_gr σ := rfl
theorem zc_gr_cr (σ : CSt) (v : (Nat → Option RV)) : cs_gr (cs_cr_s σ v) = cs_gr σ := rfl
theorem zc_gr_kb (σ : CSt) (v : (Nat → Int32)) : cs_gr (cs_kb_s σ v) = cs_gr σ := rfl
theorem zc_gr_kc (σ : CSt) (v : (Nat → Int32)) : cs_gr (cs_kc_s σ v) = cs_gr σ := rfl
theorem zc_gr_kp (σ : CSt) (v : (Nat → Int32)) : cs_gr (cs_kp_s σ v) = cs_gr σ := rfl
theorem zc_gr_ke (σ : CSt) (v : (Nat → Nat → Int32)) : cs_gr (cs_ke_s σ v) = cs_gr σ := rfl
theorem zc_gr_kq (σ : CSt) (v : (Nat → Nat → Int32)) : cs_gr (cs_kq_s σ v) = cs_gr σ := rfl
theorem zc_gr_kr (σ : CSt) (v : (Nat → Nat → Option RV)) : cs_gr (cs_kr_s σ v) = cs_gr σ := rfl
theorem zc_gr_hs (σ : CSt) (v : Int32) : cs_gr (cs_hs_s σ v) = cs_gr σ := rfl
theorem zc_gr_ho (σ : CSt) (v : Int32) : cs_gr (cs_ho_s σ v) = cs_gr σ := rfl
theorem zc_gr_run (σ : CSt) (v : Int32) : cs_gr (cs_run_s σ v) = cs_gr σ := rfl
theorem zc_gr_frests (σ : CSt) (v : (Nat → Int32)) : cs_gr (cs_frests_s σ v) = cs_gr σ := rfl
theorem zc_gr_fpen (σ : CSt) (v : Int32) : cs_gr (cs_fpen_s σ v) = cs_gr σ := rfl
theorem zc_gr_fstart (σ : CSt) (v : Int32) : cs_gr (cs_fstart_s σ v) = cs_gr σ := rfl
theorem zc_gr_fss (σ : CSt) (v : Int32) : cs_gr (cs_fss_s σ v) = cs_gr σ := rfl
theorem zc_gr_fgoal (σ : CSt) (v : Int32) : cs_gr (cs_fgoal_s σ v) = cs_gr σ := rfl
theorem zc_gr_fgs (σ : CSt) (v : Int32) : cs_gr (cs_fgs_s σ v) = cs_gr σ := rfl
theorem zc_gr_fcx (σ : CSt) (v : (Nat → Int32)) : cs_gr (cs_fcx_s σ v) = cs_gr σ := rfl
theorem zc_gr_fcy (σ : CSt) (v : (Nat → Int32)) : cs_gr (cs_fcy_s σ v) = cs_gr σ := rfl
theorem zc_gr_fcn (σ : CSt) (v : Int32) : cs_gr (cs_fcn_s σ v) = cs_gr σ := rfl
theorem zc_gr_gx (σ : CSt) (v : (Nat → Int32)) : cs_gr (cs_gx_s σ v) = cs_gr σ := rfl
theorem zc_gr_gy (σ : CSt) (v : (Nat → Int32)) : cs_gr (cs_gy_s σ v) = cs_gr σ := rfl
theorem zc_gr_gc (σ : CSt) (v : Int32) : cs_gr (cs_gc_s σ v) = cs_gr σ := rfl
theorem zc_gr_gr (σ : CSt) (v : Int32) : cs_gr (cs_gr_s σ v) = v := rfl
theorem zc_gr_goR (σ : CSt) (v : (Nat → Int32)) : cs_gr (cs_goR_s σ v) = cs_gr σ := rfl
theorem zc_gr_goD (σ : CSt) (v : (Nat → Int32)) : cs_gr (cs_goD_s σ v) = cs_gr σ := rfl
theorem zc_gr_wre (σ : CSt) (v : Int32) : cs_gr (cs_wre_s σ v) = cs_gr σ := rfl
theorem zc_gr_whd (σ : CSt) (v : (Nat → Int32)) : cs_gr (cs_whd_s σ v) = cs_gr σ := rfl
theorem zc_gr_wnx (σ : CSt) (v : (Nat → Int32)) : cs_gr (cs_wnx_s σ v) = cs_gr σ := rfl
theorem zc_gr_wpv (σ : CSt) (v : (Nat → Int32)) : cs_gr (cs_wpv_s σ v) = cs_gr σ := rfl
theorem zc_gr_bs (σ : CSt) (v : Int32) : cs_gr (cs_bs_s σ v) = cs_gr σ := rfl
theorem zc_gr_bo (σ : CSt) (v : Int32) : cs_gr (cs_bo_s σ v) = cs_gr σ := rfl
theorem zc_gr_bst (σ : CSt) (v : (Nat → Int32)) : cs_gr (cs_bst_s σ v) = cs_gr σ := rfl
theorem zc_gr_ben (σ : CSt) (v : (Nat → Int32)) : cs_gr (cs_ben_s σ v) = cs_gr σ := rfl
theorem zc_gr_bpu (σ : CSt) (v : (Nat → Int32)) : cs_gr (cs_bpu_s σ v) = cs_gr σ := rfl
theorem zc_gr_bla (σ : CSt) (v : (Nat → Int32)) : cs_gr (cs_bla_s σ v) = cs_gr σ := rfl
theorem zc_gr_bre (σ : CSt) (v : (Nat → Int32)) : cs_gr (cs_bre_s σ v) = cs_gr σ := rfl
theorem zc_gr_tl (σ : CSt) (v : Int32) : cs_gr (cs_tl_s σ v) = cs_gr σ := rfl
theorem zc_gr_tb (σ : CSt) (v : (Nat → Int32)) : cs_gr (cs_tb_s σ v) = cs_gr σ := rfl
theorem zc_gr_tw (σ : CSt) (v : Int32) : cs_gr (cs_tw_s σ v) = cs_gr σ := rfl
theorem zc_gr_tn (σ : CSt) (v : (Nat → Int32)) : cs_gr (cs_tn_s σ v) = cs_gr σ := rfl
theorem zc_gr_tc (σ : CSt) (v : Int32) : cs_gr (cs_tc_s σ v) = cs_gr σ := rfl
theorem zc_gr_te (σ : CSt) (v : Int32) : cs_gr (cs_te_s σ v) = cs_gr σ := rfl
theorem zc_gr_tf (σ : CSt) (v : Int32) : cs_gr (cs_tf_s σ v) = cs_gr σ := rfl
theorem zc_gr_sct (σ : CSt) (v : Int32) : cs_gr (cs_sct_s σ v) = cs_gr σ := rfl
theorem zc_gr_sml (σ : CSt) (v : Int32) : cs_gr (cs_sml_s σ v) = cs_gr σ := rfl
theorem zc_gr_sv (σ : CSt) (v : (Nat → Int32)) : cs_gr (cs_sv_s σ v) = cs_gr σ := rfl
theorem zc_gr_scap (σ : CSt) (v : Nat) : cs_gr (cs_scap_s σ v) = cs_gr σ := rfl
theorem zc_gr_nc (σ : CSt) (v : Nat) : cs_gr (cs_nc_s σ v) = cs_gr σ := rfl
theorem zc_gr_ns (σ : CSt) (v : Nat) : cs_gr (cs_ns_s σ v) = cs_gr σ := rfl
theorem zc_goR_cb (σ : CSt) (v : Int32) : cs_goR (cs_cb_s σ v) = cs_goR σ := rfl
theorem zc_goR_cc (σ : CSt) (v : Int32) : cs_goR (cs_cc_s σ v) = cs_goR σ := rfl
theorem zc_goR_cp (σ : CSt) (v : Int32) : cs_goR (cs_cp_s σ v) = cs_goR σ := rfl
theorem zc_goR_ce (σ : CSt) (v : (Nat → Int32)) : cs_goR (cs_ce_s σ v) = cs_goR σ := rfl
theorem zc_goR_cq (σ : CSt) (v : (Nat → Int32)) : cs_goR (cs_cq_s σ v) = cs_goR σ := rfl
theorem zc_goR_cr (σ : CSt) (v : (Nat → Option RV)) : cs_goR (cs_cr_s σ v) = cs_goR σ := rfl
theorem zc_goR_kb (σ : CSt) (v : (Nat → Int32)) : cs_goR (cs_kb_s σ v) = cs_goR σ := rfl
theorem zc_goR_kc (σ : CSt) (v : (Nat → Int32)) : cs_goR (cs_kc_s σ v) = cs_goR σ := rfl
theorem zc_goR_kp (σ : CSt) (v : (Nat → Int32)) : cs_goR (cs_kp_s σ v) = cs_goR σ := rfl
theorem zc_goR_ke (σ : CSt) (v : (Nat → Nat → Int32)) : cs_goR (cs_ke_s σ v) = cs_goR σ := rfl
theorem zc_goR_kq (σ : CSt) (v : (Nat → Nat → Int32)) : cs_goR (cs_kq_s σ v) = cs_goR σ := rfl
theorem zc_goR_kr (σ : CSt) (v : (Nat → Nat → Option RV)) : cs_goR (cs_kr_s σ v) = cs_goR σ := rfl
theorem zc_goR_hs (σ : CSt) (v : Int32) : cs_goR (cs_hs_s σ v) = cs_goR σ := rfl
theorem zc_goR_ho (σ : CSt) (v : Int32) : cs_goR (cs_ho_s σ v) = cs_goR σ := rfl
theorem zc_goR_run (σ : CSt) (v : Int32) : cs_goR (cs_run_s σ v) = cs_goR σ := rfl
theorem zc_goR_frests (σ : CSt) (v : (Nat → Int32)) : cs_goR (cs_frests_s σ v) = cs_goR σ := rfl
theorem zc_goR_fpen (σ : CSt) (v : Int32) : cs_goR (cs_fpen_s σ v) = cs_goR σ := rfl
theorem zc_goR_fstart (σ : CSt) (v : Int32) : cs_goR (cs_fstart_s σ v) = cs_goR σ := rfl
theorem zc_goR_fss (σ : CSt) (v : Int32) : cs_goR (cs_fss_s σ v) = cs_goR σ := rfl
theorem zc_goR_fgoal (σ : CSt) (v : Int32) : cs_goR (cs_fgoal_s σ v) = cs_goR σ := rfl
theorem zc_goR_fgs (σ : CSt) (v : Int32) : cs_goR (cs_fgs_s σ v) = cs_goR σ := rfl
theorem zc_goR_fcx (σ : CSt) (v : (Nat → Int32)) : cs_goR (cs_fcx_s σ v) = cs_goR σ := rfl
theorem zc_goR_fcy (σ : CSt) (v : (Nat → Int32)) : cs_goR (cs_fcy_s σ v) = cs_goR σ := rfl
theorem zc_goR_fcn (σ : CSt) (v : Int32) : cs_goR (cs_fcn_s σ v) = cs_goR σ := rfl
theorem zc_goR_gx (σ : CSt) (v : (Nat → Int32)) : cs_goR (cs_gx_s σ v) = cs_goR σ := rfl
theorem zc_goR_gy (σ : CSt) (v : (Nat → Int32)) : cs_goR (cs_gy_s σ v) = cs_goR σ := rfl
theorem zc_goR_gc (σ : CSt) (v : Int32) : cs_goR (cs_gc_s σ v) = cs_goR σ := rfl
theorem zc_goR_gr (σ : CSt) (v : Int32) : cs_goR (cs_gr_s σ v) = cs_goR σ := rfl
theorem zc_goR_goR (σ : CSt) (v : (Nat → Int32)) : cs_goR (cs_goR_s σ v) = v := rfl
theorem zc_goR_goD (σ : CSt) (v : (Nat → Int32)) : cs_goR (cs_goD_s σ v) = cs_goR σ := rfl
theorem zc_goR_wre (σ : CSt) (v : Int32) : cs_goR (cs_wre_s σ v) = cs_goR σ := rfl
theorem zc_goR_whd (σ : CSt) (v : (Nat → Int32)) : cs_goR (cs_whd_s σ v) = cs_goR σ := rfl
theorem zc_goR_wnx (σ : CSt) (v : (Nat → Int32)) : cs_goR (cs_wnx_s σ v) = cs_goR σ := rfl
theorem zc_goR_wpv (σ : CSt) (v : (Nat → Int32)) : cs_goR (cs_wpv_s σ v) = cs_goR σ := rfl
theorem zc_goR_bs (σ : CSt) (v : Int32) : cs_goR (cs_bs_s σ v) = cs_goR σ := rfl
theorem zc_goR_bo (σ : CSt) (v : Int32) : cs_goR (cs_bo_s σ v) = cs_goR σ := rfl
theorem zc_goR_bst (σ : CSt) (v : (Nat → Int32)) : cs_goR (cs_bst_s σ v) = cs_goR σ := rfl
theorem zc_goR_ben (σ : CSt) (v : (Nat → Int32)) : cs_goR (cs_ben_s σ v) = cs_goR σ := rfl
theorem zc_goR_bpu (σ : CSt) (v : (Nat → Int32)) : cs_goR (cs_bpu_s σ v) = cs_goR σ := rfl
theorem zc_goR_bla (σ : CSt) (v : (Nat → Int32)) : cs_goR (cs_bla_s σ v) = cs_goR σ := rfl
theorem zc_goR_bre (σ : CSt) (v : (Nat → Int32)) : cs_goR (cs_bre_s σ v) = cs_goR σ := rfl
theorem zc_goR_tl (σ : CSt) (v : Int32) : cs_goR (cs_tl_s σ v) = cs_goR σ := rfl
theorem zc_goR_tb (σ : CSt) (v : (Nat → Int32)) : cs_goR (cs_tb_s σ v) = cs_goR σ := rfl
theorem zc_goR_tw (σ : CSt) (v : Int32) : cs_goR (cs_tw_s σ v) = cs_goR σ := rfl
theorem zc_goR_tn (σ : CSt) (v : (Nat → Int32)) : cs_goR (cs_tn_s σ v) = cs_goR σ := rfl
theorem zc_goR_tc (σ : CSt) (v : Int32) : cs_goR (cs_tc_s σ v) = cs_goR σ := rfl
theorem zc_goR_te (σ : CSt) (v : Int32) : cs_goR (cs_te_s σ v) = cs_goR σ := rfl
theorem zc_goR_tf (σ : CSt) (v : Int32) : cs_goR (cs_tf_s σ v) = cs_goR σ := rfl
theorem zc_goR_sct (σ : CSt) (v : Int32) : cs_goR (cs_sct_s σ v) = cs_goR σ := rfl
theorem zc_goR_sml (σ : CSt) (v : Int32) : cs_goR (cs_sml_s σ v) = cs_goR σ := rfl
theorem zc_goR_sv (σ : CSt) (v : (Nat → Int32)) : cs_goR (cs_sv_s σ v) = cs_goR σ := rfl
theorem zc_goR_scap (σ : CSt) (v : Nat) : cs_goR (cs_scap_s σ v) = cs_goR σ := rfl
theorem zc_goR_nc (σ : CSt) (v : Nat) : cs_goR (cs_nc_s σ v) = cs_goR σ := rfl
theorem zc_goR_ns (σ : CSt) (v : Nat) : cs_goR (cs_ns_s σ v) = cs_goR σ := rfl
theorem zc_goD_cb (σ : CSt) (v : Int32) : cs_goD (cs_cb_s σ v) = cs_goD σ := rfl
theorem zc_goD_cc (σ : CSt) (v : Int32) : cs_goD (cs_cc_s σ v) = cs_goD σ := rfl
theorem zc_goD_cp (σ : CSt) (v : Int32) : cs_goD (cs_cp_s σ v) = cs_goD σ := rfl
theorem zc_goD_ce (σ : CSt) (v : (Nat → Int32)) : cs_goD (cs_ce_s σ v) = cs_goD σ := rfl
theorem zc_goD_cq (σ : CSt) (v : (Nat → Int32)) : cs_goD (cs_cq_s σ v) = cs_goD σ := rfl
theorem zc_goD_cr (σ : CSt) (v : (Nat → Option RV)) : cs_goD (cs_cr_s σ v) = cs_goD σ := rfl
theorem zc_goD_kb (σ : CSt) (v : (Nat → Int32)) : cs_goD (cs_kb_s σ v) = cs_goD σ := rfl
theorem zc_goD_kc (σ : CSt) (v : (Nat → Int32)) : cs_goD (cs_kc_s σ v) = cs_goD σ := rfl
theorem zc_goD_kp (σ : CSt) (v : (Nat → Int32)) : cs_goD (cs_kp_s σ v) = cs_goD σ := rfl
theorem zc_goD_ke (σ : CSt) (v : (Nat → Nat → Int32)) : cs_goD (cs_ke_s σ v) = cs_goD σ := rfl
theorem zc_goD_kq (σ : CSt) (v : (Nat → Nat → Int32)) : cs_goD (cs_kq_s σ v) = cs_goD σ := rfl
theorem zc_goD_kr (σ : CSt) (v : (Nat → Nat → Option RV)) : cs_goD (cs_kr_s σ v) = cs_goD σ := rfl
theorem zc_goD_hs (σ : CSt) (v : Int32) : cs_goD (cs_hs_s σ v) = cs_goD σ := rfl
theorem zc_goD_ho (σ : CSt) (v : Int32) : cs_goD (cs_ho_s σ v) = cs_goD σ := rfl
theorem zc_goD_run (σ : CSt) (v : Int32) : cs_goD (cs_run_s σ v) = cs_goD σ := rfl
theorem zc_goD_frests (σ : CSt) (v : (Nat → Int32)) : cs_goD (cs_frests_s σ v) = cs_goD σ := rfl
theorem zc_goD_fpen (σ : CSt) (v : Int32) : cs_goD (cs_fpen_s σ v) = cs_goD σ := rfl
theorem zc_goD_fstart (σ : CSt) (v : Int32) : cs_goD (cs_fstart_s σ v) = cs_goD σ := rfl
theorem zc_goD_fss (σ : CSt) (v : Int32) : cs_goD (cs_fss_s σ v) = cs_goD σ := rfl
theorem zc_goD_fgoal (σ : CSt) (v : Int32) : cs_goD (cs_fgoal_s σ v) = cs_goD σ := rfl
theorem zc_goD_fgs (σ : CSt) (v : Int32) : cs_goD (cs_fgs_s σ v) = cs_goD σ := rfl
theorem zc_goD_fcx (σ : CSt) (v : (Nat → Int32)) : cs_goD (cs_fcx_s σ v) = cs_goD σ := rfl
theorem zc_goD_fcy (σ : CSt) (v : (Nat → Int32)) : cs_goD (cs_fcy_s σ v) = cs_goD σ := rfl
theorem zc_goD_fcn (σ : CSt) (v : Int32) : cs_goD (cs_fcn_s σ v) = cs_goD σ := rfl
theorem zc_goD_gx (σ : CSt) (v : (Nat → Int32)) : cs_goD (cs_gx_s σ v) = cs_goD σ := rfl
theorem zc_goD_gy (σ : CSt) (v : (Nat → Int32)) : cs_goD (cs_gy_s σ v) = cs_goD σ := rfl
theorem zc_goD_gc (σ : CSt) (v : Int32) : cs_goD (cs_gc_s σ v) = cs_goD σ := rfl
theorem zc_goD_gr (σ : CSt) (v : Int32) : cs_goD (cs_gr_s σ v) = cs_goD σ := rfl
theorem zc_goD_goR (σ : CSt) (v : (Nat → Int32)) : cs_goD (cs_goR_s σ v) = cs_goD σ := rfl
theorem zc_goD_goD (σ : CSt) (v : (Nat → Int32)) : cs_goD (cs_goD_s σ v) = v := rfl
theorem zc_goD_wre (σ : CSt) (v : Int32) : cs_goD (cs_wre_s σ v) = cs_goD σ := rfl
theorem zc_goD_whd (σ : CSt) (v : (Nat → Int32)) : cs_goD (cs_whd_s σ v) = cs_goD σ := rfl
theorem zc_goD_wnx (σ : CSt) (v : (Nat → Int32)) : cs_goD (cs_wnx_s σ v) = cs_goD σ := rfl
theorem zc_goD_wpv (σ : CSt) (v : (Nat → Int32)) : cs_goD (cs_wpv_s σ v) = cs_goD σ := rfl
theorem zc_goD_bs (σ : CSt) (v : Int32) : cs_goD (cs_bs_s σ v) = cs_goD σ := rfl
theorem zc_goD_bo (σ : CSt) (v : Int32) : cs_goD (cs_bo_s σ v) = cs_goD σ := rfl
theorem zc_goD_bst (σ : CSt) (v : (Nat → Int32)) : cs_goD (cs_bst_s σ v) = cs_goD σ := rfl
theorem zc_goD_ben (σ : CSt) (v : (Nat → Int32)) : cs_goD (cs_ben_s σ v) = cs_goD σ := rfl
theorem zc_goD_bpu (σ : CSt) (v : (Nat → Int32)) : cs_goD (cs_bpu_s σ v) = cs_goD σ := rfl
theorem zc_goD_bla (σ : CSt) (v : (Nat → Int32)) : cs_goD (cs_bla_s σ v) = cs_goD σ := rfl
theorem zc_goD_bre (σ : CSt) (v : (Nat → Int32)) : cs_goD (cs_bre_s σ v) = cs_goD σ := rfl
theorem zc_goD_tl (σ : CSt) (v : Int32) : cs_goD (cs_tl_s σ v) = cs_goD σ := rfl
theorem zc_goD_tb (σ : CSt) (v : (Nat → Int32)) : cs_goD (cs_tb_s σ v) = cs_goD σ := rfl
theorem zc_goD_tw (σ : CSt) (v : Int32) : cs_goD (cs_tw_s σ v) = cs_goD σ := rfl
theorem zc_goD_tn (σ : CSt) (v : (Nat → Int32)) : cs_goD (cs_tn_s σ v) = cs_goD σ := rfl
theorem zc_goD_tc (σ : CSt) (v : Int32) : cs_goD (cs_tc_s σ v) = cs_goD σ := rfl
theorem zc_goD_te (σ : CSt) (v : Int32) : cs_goD (cs_te_s σ v) = cs_goD σ := rfl
theorem zc_goD_tf (σ : CSt) (v : Int32) : cs_goD (cs_tf_s σ v) = cs_goD σ := rfl
theorem zc_goD_sct (σ : CSt) (v : Int32) : cs_goD (cs_sct_s σ v) = cs_goD σ := rfl
theorem zc_goD_sml (σ : CSt) (v : Int32) : cs_goD (cs_sml_s σ v) = cs_goD σ := rfl
theorem zc_goD_sv (σ : CSt) (v : (Nat → Int32)) : cs_goD (cs_sv_s σ v) = cs_goD σ := rfl
theorem zc_goD_scap (σ : CSt) (v : Nat) : cs_goD (cs_scap_s σ v) = cs_goD σ := rfl
theorem zc_goD_nc (σ : CSt) (v : Nat) : cs_goD (cs_nc_s σ v) = cs_goD σ := rfl
theorem zc_goD_ns (σ : CSt) (v : Nat) : cs_goD (cs_ns_s σ v) = cs_goD σ := rfl
theorem zc_wre_cb (σ : CSt) (v : Int32) : cs_wre (cs_cb_s σ v) = cs_wre σ := rfl
theorem zc_wre_cc (σ : CSt) (v : Int32) : cs_wre (cs_cc_s σ v) = cs_wre σ := rfl
theorem zc_wre_cp (σ : CSt) (v : Int32) : cs_wre (cs_cp_s σ v) = cs_wre σ := rfl
theorem zc_wre_ce (σ : CSt) (v : (Nat → Int32)) : cs_wre (cs_ce_s σ v) = cs_wre σ := rfl
theorem zc_wre_cq (σ : CSt) (v : (Nat → Int32)) : cs_wre (cs_cq_s σ v) = cs_wre σ := rfl
theorem zc_wre_cr (σ : CSt) (v : (Nat → Option RV)) : cs_wre (cs_cr_s σ v) = cs_wre σ := rfl
theorem zc_wre_kb (σ : CSt) (v : (Nat → Int32)) : cs_wre (cs_kb_s σ v) = cs_wre σ := rfl
theorem zc_wre_kc (σ : CSt) (v : (Nat → Int32)) : cs_wre (cs_kc_s σ v) = cs_wre σ := rfl
theorem zc_wre_kp (σ : CSt) (v : (Nat → Int32)) : cs_wre (cs_kp_s σ v) = cs_wre σ := rfl
theorem zc_wre_ke (σ : CSt) (v : (Nat → Nat → Int32)) : cs_wre (cs_ke_s σ v) = cs_wre σ := rfl
theorem zc_wre_kq (σ : CSt) (v : (Nat → Nat → Int32)) : cs_wre (cs_kq_s σ v) = cs_wre σ := rfl
theorem zc_wre_kr (σ : CSt) (v : (Nat → Nat → Option RV)) : cs_wre (cs_kr_s σ v) = cs_wre σ := rfl
theorem zc_wre_hs (σ : CSt) (v : Int32) : cs_wre (cs_hs_s σ v) = cs_wre σ := rfl
theorem zc_wre_ho (σ : CSt) (v : Int32) : cs_wre (cs_ho_s σ v) = cs_wre σ := rfl
theorem zc_wre_run (σ : CSt) (v : Int32) : cs_wre (cs_run_s σ v) = cs_wre σ := rfl
theorem zc_wre_frests (σ : CSt) (v : (Nat → Int32)) : cs_wre (cs_frests_s σ v) = cs_wre σ := rfl
theorem zc_wre_fpen (σ : CSt) (v : Int32) : cs_wre (cs_fpen_s σ v) = cs_wre σ := rfl
theorem zc_wre_fstart (σ : CSt) (v : Int32) : cs_wre (cs_fstart_s σ v) = cs_wre σ := rfl
theorem zc_wre_fss (σ : CSt) (v : Int32) : cs_wre (cs_fss_s σ v) = cs_wre σ := rfl
theorem zc_wre_fgoal (σ : CSt) (v : Int32) : cs_wre (cs_fgoal_s σ v) = cs_wre σ := rfl
theorem zc_wre_fgs (σ : CSt) (v : Int32) : cs_wre (cs_fgs_s σ v) = cs_wre σ := rfl
theorem zc_wre_fcx (σ : CSt) (v : (Nat → Int32)) : cs_wre (cs_fcx_s σ v) = cs_wre σ := rfl
theorem zc_wre_fcy (σ : CSt) (v : (Nat → Int32)) : cs_wre (cs_fcy_s σ v) = cs_wre σ := rfl
theorem zc_wre_fcn (σ : CSt) (v : Int32) : cs_wre (cs_fcn_s σ v) = cs_wre σ := rfl
theorem zc_wre_gx (σ : CSt) (v : (Nat → Int32)) : cs_wre (cs_gx_s σ v) = cs_wre σ := rfl
theorem zc_wre_gy (σ : CSt) (v : (Nat → Int32)) : cs_wre (cs_gy_s σ v) = cs_wre σ := rfl
theorem zc_wre_gc (σ : CSt) (v : Int32) : cs_wre (cs_gc_s σ v) = cs_wre σ := rfl
theorem zc_wre_gr (σ : CSt) (v : Int32) : cs_wre (cs_gr_s σ v) = cs_wre σ := rfl
theorem zc_wre_goR (σ : CSt) (v : (Nat → Int32)) : cs_wre (cs_goR_s σ v) = cs_wre σ := rfl
theorem zc_wre_goD (σ : CSt) (v : (Nat → Int32)) : cs_wre (cs_goD_s σ v) = cs_wre σ := rfl
theorem zc_wre_wre (σ : CSt) (v : Int32) : cs_wre (cs_wre_s σ v) = v := rfl
theorem zc_wre_whd (σ : CSt) (v : (Nat → Int32)) : cs_wre (cs_whd_s σ v) = cs_wre σ := rfl
theorem zc_wre_wnx (σ : CSt) (v : (Nat → Int32)) : cs_wre (cs_wnx_s σ v) = cs_wre σ := rfl
theorem zc_wre_wpv (σ : CSt) (v : (Nat → Int32)) : cs_wre (cs_wpv_s σ v) = cs_wre σ := rfl
theorem zc_wre_bs (σ : CSt) (v : Int32) : cs_wre (cs_bs_s σ v) = cs_wre σ := rfl
theorem zc_wre_bo (σ : CSt) (v : Int32) : cs_wre (cs_bo_s σ v) = cs_wre σ := rfl
theorem zc_wre_bst (σ : CSt) (v : (Nat → Int32)) : cs_wre (cs_bst_s σ v) = cs_wre σ := rfl
theorem zc_wre_ben (σ : CSt) (v : (Nat → Int32)) : cs_wre (cs_ben_s σ v) = cs_wre σ := rfl
theorem zc_wre_bpu (σ : CSt) (v : (Nat → Int32)) : cs_wre (cs_bpu_s σ v) = cs_wre σ := rfl
theorem zc_wre_bla (σ : CSt) (v : (Nat → Int32)) : cs_wre (cs_bla_s σ v) = cs_wre σ := rfl
theorem zc_wre_bre (σ : CSt) (v : (Nat → Int32)) : cs_wre (cs_bre_s σ v) = cs_wre σ := rfl
theorem zc_wre_tl (σ : CSt) (v : Int32) : cs_wre (cs_tl_s σ v) = cs_wre σ := rfl
theorem zc_wre_tb (σ : CSt) (v : (Nat → Int32)) : cs_wre (cs_tb_s σ v) = cs_wre σ := rfl
theorem zc_wre_tw (σ : CSt) (v : Int32) : cs_wre (cs_tw_s σ v) = cs_wre σ := rfl
theorem zc_wre_tn (σ : CSt) (v : (Nat → Int32)) : cs_wre (cs_tn_s σ v) = cs_wre σ := rfl
theorem zc_wre_tc (σ : CSt) (v : Int32) : cs_wre (cs_tc_s σ v) = cs_wre σ := rfl
theorem zc_wre_te (σ : CSt) (v : Int32) : cs_wre (cs_te_s σ v) = cs_wre σ := rfl
theorem zc_wre_tf (σ : CSt) (v : Int32) : cs_wre (cs_tf_s σ v) = cs_wre σ := rfl
theorem zc_wre_sct (σ : CSt) (v : Int32) : cs_wre (cs_sct_s σ v) = cs_wre σ := rfl
theorem zc_wre_sml (σ : CSt) (v : Int32) : cs_wre (cs_sml_s σ v) = cs_wre σ := rfl
theorem zc_wre_sv (σ : CSt) (v : (Nat → Int32)) : cs_wre (cs_sv_s σ v) = cs_wre σ := rfl
theorem zc_wre_scap (σ : CSt) (v : Nat) : cs_wre (cs_scap_s σ v) = cs_wre σ := rfl
theorem zc_wre_nc (σ : CSt) (v : Nat) : cs_wre (cs_nc_s σ v) = cs_wre σ := rfl
theorem zc_wre_ns (σ : CSt) (v : Nat) : cs_wre (cs_ns_s σ v) = cs_wre σ := rfl
theorem zc_whd_cb (σ : CSt) (v : Int32) : cs_whd (cs_cb_s σ v) = cs_whd σ := rfl
theorem zc_whd_cc (σ : CSt) (v : Int32) : cs_whd (cs_cc_s σ v) = cs_whd σ := rfl
theorem zc_whd_cp (σ : CSt) (v : Int32) : cs_whd (cs_cp_s σ v) = cs_whd σ := rfl
theorem zc_whd_ce (σ : CSt) (v : (Nat → Int32)) : cs_whd (cs_ce_s σ v) = cs_whd σ := rfl
theorem zc_whd_cq (σ : CSt) (v : (Nat → Int32)) : cs_whd (cs_cq_s σ v) = cs_whd σ := rfl
theorem zc_whd_cr (σ : CSt) (v : (Nat → Option RV)) : cs_whd (cs_cr_s σ v) = cs_whd σ := rfl
theorem zc_whd_kb (σ : CSt) (v : (Nat → Int32)) : cs_whd (cs_kb_s σ v) = cs_whd σ := rfl
theorem zc_whd_kc (σ : CSt) (v : (Nat → Int32)) : cs_whd (cs_kc_s σ v) = cs_whd σ := rfl
theorem zc_whd_kp (σ : CSt) (v : (Nat → Int32)) : cs_whd (cs_kp_s σ v) = cs_whd σ := rfl
theorem zc_whd_ke (σ : CSt) (v : (Nat → Nat → Int32)) : cs_whd (cs_ke_s σ v) = cs_whd σ := rfl
theorem zc_whd_kq (σ : CSt) (v : (Nat → Nat → Int32)) : cs_whd (cs_kq_s σ v) = cs_whd σ := rfl
theorem zc_whd_kr (σ : CSt) (v : (Nat → Nat → Option RV)) : cs_whd (cs_kr_s σ v) = cs_whd σ := rfl
theorem zc_whd_hs (σ : CSt) (v : Int32) : cs_whd (cs_hs_s σ v) = cs_whd σ := rfl
theorem zc_whd_ho (σ : CSt) (v : Int32) : cs_whd (cs_ho_s σ v) = cs_whd σ := rfl
theorem zc_whd_run (σ : CSt) (v : Int32) : cs_whd (cs_run_s σ v) = cs_whd σ := rfl
theorem zc_whd_frests (σ : CSt) (v : (Nat → Int32)) : cs_whd (cs_frests_s σ v) = cs_whd σ := rfl
theorem zc_whd_fpen (σ : CSt) (v : Int32) : cs_whd (cs_fpen_s σ v) = cs_whd σ := rfl
theorem zc_whd_fstart (σ : CSt) (v : Int32) : cs_whd (cs_fstart_s σ v) = cs_whd σ := rfl
theorem zc_whd_fss (σ : CSt) (v : Int32) : cs_whd (cs_fss_s σ v) = cs_whd σ := rfl
theorem zc_whd_fgoal (σ : CSt) (v : Int32) : cs_whd (cs_fgoal_s σ v) = cs_whd σ := rfl
theorem zc_whd_fgs (σ : CSt) (v : Int32) : cs_whd (cs_fgs_s σ v) = cs_whd σ := rfl
theorem zc_whd_fcx (σ : CSt) (v : (Nat → Int32)) : cs_whd (cs_fcx_s σ v) = cs_whd σ := rfl
theorem zc_whd_fcy (σ : CSt) (v : (Nat → Int32)) : cs_whd (cs_fcy_s σ v) = cs_whd σ := rfl
theorem zc_whd_fcn (σ : CSt) (v : Int32) : cs_whd (cs_fcn_s σ v) = cs_whd σ := rfl
theorem zc_whd_gx (σ : CSt) (v : (Nat → Int32)) : cs_whd (cs_gx_s σ v) = cs_whd σ := rfl
theorem zc_whd_gy (σ : CSt) (v : (Nat → Int32)) : cs_whd (cs_gy_s σ v) = cs_whd σ := rfl
theorem zc_whd_gc (σ : CSt) (v : Int32) : cs_whd (cs_gc_s σ v) = cs_whd σ := rfl
theorem zc_whd_gr (σ : CSt) (v : Int32) : cs_whd (cs_gr_s σ v) = cs_whd σ := rfl
theorem zc_whd_goR (σ : CSt) (v : (Nat → Int32)) : cs_whd (cs_goR_s σ v) = cs_whd σ := rfl
theorem zc_whd_goD (σ : CSt) (v : (Nat → Int32)) : cs_whd (cs_goD_s σ v) = cs_whd σ := rfl
theorem zc_whd_wre (σ : CSt) (v : Int32) : cs_whd (cs_wre_s σ v) = cs_whd σ := rfl
theorem zc_whd_whd (σ : CSt) (v : (Nat → Int32)) : cs_whd (cs_whd_s σ v) = v := rfl
theorem zc_whd_wnx (σ : CSt) (v : (Nat → Int32)) : cs_whd (cs_wnx_s σ v) = cs_whd σ := rfl
theorem zc_whd_wpv (σ : CSt) (v : (Nat → Int32)) : cs_whd (cs_wpv_s σ v) = cs_whd σ := rfl
theorem zc_whd_bs (σ : CSt) (v : Int32) : cs_whd (cs_bs_s σ v) = cs_whd σ := rfl
theorem zc_whd_bo (σ : CSt) (v : Int32) : cs_whd (cs_bo_s σ v) = cs_whd σ := rfl
theorem zc_whd_bst (σ : CSt) (v : (Nat → Int32)) : cs_whd (cs_bst_s σ v) = cs_whd σ := rfl
theorem zc_whd_ben (σ : CSt) (v : (Nat → Int32)) : cs_whd (cs_ben_s σ v) = cs_whd σ := rfl
theorem zc_whd_bpu (σ : CSt) (v : (Nat → Int32)) : cs_whd (cs_bpu_s σ v) = cs_whd σ := rfl
theorem zc_whd_bla (σ : CSt) (v : (Nat → Int32)) : cs_whd (cs_bla_s σ v) = cs_whd σ := rfl
theorem zc_whd_bre (σ : CSt) (v : (Nat → Int32)) : cs_whd (cs_bre_s σ v) = cs_whd σ := rfl
theorem zc_whd_tl (σ : CSt) (v : Int32) : cs_whd (cs_tl_s σ v) = cs_whd σ := rfl
theorem zc_whd_tb (σ : CSt) (v : (Nat → Int32)) : cs_whd (cs_tb_s σ v) = cs_whd σ := rfl
theorem zc_whd_tw (σ : CSt) (v : Int32) : cs_whd (cs_tw_s σ v) = cs_whd σ := rfl
theorem zc_whd_tn (σ : CSt) (v : (Nat → Int32)) : cs_whd (cs_tn_s σ v) = cs_whd σ := rfl
theorem zc_whd_tc (σ : CSt) (v : Int32) : cs_whd (cs_tc_s σ v) = cs_whd σ := rfl
theorem zc_whd_te (σ : CSt) (v : Int32) : cs_whd (cs_te_s σ v) = cs_whd σ := rfl
theorem zc_whd_tf (σ : CSt) (v : Int32) : cs_whd (cs_tf_s σ v) = cs_whd σ := rfl
theorem zc_whd_sct (σ : CSt) (v : Int32) : cs_whd (cs_sct_s σ v) = cs_whd σ := rfl
theorem zc_whd_sml (σ : CSt) (v : Int32) : cs_whd (cs_sml_s σ v) = cs_whd σ := rfl
theorem zc_whd_sv (σ : CSt) (v : (Nat → Int32)) : cs_whd (cs_sv_s σ v) = cs_whd σ := rfl
theorem zc_whd_scap (σ : CSt) (v : Nat) : cs_whd (cs_scap_s σ v) = cs_whd σ := rfl
theorem zc_whd_nc (σ : CSt) (v : Nat) : cs_whd (cs_nc_s σ v) = cs_whd σ := rfl
theorem zc_whd_ns (σ : CSt) (v : Nat) : cs_whd (cs_ns_s σ v) = cs_whd σ := rfl
theorem zc_wnx_cb (σ : CSt) (v : Int32) : cs_wnx (cs_cb_s σ v) = cs_wnx σ := rfl
theorem zc_wnx_cc (σ : CSt) (v : Int32) : cs_wnx (cs_cc_s σ v) = cs_wnx σ := rfl
theorem zc_wnx_cp (σ : CSt) (v : Int32) : cs_wnx (cs_cp_s σ v) = cs_wnx σ := rfl
theorem zc_wnx_ce (σ : CSt) (v : (Nat → Int32)) : cs_wnx (cs_ce_s σ v) = cs_wnx σ := rfl
theorem zc_wnx_cq (σ : CSt) (v : (Nat → Int32)) : cs_wnx (cs_cq_s σ v) = cs_wnx σ := rfl
theorem zc_wnx_cr (σ : CSt) (v : (Nat → Option RV)) : cs_wnx (cs_cr_s σ v) = cs_wnx σ := rfl
theorem zc_wnx_kb (σ : CSt) (v : (Nat → Int32)) : cs_wnx (cs_kb_s σ v) = cs_wnx σ := rfl
theorem zc_wnx_kc (σ : CSt) (v : (Nat → Int32)) : cs_wnx (cs_kc_s σ v) = cs_wnx σ := rfl
theorem zc_wnx_kp (σ : CSt) (v : (Nat → Int32)) : cs_wnx (cs_kp_s σ v) = cs_wnx σ := rfl
theorem zc_wnx_ke (σ : CSt) (v : (Nat → Nat → Int32)) : cs_wnx (cs_ke_s σ v) = cs_wnx σ := rfl
theorem zc_wnx_kq (σ : CSt) (v : (Nat → Nat → Int32)) : cs_wnx (cs_kq_s σ v) = cs_wnx σ := rfl
theorem zc_wnx_kr (σ : CSt) (v : (Nat → Nat → Option RV)) : cs_wnx (cs_kr_s σ v) = cs_wnx σ := rfl
theorem zc_wnx_hs (σ : CSt) (v : Int32) : cs_wnx (cs_hs_s σ v) = cs_wnx σ := rfl
theorem zc_wnx_ho (σ : CSt) (v : Int32) : cs_wnx (cs_ho_s σ v) = cs_wnx σ := rfl
theorem zc_wnx_run (σ : CSt) (v : Int32) : cs_wnx (cs_run_s σ v) = cs_wnx σ := rfl
theorem zc_wnx_frests (σ : CSt) (v : (Nat → Int32)) : cs_wnx (cs_frests_s σ v) = cs_wnx σ := rfl
theorem zc_wnx_fpen (σ : CSt) (v : Int32) : cs_wnx (cs_fpen_s σ v) = cs_wnx σ := rfl
theorem zc_wnx_fstart (σ : CSt) (v : Int32) : cs_wnx (cs_fstart_s σ v) = cs_wnx σ := rfl
theorem zc_wnx_fss (σ : CSt) (v : Int32) : cs_wnx (cs_fss_s σ v) = cs_wnx σ := rfl
theorem zc_wnx_fgoal (σ : CSt) (v : Int32) : cs_wnx (cs_fgoal_s σ v) = cs_wnx σ := rfl
theorem zc_wnx_fgs (σ : CSt) (v : Int32) : cs_wnx (cs_fgs_s σ v) = cs_wnx σ := rfl
theorem zc_wnx_fcx (σ : CSt) (v : (Nat → Int32)) : cs_wnx (cs_fcx_s σ v) = cs_wnx σ := rfl
theorem zc_wnx_fcy (σ : CSt) (v : (Nat → Int32)) : cs_wnx (cs_fcy_s σ v) = cs_wnx σ := rfl
theorem zc_wnx_fcn (σ : CSt) (v : Int32) : cs_wnx (cs_fcn_s σ v) = cs_wnx σ := rfl
theorem zc_wnx_gx (σ : CSt) (v : (Nat → Int32)) : cs_wnx (cs_gx_s σ v) = cs_wnx σ := rfl
theorem zc_wnx_gy (σ : CSt) (v : (Nat → Int32)) : cs_wnx (cs_gy_s σ v) = cs_wnx σ := rfl
theorem zc_wnx_gc (σ : CSt) (v : Int32) : cs_wnx (cs_gc_s σ v) = cs_wnx σ := rfl
theorem zc_wnx_gr (σ : CSt) (v : Int32) : cs_wnx (cs_gr_s σ v) = cs_wnx σ := rfl
theorem zc_wnx_goR (σ : CSt) (v : (Nat → Int32)) : cs_wnx (cs_goR_s σ v) = cs_wnx σ := rfl
theorem zc_wnx_goD (σ : CSt) (v : (Nat → Int32)) : cs_wnx (cs_goD_s σ v) = cs_wnx σ := rfl
theorem zc_wnx_wre (σ : CSt) (v : Int32) : cs_wnx (cs_wre_s σ v) = cs_wnx σ := rfl
theorem zc_wnx_whd (σ : CSt) (v : (Nat → Int32)) : cs_wnx (cs_whd_s σ v) = cs_wnx σ := rfl
theorem zc_wnx_wnx (σ : CSt) (v : (Nat → Int32)) : cs_wnx (cs_wnx_s σ v) = v := rfl
theorem zc_wnx_wpv (σ : CSt) (v : (Nat → Int32)) : cs_wnx (cs_wpv_s σ v) = cs_wnx σ := rfl
theorem zc_wnx_bs (σ : CSt) (v : Int32) : cs_wnx (cs_bs_s σ v) = cs_wnx σ := rfl
theorem zc_wnx_bo (σ : CSt) (v : Int32) : cs_wnx (cs_bo_s σ v) = cs_wnx σ := rfl
theorem zc_wnx_bst (σ : CSt) (v : (Nat → Int32)) : cs_wnx (cs_bst_s σ v) = cs_wnx σ := rfl
theorem zc_wnx_ben (σ : CSt) (v : (Nat → Int32)) : cs_wnx (cs_ben_s σ v) = cs_wnx σ := rfl
theorem zc_wnx_bpu (σ : CSt) (v : (Nat → Int32)) : cs_wnx (cs_bpu_s σ v) = cs_wnx σ := rfl
theorem zc_wnx_bla (σ : CSt) (v : (Nat → Int32)) : cs_wnx (cs_bla_s σ v) = cs_wnx σ := rfl
theorem zc_wnx_bre (σ : CSt) (v : (Nat → Int32)) : cs_wnx (cs_bre_s σ v) = cs_wnx σ := rfl
theorem zc_wnx_tl (σ : CSt) (v : Int32) : cs_wnx (cs_tl_s σ v) = cs_wnx σ := rfl
theorem zc_wnx_tb (σ : CSt) (v : (Nat → Int32)) : cs_wnx (cs_tb_s σ v) = cs_wnx σ := rfl
theorem zc_wnx_tw (σ : CSt) (v : Int32) : cs_wnx (cs_tw_s σ v) = cs_wnx σ := rfl
theorem zc_wnx_tn (σ : CSt) (v : (Nat → Int32)) : cs_wnx (cs_tn_s σ v) = cs_wnx σ := rfl
theorem zc_wnx_tc (σ : CSt) (v : Int32) : cs_wnx (cs_tc_s σ v) = cs_wnx σ := rfl
theorem zc_wnx_te (σ : CSt) (v : Int32) : cs_wnx (cs_te_s σ v) = cs_wnx σ := rfl
theorem zc_wnx_tf (σ : CSt) (v : Int32) : cs_wnx (cs_tf_s σ v) = cs_wnx σ := rfl
theorem zc_wnx_sct (σ : CSt) (v : Int32) : cs_wnx (cs_sct_s σ v) = cs_wnx σ := rfl
theorem zc_wnx_sml (σ : CSt) (v : Int32) : cs_wnx (cs_sml_s σ v) = cs_wnx σ := rfl
theorem zc_wnx_sv (σ : CSt) (v : (Nat → Int32)) : cs_wnx (cs_sv_s σ v) = cs_wnx σ := rfl
theorem zc_wnx_scap (σ : CSt) (v : Nat) : cs_wnx (cs_scap_s σ v) = cs_wnx σ := rfl
theorem zc_wnx_nc (σ : CSt) (v : Nat) : cs_wnx (cs_nc_s σ v) = cs_wnx σ := rfl
theorem zc_wnx_ns (σ : CSt) (v : Nat) : cs_wnx (cs_ns_s σ v) = cs_wnx σ := rfl
theorem zc_wpv_cb (σ : CSt) (v : Int32) : cs_wpv (cs_cb_s σ v) = cs_wpv σ := rfl
theorem zc_wpv_cc (σ : CSt) (v : Int32) : cs_wpv (cs_cc_s σ v) = cs_wpv σ := rfl
theorem zc_wpv_cp (σ : CSt) (v : Int32) : cs_wpv (cs_cp_s σ v) = cs_wpv σ := rfl
theorem zc_wpv_ce (σ : CSt) (v : (Nat → Int32)) : cs_wpv (cs_ce_s σ v) = cs_wpv σ := rfl
theorem zc_wpv_cq (σ : CSt) (v : (Nat → Int32)) : cs_wpv (cs_cq_s σ v) = cs_wpv σ := rfl
theorem zc_wpv_cr (σ : CSt) (v : (Nat → Option RV)) : cs_wpv (cs_cr_s σ v) = cs_wpv σ := rfl
theorem zc_wpv_kb (σ : CSt) (v : (Nat → Int32)) : cs_wpv (cs_kb_s σ v) = cs_wpv σ := rfl
theorem zc_wpv_kc (σ : CSt) (v : (Nat → Int32)) : cs_wpv (cs_kc_s σ v) = cs_wpv σ := rfl
theorem zc_wpv_kp (σ : CSt) (v : (Nat → Int32)) : cs_wpv (cs_kp_s σ v) = cs_wpv σ := rfl
theorem zc_wpv_ke (σ : CSt) (v : (Nat → Nat → Int32)) : cs_wpv (cs_ke_s σ v) = cs_wpv σ := rfl
theorem zc_wpv_kq (σ : CSt) (v : (Nat → Nat → Int32)) : cs_wpv (cs_kq_s σ v) = cs_wpv σ := rfl
theorem zc_wpv_kr (σ : CSt) (v : (Nat → Nat → Option RV)) : cs_wpv (cs_kr_s σ v) = cs_wpv σ := rfl
theorem zc_wpv_hs (σ : CSt) (v : Int32) : cs_wpv (cs_hs_s σ v) = cs_wpv σ := rfl
theorem zc_wpv_ho (σ : CSt) (v : Int32) : cs_wpv (cs_ho_s σ v) = cs_wpv σ := rfl
theorem zc_wpv_run (σ : CSt) (v : Int32) : cs_wpv (cs_run_s σ v) = cs_wpv σ := rfl
theorem zc_wpv_frests (σ : CSt) (v : (Nat → Int32)) : cs_wpv (cs_frests_s σ v) = cs_wpv σ := rfl
theorem zc_wpv_fpen (σ : CSt) (v : Int32) : cs_wpv (cs_fpen_s σ v) = cs_wpv σ := rfl
theorem zc_wpv_fstart (σ : CSt) (v : Int32) : cs_wpv (cs_fstart_s σ v) = cs_wpv σ := rfl
theorem zc_wpv_fss (σ : CSt) (v : Int32) : cs_wpv (cs_fss_s σ v) = cs_wpv σ := rfl
theorem zc_wpv_fgoal (σ : CSt) (v : Int32) : cs_wpv (cs_fgoal_s σ v) = cs_wpv σ := rfl
theorem zc_wpv_fgs (σ : CSt) (v : Int32) : cs_wpv (cs_fgs_s σ v) = cs_wpv σ := rfl
theorem zc_wpv_fcx (σ : CSt) (v : (Nat → Int32)) : cs_wpv (cs_fcx_s σ v) = cs_wpv σ := rfl
theorem zc_wpv_fcy (σ : CSt) (v : (Nat → Int32)) : cs_wpv (cs_fcy_s σ v) = cs_wpv σ := rfl
theorem zc_wpv_fcn (σ : CSt) (v : Int32) : cs_wpv (cs_fcn_s σ v) = cs_wpv σ := rfl
theorem zc_wpv_gx (σ : CSt) (v : (Nat → Int32)) : cs_wpv (cs_gx_s σ v) = cs_wpv σ := rfl
theorem zc_wpv_gy (σ : CSt) (v : (Nat → Int32)) : cs_wpv (cs_gy_s σ v) = cs_wpv σ := rfl
theorem zc_wpv_gc (σ : CSt) (v : Int32) : cs_wpv (cs_gc_s σ v) = cs_wpv σ := rfl
theorem zc_wpv_gr (σ : CSt) (v : Int32) : cs_wpv (cs_gr_s σ v) = cs_wpv σ := rfl
theorem zc_wpv_goR (σ : CSt) (v : (Nat → Int32)) : cs_wpv (cs_goR_s σ v) = cs_wpv σ := rfl
theorem zc_wpv_goD (σ : CSt) (v : (Nat → Int32)) : cs_wpv (cs_goD_s σ v) = cs_wpv σ := rfl
theorem zc_wpv_wre (σ : CSt) (v : Int32) : cs_wpv (cs_wre_s σ v) = cs_wpv σ := rfl
theorem zc_wpv_whd (σ : CSt) (v : (Nat → Int32)) : cs_wpv (cs_whd_s σ v) = cs_wpv σ := rfl
theorem zc_wpv_wnx (σ : CSt) (v : (Nat → Int32)) : cs_wpv (cs_wnx_s σ v) = cs_wpv σ := rfl
theorem zc_wpv_wpv (σ : CSt) (v : (Nat → Int32)) : cs_wpv (cs_wpv_s σ v) = v := rfl
theorem zc_wpv_bs (σ : CSt) (v : Int32) : cs_wpv (cs_bs_s σ v) = cs_wpv σ := rfl
theorem zc_wpv_bo (σ : CSt) (v : Int32) : cs_wpv (cs_bo_s σ v) = cs_wpv σ := rfl
theorem zc_wpv_bst (σ : CSt) (v : (Nat → Int32)) : cs_wpv (cs_bst_s σ v) = cs_wpv σ := rfl
theorem zc_wpv_ben (σ : CSt) (v : (Nat → Int32)) : cs_wpv (cs_ben_s σ v) = cs_wpv σ := rfl
theorem zc_wpv_bpu (σ : CSt) (v : (Nat → Int32)) : cs_wpv (cs_bpu_s σ v) = cs_wpv σ := rfl
theorem zc_wpv_bla (σ : CSt) (v : (Nat → Int32)) : cs_wpv (cs_bla_s σ v) = cs_wpv σ := rfl
theorem zc_wpv_bre (σ : CSt) (v : (Nat → Int32)) : cs_wpv (cs_bre_s σ v) = cs_wpv σ := rfl
theorem zc_wpv_tl (σ : CSt) (v : Int32) : cs_wpv (cs_tl_s σ v) = cs_wpv σ := rfl
theorem zc_wpv_tb (σ : CSt) (v : (Nat → Int32)) : cs_wpv (cs_tb_s σ v) = cs_wpv σ := rfl
theorem zc_wpv_tw (σ : CSt) (v : Int32) : cs_wpv (cs_tw_s σ v) = cs_wpv σ := rfl
theorem zc_wpv_tn (σ : CSt) (v : (Nat → Int32)) : cs_wpv (cs_tn_s σ v) = cs_wpv σ := rfl
theorem zc_wpv_tc (σ : CSt) (v : Int32) : cs_wpv (cs_tc_s σ v) = cs_wpv σ := rfl
theorem zc_wpv_te (σ : CSt) (v : Int32) : cs_wpv (cs_te_s σ v) = cs_wpv σ := rfl
theorem zc_wpv_tf (σ : CSt) (v : Int32) : cs_wpv (cs_tf_s σ v) = cs_wpv σ := rfl
theorem zc_wpv_sct (σ : CSt) (v : Int32) : cs_wpv (cs_sct_s σ v) = cs_wpv σ := rfl
theorem zc_wpv_sml (σ : CSt) (v : Int32) : cs_wpv (cs_sml_s σ v) = cs_wpv σ := rfl
theorem zc_wpv_sv (σ : CSt) (v : (Nat → Int32)) : cs_wpv (cs_sv_s σ v) = cs_wpv σ := rfl
theorem zc_wpv_scap (σ : CSt) (v : Nat) : cs_wpv (cs_scap_s σ v) = cs_wpv σ := rfl
theorem zc_wpv_nc (σ : CSt) (v : Nat) : cs_wpv (cs_nc_s σ v) = cs_wpv σ := rfl
theorem zc_wpv_ns (σ : CSt) (v : Nat) : cs_wpv (cs_ns_s σ v) = cs_wpv σ := rfl
theorem zc_bs_cb (σ : CSt) (v : Int32) : cs_bs (cs_cb_s σ v) = cs_bs σ := rfl
theorem zc_bs_cc (σ : CSt) (v : Int32) : cs_bs (cs_cc_s σ v) = cs_bs σ := rfl
theorem zc_bs_cp (σ : CSt) (v : Int32) : cs_bs (cs_cp_s σ v) = cs_bs σ := rfl
theorem zc_bs_ce (σ : CSt) (v : (Nat → Int32)) : cs_bs (cs_ce_s σ v) = cs_bs σ := rfl
theorem zc_bs_cq (σ : CSt) (v : (Nat → Int32)) : cs_bs (cs_cq_s σ v) = cs_bs σ := rfl
theorem zc_bs_cr (σ : CSt) (v : (Nat → Option RV)) : cs_bs (cs_cr_s σ v) = cs_bs σ := rfl
theorem zc_bs_kb (σ : CSt) (v : (Nat → Int32)) : cs_bs (cs_kb_s σ v) = cs_bs σ := rfl
theorem zc_bs_kc (σ : CSt) (v : (Nat → Int32)) : cs_bs (cs_kc_s σ v) = cs_bs σ := rfl
theorem zc_bs_kp (σ : CSt) (v : (Nat → Int32)) : cs_bs (cs_kp_s σ v) = cs_bs σ := rfl
theorem zc_bs_ke (σ : CSt) (v : (Nat → Nat → Int32)) : cs_bs (cs_ke_s σ v) = cs_bs σ := rfl
theorem zc_bs_kq (σ : CSt) (v : (Nat → Nat → Int32)) : cs_bs (cs_kq_s σ v) = cs_bs σ := rfl
theorem zc_bs_kr (σ : CSt) (v : (Nat → Nat → Option RV)) : cs_bs (cs_kr_s σ v) = cs_bs σ := rfl
theorem zc_bs_hs (σ : CSt) (v : Int32) : cs_bs (cs_hs_s σ v) = cs_bs σ := rfl
theorem zc_bs_ho (σ : CSt) (v : Int32) : cs_bs (cs_ho_s σ v) = cs_bs σ := rfl
theorem zc_bs_run (σ : CSt) (v : Int32) : cs_bs (cs_run_s σ v) = cs_bs σ := rfl
theorem zc_bs_frests (σ : CSt) (v : (Nat → Int32)) : cs_bs (cs_frests_s σ v) = cs_bs σ := rfl
theorem zc_bs_fpen (σ : CSt) (v : Int32) : cs_bs (cs_fpen_s σ v) = cs_bs σ := rfl
theorem zc_bs_fstart (σ : CSt) (v : Int32) : cs_bs (cs_fstart_s σ v) = cs_bs σ := rfl
theorem zc_bs_fss (σ : CSt) (v : Int32) : cs_bs (cs_fss_s σ v) = cs_bs σ := rfl
theorem zc_bs_fgoal (σ : CSt) (v : Int32) : cs_bs (cs_fgoal_s σ v) = cs_bs σ := rfl
theorem zc_bs_fgs (σ : CSt) (v : Int32) : cs_bs (cs_fgs_s σ v) = cs_bs σ := rfl
theorem zc_bs_fcx (σ : CSt) (v : (Nat → Int32)) : cs_bs (cs_fcx_s σ v) = cs_bs σ := rfl
theorem zc_bs_fcy (σ : CSt) (v : (Nat → Int32)) : cs_bs (cs_fcy_s σ v) = cs_bs σ := rfl
theorem zc_bs_fcn (σ : CSt) (v : Int32) : cs_bs (cs_fcn_s σ v) = cs_bs σ := rfl
theorem zc_bs_gx (σ : CSt) (v : (Nat → Int32)) : cs_bs (cs_gx_s σ v) = cs_bs σ := rfl
theorem zc_bs_gy (σ : CSt) (v : (Nat → Int32)) : cs_bs (cs_gy_s σ v) = cs_bs σ := rfl
theorem zc_bs_gc (σ : CSt) (v : Int32) : cs_bs (cs_gc_s σ v) = cs_bs σ := rfl
theorem zc_bs_gr (σ : CSt) (v : Int32) : cs_bs (cs_gr_s σ v) = cs_bs σ := rfl
theorem zc_bs_goR (σ : CSt) (v : (Nat → Int32)) : cs_bs (cs_goR_s σ v) = cs_bs σ := rfl
theorem zc_bs_goD (σ : CSt) (v : (Nat → Int32)) : cs_bs (cs_goD_s σ v) = cs_bs σ := rfl
theorem zc_bs_wre (σ : CSt) (v : Int32) : cs_bs (cs_wre_s σ v) = cs_bs σ := rfl
theorem zc_bs_whd (σ : CSt) (v : (Nat → Int32)) : cs_bs (cs_whd_s σ v) = cs_bs σ := rfl
theorem zc_bs_wnx (σ : CSt) (v : (Nat → Int32)) : cs_bs (cs_wnx_s σ v) = cs_bs σ := rfl
theorem zc_bs_wpv (σ : CSt) (v : (Nat → Int32)) : cs_bs (cs_wpv_s σ v) = cs_bs σ := rfl
theorem zc_bs_bs (σ : CSt) (v : Int32) : cs_bs (cs_bs_s σ v) = v := rfl
theorem zc_bs_bo (σ : CSt) (v : Int32) : cs_bs (cs_bo_s σ v) = cs_bs σ := rfl
theorem zc_bs_bst (σ : CSt) (v : (Nat → Int32)) : cs_bs (cs_bst_s σ v) = cs_bs σ := rfl
theorem zc_bs_ben (σ : CSt) (v : (Nat → Int32)) : cs_bs (cs_ben_s σ v) = cs_bs σ := rfl
theorem zc_bs_bpu (σ : CSt) (v : (Nat → Int32)) : cs_bs (cs_bpu_s σ v) = cs_bs σ := rfl
theorem zc_bs_bla (σ : CSt) (v : (Nat → Int32)) : cs_bs (cs_bla_s σ v) = cs_bs σ := rfl
theorem zc_bs_bre (σ : CSt) (v : (Nat → Int32)) : cs_bs (cs_bre_s σ v) = cs_bs σ := rfl
theorem zc_bs_tl (σ : CSt) (v : Int32) : cs_bs (cs_tl_s σ v) = cs_bs σ := rfl
theorem zc_bs_tb (σ : CSt) (v : (Nat → Int32)) : cs_bs (cs_tb_s σ v) = cs_bs σ := rfl
theorem zc_bs_tw (σ : CSt) (v : Int32) : cs_bs (cs_tw_s σ v) = cs_bs σ := rfl
theorem zc_bs_tn (σ : CSt) (v : (Nat → Int32)) : cs_bs (cs_tn_s σ v) = cs_bs σ := rfl
theorem zc_bs_tc (σ : CSt) (v : Int32) : cs_bs (cs_tc_s σ v) = cs_bs σ := rfl
theorem zc_bs_te (σ : CSt) (v : Int32) : cs_bs (cs_te_s σ v) = cs_bs σ := rfl
theorem zc_bs_tf (σ : CSt) (v : Int32) : cs_bs (cs_tf_s σ v) = cs_bs σ := rfl
theorem zc_bs_sct (σ : CSt) (v : Int32) : cs_bs (cs_sct_s σ v) = cs_bs σ := rfl
theorem zc_bs_sml (σ : CSt) (v : Int32) : cs_bs (cs_sml_s σ v) = cs_bs σ := rfl
theorem zc_bs_sv (σ : CSt) (v : (Nat → Int32)) : cs_bs (cs_sv_s σ v) = cs_bs σ := rfl
theorem zc_bs_scap (σ : CSt) (v : Nat) : cs_bs (cs_scap_s σ v) = cs_bs σ := rfl
theorem zc_bs_nc (σ : CSt) (v : Nat) : cs_bs (cs_nc_s σ v) = cs_bs σ := rfl
theorem zc_bs_ns (σ : CSt) (v : Nat) : cs_bs (cs_ns_s σ v) = cs_bs σ := rfl
theorem zc_bo_cb (σ : CSt) (v : Int32) : cs_bo (cs_cb_s σ v) = cs_bo σ := rfl
theorem zc_bo_cc (σ : CSt) (v : Int32) : cs_bo (cs_cc_s σ v) = cs_bo σ := rfl
theorem zc_bo_cp (σ : CSt) (v : Int32) : cs_bo (cs_cp_s σ v) = cs_bo σ := rfl
theorem zc_bo_ce (σ : CSt) (v : (Nat → Int32)) : cs_bo (cs_ce_s σ v) = cs_bo σ := rfl
theorem zc_bo_cq (σ : CSt) (v : (Nat → Int32)) : cs_bo (cs_cq_s σ v) = cs_bo σ := rfl
theorem zc_bo_cr (σ : CSt) (v : (Nat → Option RV)) : cs_bo (cs_cr_s σ v) = cs_bo σ := rfl
theorem zc_bo_kb (σ : CSt) (v : (Nat → Int32)) : cs_bo (cs_kb_s σ v) = cs_bo σ := rfl
theorem zc_bo_kc (σ : CSt) (v : (Nat → Int32)) : cs_bo (cs_kc_s σ v) = cs_bo σ := rfl
theorem zc_bo_kp (σ : CSt) (v : (Nat → Int32)) : cs_bo (cs_kp_s σ v) = cs_bo σ := rfl
theorem zc_bo_ke (σ : CSt) (v : (Nat → Nat → Int32)) : cs_bo (cs_ke_s σ v) = cs_bo σ := rfl
theorem zc_bo_kq (σ : CSt) (v : (Nat → Nat → Int32)) : cs_bo (cs_kq_s σ v) = cs_bo σ := rfl
theorem zc_bo_kr (σ : CSt) (v : (Nat → Nat → Option RV)) : cs_bo (cs_kr_s σ v) = cs_bo σ := rfl
theorem zc_bo_hs (σ : CSt) (v : Int32) : cs_bo (cs_hs_s σ v) = cs_bo σ := rfl
theorem zc_bo_ho (σ : CSt) (v : Int32) : cs_bo (cs_ho_s σ v) = cs_bo σ := rfl
theorem zc_bo_run (σ : CSt) (v : Int32) : cs_bo (cs_run_s σ v) = cs_bo σ := rfl
theorem zc_bo_frests (σ : CSt) (v : (Nat → Int32)) : cs_bo (cs_frests_s σ v) = cs_bo σ := rfl
theorem zc_bo_fpen (σ : CSt) (v : Int32) : cs_bo (cs_fpen_s σ v) = cs_bo σ := rfl
theorem zc_bo_fstart (σ : CSt) (v : Int32) : cs_bo (cs_fstart_s σ v) = cs_bo σ := rfl
theorem zc_bo_fss (σ : CSt) (v : Int32) : cs_bo (cs_fss_s σ v) = cs_bo σ := rfl
theorem zc_bo_fgoal (σ : CSt) (v : Int32) : cs_bo (cs_fgoal_s σ v) = cs_bo σ := rfl
theorem zc_bo_fgs (σ : CSt) (v : Int32) : cs_bo (cs_fgs_s σ v) = cs_bo σ := rfl
theorem zc_bo_fcx (σ : CSt) (v : (Nat → Int32)) : cs_bo (cs_fcx_s σ v) = cs_bo σ := rfl
theorem zc_bo_fcy (σ : CSt) (v : (Nat → Int32)) : cs_bo (cs_fcy_s σ v) = cs_bo σ := rfl
theorem zc_bo_fcn (σ : CSt) (v : Int32) : cs_bo (cs_fcn_s σ v) = cs_bo σ := rfl
theorem zc_bo_gx (σ : CSt) (v : (Nat → Int32)) : cs_bo (cs_gx_s σ v) = cs_bo σ := rfl
theorem zc_bo_gy (σ : CSt) (v : (Nat → Int32)) : cs_bo (cs_gy_s σ v) = cs_bo σ := rfl
theorem zc_bo_gc (σ : CSt) (v : Int32) : cs_bo (cs_gc_s σ v) = cs_bo σ := rfl
theorem zc_bo_gr (σ : CSt) (v : Int32) : cs_bo (cs_gr_s σ v) = cs_bo σ := rfl
theorem zc_bo_goR (σ : CSt) (v : (Nat → Int32)) : cs_bo (cs_goR_s σ v) = cs_bo σ := rfl
theorem zc_bo_goD (σ : CSt) (v : (Nat → Int32)) : cs_bo (cs_goD_s σ v) = cs_bo σ := rfl
theorem zc_bo_wre (σ : CSt) (v : Int32) : cs_bo (cs_wre_s σ v) = cs_bo σ := rfl
theorem zc_bo_whd (σ : CSt) (v : (Nat → Int32)) : cs_bo (cs_whd_s σ v) = cs_bo σ := rfl
theorem zc_bo_wnx (σ : CSt) (v : (Nat → Int32)) : cs_bo (cs_wnx_s σ v) = cs_bo σ := rfl
theorem zc_bo_wpv (σ : CSt) (v : (Nat → Int32)) : cs_bo (cs_wpv_s σ v) = cs_bo σ := rfl
theorem zc_bo_bs (σ : CSt) (v : Int32) : cs_bo (cs_bs_s σ v) = cs_bo σ := rfl
theorem zc_bo_bo (σ : CSt) (v : Int32) : cs_bo (cs_bo_s σ v) = v := rfl
theorem zc_bo_bst (σ : CSt) (v : (Nat → Int32)) : cs_bo (cs_bst_s σ v) = cs_bo σ := rfl
theorem zc_bo_ben (σ : CSt) (v : (Nat → Int32)) : cs_bo (cs_ben_s σ v) = cs_bo σ := rfl
theorem zc_bo_bpu (σ : CSt) (v : (Nat → Int32)) : cs_bo (cs_bpu_s σ v) = cs_bo σ := rfl
theorem zc_bo_bla (σ : CSt) (v : (Nat → Int32)) : cs_bo (cs_bla_s σ v) = cs_bo σ := rfl
theorem zc_bo_bre (σ : CSt) (v : (Nat → Int32)) : cs_bo (cs_bre_s σ v) = cs_bo σ := rfl
theorem zc_bo_tl (σ : CSt) (v : Int32) : cs_bo (cs_tl_s σ v) = cs_bo σ := rfl
theorem zc_bo_tb (σ : CSt) (v : (Nat → Int32)) : cs_bo (cs_tb_s σ v) = cs_bo σ := rfl
theorem zc_bo_tw (σ : CSt) (v : Int32) : cs_bo (cs_tw_s σ v) = cs_bo σ := rfl
theorem zc_bo_tn (σ : CSt) (v : (Nat → Int32)) : cs_bo (cs_tn_s σ v) = cs_bo σ := rfl
theorem zc_bo_tc (σ : CSt) (v : Int32) : cs_bo (cs_tc_s σ v) = cs_bo σ := rfl
theorem zc_bo_te (σ : CSt) (v : Int32) : cs_bo (cs_te_s σ v) = cs_bo σ := rfl
theorem zc_bo_tf (σ : CSt) (v : Int32) : cs_bo (cs_tf_s σ v) = cs_bo σ := rfl
theorem zc_bo_sct (σ : CSt) (v : Int32) : cs_bo (cs_sct_s σ v) = cs_bo σ := rfl
theorem zc_bo_sml (σ : CSt) (v : Int32) : cs_bo (cs_sml_s σ v) = cs_bo σ := rfl
theorem zc_bo_sv (σ : CSt) (v : (Nat → Int32)) : cs_bo (cs_sv_s σ v) = cs_bo σ := rfl
theorem zc_bo_scap (σ : CSt) (v : Nat) : cs_bo (cs_scap_s σ v) = cs_bo σ := rfl
theorem zc_bo_nc (σ : CSt) (v : Nat) : cs_bo (cs_nc_s σ v) = cs_bo σ := rfl
theorem zc_bo_ns (σ : CSt) (v : Nat) : cs_bo (cs_ns_s σ v) = cs_bo σ := rfl
theorem zc_bst_cb (σ : CSt) (v : Int32) : cs_bst (cs_cb_s σ v) = cs_bst σ := rfl
theorem zc_bst_cc (σ : CSt) (v : Int32) : cs_bst (cs_cc_s σ v) = cs_bst σ := rfl
theorem zc_bst_cp (σ : CSt) (v : Int32) : cs_bst (cs_cp_s σ v) = cs_bst σ := rfl
theorem zc_bst_ce (σ : CSt) (v : (Nat → Int32)) : cs_bst (cs_ce_s σ v) = cs_bst σ := rfl
theorem zc_bst_cq (σ : CSt) (v : (Nat → Int32)) : cs_bst (cs_cq_s σ v) = cs_bst σ := rfl
theorem zc_bst_cr (σ : CSt) (v : (Nat → Option RV)) : cs_bst (cs_cr_s σ v) = cs_bst σ := rfl
theorem zc_bst_kb (σ : CSt) (v : (Nat → Int32)) : cs_bst (cs_kb_s σ v) = cs_bst σ := rfl
theorem zc_bst_kc (σ : CSt) (v : (Nat → Int32)) : cs_bst (cs_kc_s σ v) = cs_bst σ := rfl
theorem zc_bst_kp (σ : CSt) (v : (Nat → Int32)) : cs_bst (cs_kp_s σ v) = cs_bst σ := rfl
theorem zc_bst_ke (σ : CSt) (v : (Nat → Nat → Int32)) : cs_bst (cs_ke_s σ v) = cs_bst σ := rfl
theorem zc_bst_kq (σ : CSt) (v : (Nat → Nat → Int32)) : cs_bst (cs_kq_s σ v) = cs_bst σ := rfl
theorem zc_bst_kr (σ : CSt) (v : (Nat → Nat → Option RV)) : cs_bst (cs_kr_s σ v) = cs_bst σ := rfl
theorem zc_bst_hs (σ : CSt) (v : Int32) : cs_bst (cs_hs_s σ v) = cs_bst σ := rfl
theorem zc_bst_ho (σ : CSt) (v : Int32) : cs_bst (cs_ho_s σ v) = cs_bst σ := rfl
theorem zc_bst_run (σ : CSt) (v : Int32) : cs_bst (cs_run_s σ v) = cs_bst σ := rfl
theorem zc_bst_frests (σ : CSt) (v : (Nat → Int32)) : cs_bst (cs_frests_s σ v) = cs_bst σ := rfl
theorem zc_bst_fpen (σ : CSt) (v : Int32) : cs_bst (cs_fpen_s σ v) = cs_bst σ := rfl
theorem zc_bst_fstart (σ : CSt) (v : Int32) : cs_bst (cs_fstart_s σ v) = cs_bst σ := rfl
theorem zc_bst_fss (σ : CSt) (v : Int32) : cs_bst (cs_fss_s σ v) = cs_bst σ := rfl
theorem zc_bst_fgoal (σ : CSt) (v : Int32) : cs_bst (cs_fgoal_s σ v) = cs_bst σ := rfl
theorem zc_bst_fgs (σ : CSt) (v : Int32) : cs_bst (cs_fgs_s σ v) = cs_bst σ := rfl
theorem zc_bst_fcx (σ : CSt) (v : (Nat → Int32)) : cs_bst (cs_fcx_s σ v) = cs_bst σ := rfl
theorem zc_bst_fcy (σ : CSt) (v : (Nat → Int32)) : cs_bst (cs_fcy_s σ v) = cs_bst σ := rfl
theorem zc_bst_fcn (σ : CSt) (v : Int32) : cs_bst (cs_fcn_s σ v) = cs_bst σ := rfl
theorem zc_bst_gx (σ : CSt) (v : (Nat → Int32)) : cs_bst (cs_gx_s σ v) = cs_bst σ := rfl
theorem zc_bst_gy (σ : CSt) (v : (Nat → Int32)) : cs_bst (cs_gy_s σ v) = cs_bst σ := rfl
theorem zc_bst_gc (σ : CSt) (v : Int32) : cs_bst (cs_gc_s σ v) = cs_bst σ := rfl
theorem zc_bst_gr (σ : CSt) (v : Int32) : cs_bst (cs_gr_s σ v) = cs_bst σ := rfl
theorem zc_bst_goR (σ : CSt) (v : (Nat → Int32)) : cs_bst (cs_goR_s σ v) = cs_bst σ := rfl
theorem zc_bst_goD (σ : CSt) (v : (Nat → Int32)) : cs_bst (cs_goD_s σ v) = cs_bst σ := rfl
theorem zc_bst_wre (σ : CSt) (v : Int32) : cs_bst (cs_wre_s σ v) = cs_bst σ := rfl
theorem zc_bst_whd (σ : CSt) (v : (Nat → Int32)) : cs_bst (cs_whd_s σ v) = cs_bst σ := rfl
theorem zc_bst_wnx (σ : CSt) (v : (Nat → Int32)) : cs_bst (cs_wnx_s σ v) = cs_bst σ := rfl
theorem zc_bst_wpv (σ : CSt) (v : (Nat → Int32)) : cs_bst (cs_wpv_s σ v) = cs_bst σ := rfl
theorem zc_bst_bs (σ : CSt) (v : Int32) : cs_bst (cs_bs_s σ v) = cs_bst σ := rfl
theorem zc_bst_bo (σ : CSt) (v : Int32) : cs_bst (cs_bo_s σ v) = cs_bst σ := rfl
theorem zc_bst_bst (σ : CSt) (v : (Nat → Int32)) : cs_bst (cs_bst_s σ v) = v := rfl
theorem zc_bst_ben (σ : CSt) (v : (Nat → Int32)) : cs_bst (cs_ben_s σ v) = cs_bst σ := rfl
theorem zc_bst_bpu (σ : CSt) (v : (Nat → Int32)) : cs_bst (cs_bpu_s σ v) = cs_bst σ := rfl
theorem zc_bst_bla (σ : CSt) (v : (Nat → Int32)) : cs_bst (cs_bla_s σ v) = cs_bst σ := rfl
theorem zc_bst_bre (σ : CSt) (v : (Nat → Int32)) : cs_bst (cs_bre_s σ v) = cs_bst σ := rfl
theorem zc_bst_tl (σ : CSt) (v : Int32) : cs_bst (cs_tl_s σ v) = cs_bst σ := rfl
theorem zc_bst_tb (σ : CSt) (v : (Nat → Int32)) : cs_bst (cs_tb_s σ v) = cs_bst σ := rfl
theorem zc_bst_tw (σ : CSt) (v : Int32) : cs_bst (cs_tw_s σ v) = cs_bst σ := rfl
theorem zc_bst_tn (σ : CSt) (v : (Nat → Int32)) : cs_bst (cs_tn_s σ v) = cs_bst σ := rfl
theorem zc_bst_tc (σ : CSt) (v : Int32) : cs_bst (cs_tc_s σ v) = cs_bst σ := rfl
theorem zc_bst_te (σ : CSt) (v : Int32) : cs_bst (cs_te_s σ v) = cs_bst σ := rfl
theorem zc_bst_tf (σ : CSt) (v : Int32) : cs_bst (cs_tf_s σ v) = cs_bst σ := rfl
theorem zc_bst_sct (σ : CSt) (v : Int32) : cs_bst (cs_sct_s σ v) = cs_bst σ := rfl
theorem zc_bst_sml (σ : CSt) (v : Int32) : cs_bst (cs_sml_s σ v) = cs_bst σ := rfl
theorem zc_bst_sv (σ : CSt) (v : (Nat → Int32)) : cs_bst (cs_sv_s σ v) = cs_bst σ := rfl
theorem zc_bst_scap (σ : CSt) (v : Nat) : cs_bst (cs_scap_s σ v) = cs_bst σ := rfl
theorem zc_bst_nc (σ : CSt) (v : Nat) : cs_bst (cs_nc_s σ v) = cs_bst σ := rfl
theorem zc_bst_ns (σ : CSt) (v : Nat) : cs_bst (cs_ns_s σ v) = cs_bst σ := rfl
theorem zc_ben_cb (σ : CSt) (v : Int32) : cs_ben (cs_cb_s σ v) = cs_ben σ := rfl
theorem zc_ben_cc (σ : CSt) (v : Int32) : cs_ben (cs_cc_s σ v) = cs_ben σ := rfl
theorem zc_ben_cp (σ : CSt) (v : Int32) : cs_ben (cs_cp_s σ v) = cs_ben σ := rfl
theorem zc_ben_ce (σ : CSt) (v : (Nat → Int32)) : cs_ben (cs_ce_s σ v) = cs_ben σ := rfl
theorem zc_ben_cq (σ : CSt) (v : (Nat → Int32)) : cs_ben (cs_cq_s σ v) = cs_ben σ := rfl
theorem zc_ben_cr (σ : CSt) (v : (Nat → Option RV)) : cs_ben (cs_cr_s σ v) = cs_ben σ := rfl
theorem zc_ben_kb (σ : CSt) (v : (Nat → Int32)) : cs_ben (cs_kb_s σ v) = cs_ben σ := rfl
theorem zc_ben_kc (σ : CSt) (v : (Nat → Int32)) : cs_ben (cs_kc_s σ v) = cs_ben σ := rfl
theorem zc_ben_kp (σ : CSt) (v : (Nat → Int32)) : cs_ben (cs_kp_s σ v) = cs_ben σ := rfl
theorem zc_ben_ke (σ : CSt) (v : (Nat → Nat → Int32)) : cs_ben (cs_ke_s σ v) = cs_ben σ := rfl
theorem zc_ben_kq (σ : CSt) (v : (Nat → Nat → Int32)) : cs_ben (cs_kq_s σ v) = cs_ben σ := rfl
theorem zc_ben_kr (σ : CSt) (v : (Nat → Nat → Option RV)) : cs_ben (cs_kr_s σ v) = cs_ben σ := rfl
theorem zc_ben_hs (σ : CSt) (v : Int32) : cs_ben (cs_hs_s σ v) = cs_ben σ := rfl
theorem zc_ben_ho (σ : CSt) (v : Int32) : cs_ben (cs_ho_s σ v) = cs_ben σ := rfl
theorem zc_ben_run (σ : CSt) (v : Int32) : cs_ben (cs_run_s σ v) = cs_ben σ := rfl
theorem zc_ben_frests (σ : CSt) (v : (Nat → Int32)) : cs_ben (cs_frests_s σ v) = cs_ben σ := rfl
theorem zc_ben_fpen (σ : CSt) (v : Int32) : cs_ben (cs_fpen_s σ v) = cs_ben σ := rfl
theorem zc_ben_fstart (σ : CSt) (v : Int32) : cs_ben (cs_fstart_s σ v) = cs_ben σ := rfl
theorem zc_ben_fss (σ : CSt) (v : Int32) : cs_ben (cs_fss_s σ v) = cs_ben σ := rfl
theorem zc_ben_fgoal (σ : CSt) (v : Int32) : cs_ben (cs_fgoal_s σ v) = cs_ben σ := rfl
theorem zc_ben_fgs (σ : CSt) (v : Int32) : cs_ben (cs_fgs_s σ v) = cs_ben σ := rfl
theorem zc_ben_fcx (σ : CSt) (v : (Nat → Int32)) : cs_ben (cs_fcx_s σ v) = cs_ben σ := rfl
theorem zc_ben_fcy (σ : CSt) (v : (Nat → Int32)) : cs_ben (cs_fcy_s σ v) = cs_ben σ := rfl
theorem zc_ben_fcn (σ : CSt) (v : Int32) : cs_ben (cs_fcn_s σ v) = cs_ben σ := rfl
theorem zc_ben_gx (σ : CSt) (v : (Nat → Int32)) : cs_ben (cs_gx_s σ v) = cs_ben σ := rfl
theorem zc_ben_gy (σ : CSt) (v : (Nat → Int32)) : cs_ben (cs_gy_s σ v) = cs_ben σ := rfl
theorem zc_ben_gc (σ : CSt) (v : Int32) : cs_ben (cs_gc_s σ v) = cs_ben σ := rfl
theorem zc_ben_gr (σ : CSt) (v : Int32) : cs_ben (cs_gr_s σ v) = cs_ben σ := rfl
theorem zc_ben_goR (σ : CSt) (v : (Nat → Int32)) : cs_ben (cs_goR_s σ v) = cs_ben σ := rfl
theorem zc_ben_goD (σ : CSt) (v : (Nat → Int32)) : cs_ben (cs_goD_s σ v) = cs_ben σ := rfl
theorem zc_ben_wre (σ : CSt) (v : Int32) : cs_ben (cs_wre_s σ v) = cs_ben σ := rfl
theorem zc_ben_whd (σ : CSt) (v : (Nat → Int32)) : cs_ben (cs_whd_s σ v) = cs_ben σ := rfl
theorem zc_ben_wnx (σ : CSt) (v : (Nat → Int32)) : cs_ben (cs_wnx_s σ v) = cs_ben σ := rfl
theorem zc_ben_wpv (σ : CSt) (v : (Nat → Int32)) : cs_ben (cs_wpv_s σ v) = cs_ben σ := rfl
theorem zc_ben_bs (σ : CSt) (v : Int32) : cs_ben (cs_bs_s σ v) = cs_ben σ := rfl
theorem zc_ben_bo (σ : CSt) (v : Int32) : cs_ben (cs_bo_s σ v) = cs_ben σ := rfl
theorem zc_ben_bst (σ : CSt) (v : (Nat → Int32)) : cs_ben (cs_bst_s σ v) = cs_ben σ := rfl
theorem zc_ben_ben (σ : CSt) (v : (Nat → Int32)) : cs_ben (cs_ben_s σ v) = v := rfl
theorem zc_ben_bpu (σ : CSt) (v : (Nat → Int32)) : cs_ben (cs_bpu_s σ v) = cs_ben σ := rfl
theorem zc_ben_bla (σ : CSt) (v : (Nat → Int32)) : cs_ben (cs_bla_s σ v) = cs_ben σ := rfl
theorem zc_ben_bre (σ : CSt) (v : (Nat → Int32)) : cs_ben (cs_bre_s σ v) = cs_ben σ := rfl
theorem zc_ben_tl (σ : CSt) (v : Int32) : cs_ben (cs_tl_s σ v) = cs_ben σ := rfl
theorem zc_ben_tb (σ : CSt) (v : (Nat → Int32)) : cs_ben (cs_tb_s σ v) = cs_ben σ := rfl
theorem zc_ben_tw (σ : CSt) (v : Int32) : cs_ben (cs_tw_s σ v) = cs_ben σ := rfl
theorem zc_ben_tn (σ : CSt) (v : (Nat → Int32)) : cs_ben (cs_tn_s σ v) = cs_ben σ := rfl
theorem zc_ben_tc (σ : CSt) (v : Int32) : cs_ben (cs_tc_s σ v) = cs_ben σ := rfl
theorem zc_ben_te (σ : CSt) (v : Int32) : cs_ben (cs_te_s σ v) = cs_ben σ := rfl
theorem zc_ben_tf (σ : CSt) (v : Int32) : cs_ben (cs_tf_s σ v) = cs_ben σ := rfl
theorem zc_ben_sct (σ : CSt) (v : Int32) : cs_ben (cs_sct_s σ v) = cs_ben σ := rfl
theorem zc_ben_sml (σ : CSt) (v : Int32) : cs_ben (cs_sml_s σ v) = cs_ben σ := rfl
theorem zc_ben_sv (σ : CSt) (v : (Nat → Int32)) : cs_ben (cs_sv_s σ v) = cs_ben σ := rfl
theorem zc_ben_scap (σ : CSt) (v : Nat) : cs_ben (cs_scap_s σ v) = cs_ben σ := rfl
theorem zc_ben_nc (σ : CSt) (v : Nat) : cs_ben (cs_nc_s σ v) = cs_ben σ := rfl
theorem zc_ben_ns (σ : CSt) (v : Nat) : cs_ben (cs_ns_s σ v) = cs_ben σ := rfl
theorem zc_bpu_cb (σ : CSt) (v : Int32) : cs_bpu (cs_cb_s σ v) = cs_bpu σ := rfl
theorem zc_bpu_cc (σ : CSt) (v : Int32) : cs_bpu (cs_cc_s σ v) = cs_bpu σ := rfl
theorem zc_bpu_cp (σ : CSt) (v : Int32) : cs_bpu (cs_cp_s σ v) = cs_bpu σ := rfl
theorem zc_bpu_ce (σ : CSt) (v : (Nat → Int32)) : cs_bpu (cs_ce_s σ v) = cs_bpu σ := rfl
theorem zc_bpu_cq (σ : CSt) (v : (Nat → Int32)) : cs_bpu (cs_cq_s σ v) = cs_bpu σ := rfl
theorem zc_bpu_cr (σ : CSt) (v : (Nat → Option RV)) : cs_bpu (cs_cr_s σ v) = cs_bpu σ := rfl
theorem zc_bpu_kb (σ : CSt) (v : (Nat → Int32)) : cs_bpu (cs_kb_s σ v) = cs_bpu σ := rfl
theorem zc_bpu_kc (σ : CSt) (v : (Nat → Int32)) : cs_bpu (cs_kc_s σ v) = cs_bpu σ := rfl
theorem zc_bpu_kp (σ : CSt) (v : (Nat → Int32)) : cs_bpu (cs_kp_s σ v) = cs_bpu σ := rfl
theorem zc_bpu_ke (σ : CSt) (v : (Nat → Nat → Int32)) : cs_bpu (cs_ke_s σ v) = cs_bpu σ := rfl
theorem zc_bpu_kq (σ : CSt) (v : (Nat → Nat → Int32)) : cs_bpu (cs_kq_s σ v) = cs_bpu σ := rfl
theorem zc_bpu_kr (σ : CSt) (v : (Nat → Nat → Option RV)) : cs_bpu (cs_kr_s σ v) = cs_bpu σ := rfl
theorem zc_bpu_hs (σ : CSt) (v : Int32) : cs_bpu (cs_hs_s σ v) = cs_bpu σ := rfl
theorem zc_bpu_ho (σ : CSt) (v : Int32) : cs_bpu (cs_ho_s σ v) = cs_bpu σ := rfl
theorem zc_bpu_run (σ : CSt) (v : Int32) : cs_bpu (cs_run_s σ v) = cs_bpu σ := rfl
theorem zc_bpu_frests (σ : CSt) (v : (Nat → Int32)) : cs_bpu (cs_frests_s σ v) = cs_bpu σ := rfl
theorem zc_bpu_fpen (σ : CSt) (v : Int32) : cs_bpu (cs_fpen_s σ v) = cs_bpu σ := rfl
theorem zc_bpu_fstart (σ : CSt) (v : Int32) : cs_bpu (cs_fstart_s σ v) = cs_bpu σ := rfl
theorem zc_bpu_fss (σ : CSt) (v : Int32) : cs_bpu (cs_fss_s σ v) = cs_bpu σ := rfl
theorem zc_bpu_fgoal (σ : CSt) (v : Int32) : cs_bpu (cs_fgoal_s σ v) = cs_bpu σ := rfl
theorem zc_bpu_fgs (σ : CSt) (v : Int32) : cs_bpu (cs_fgs_s σ v) = cs_bpu σ := rfl
theorem zc_bpu_fcx (σ : CSt) (v : (Nat → Int32)) : cs_bpu (cs_fcx_s σ v) = cs_bpu σ := rfl
theorem zc_bpu_fcy (σ : CSt) (v : (Nat → Int32)) : cs_bpu (cs_fcy_s σ v) = cs_bpu σ := rfl
theorem zc_bpu_fcn (σ : CSt) (v : Int32) : cs_bpu (cs_fcn_s σ v) = cs_bpu σ := rfl
theorem zc_bpu_gx (σ : CSt) (v : (Nat → Int32)) : cs_bpu (cs_gx_s σ v) = cs_bpu σ := rfl
theorem zc_bpu_gy (σ : CSt) (v : (Nat → Int32)) : cs_bpu (cs_gy_s σ v) = cs_bpu σ := rfl
theorem zc_bpu_gc (σ : CSt) (v : Int32) : cs_bpu (cs_gc_s σ v) = cs_bpu σ := rfl
theorem zc_bpu_gr (σ : CSt) (v : Int32) : cs_bpu (cs_gr_s σ v) = cs_bpu σ := rfl
theorem zc_bpu_goR (σ : CSt) (v : (Nat → Int32)) : cs_bpu (cs_goR_s σ v) = cs_bpu σ := rfl
theorem zc_bpu_goD (σ : CSt) (v : (Nat → Int32)) : cs_bpu (cs_goD_s σ v) = cs_bpu σ := rfl
theorem zc_bpu_wre (σ : CSt) (v : Int32) : cs_bpu (cs_wre_s σ v) = cs_bpu σ := rfl
theorem zc_bpu_whd (σ : CSt) (v : (Nat → Int32)) : cs_bpu (cs_whd_s σ v) = cs_bpu σ := rfl
theorem zc_bpu_wnx (σ : CSt) (v : (Nat → Int32)) : cs_bpu (cs_wnx_s σ v) = cs_bpu σ := rfl
theorem zc_bpu_wpv (σ : CSt) (v : (Nat → Int32)) : cs_bpu (cs_wpv_s σ v) = cs_bpu σ := rfl
theorem zc_bpu_bs (σ : CSt) (v : Int32) : cs_bpu (cs_bs_s σ v) = cs_bpu σ := rfl
theorem zc_bpu_bo (σ : CSt) (v : Int32) : cs_bpu (cs_bo_s σ v) = cs_bpu σ := rfl
theorem zc_bpu_bst (σ : CSt) (v : (Nat → Int32)) : cs_bpu (cs_bst_s σ v) = cs_bpu σ := rfl
theorem zc_bpu_ben (σ : CSt) (v : (Nat → Int32)) : cs_bpu (cs_ben_s σ v) = cs_bpu σ := rfl
theorem zc_bpu_bpu (σ : CSt) (v : (Nat → Int32)) : cs_bpu (cs_bpu_s σ v) = v := rfl
theorem zc_bpu_bla (σ : CSt) (v : (Nat → Int32)) : cs_bpu (cs_bla_s σ v) = cs_bpu σ := rfl
theorem zc_bpu_bre (σ : CSt) (v : (Nat → Int32)) : cs_bpu (cs_bre_s σ v) = cs_bpu σ := rfl
theorem zc_bpu_tl (σ : CSt) (v : Int32) : cs_bpu (cs_tl_s σ v) = cs_bpu σ := rfl
theorem zc_bpu_tb (σ : CSt) (v : (Nat → Int32)) : cs_bpu (cs_tb_s σ v) = cs_bpu σ := rfl
theorem zc_bpu_tw (σ : CSt) (v : Int32) : cs_bpu (cs_tw_s σ v) = cs_bpu σ := rfl
theorem zc_bpu_tn (σ : CSt) (v : (Nat → Int32)) : cs_bpu (cs_tn_s σ v) = cs_bpu σ := rfl
theorem zc_bpu_tc (σ : CSt) (v : Int32) : cs_bpu (cs_tc_s σ v) = cs_bpu σ := rfl
theorem zc_bpu_te (σ : CSt) (v : Int32) : cs_bpu (cs_te_s σ v) = cs_bpu σ := rfl
theorem zc_bpu_tf (σ : CSt) (v : Int32) : cs_bpu (cs_tf_s σ v) = cs_bpu σ := rfl
theorem zc_bpu_sct (σ : CSt) (v : Int32) : cs_bpu (cs_sct_s σ v) = cs_bpu σ := rfl
theorem zc_bpu_sml (σ : CSt) (v : Int32) : cs_bpu (cs_sml_s σ v) = cs_bpu σ := rfl
theorem zc_bpu_sv (σ : CSt) (v : (Nat → Int32)) : cs_bpu (cs_sv_s σ v) = cs_bpu σ := rfl
theorem zc_bpu_scap (σ : CSt) (v : Nat) : cs_bpu (cs_scap_s σ v) = cs_bpu σ := rfl
theorem zc_bpu_nc (σ : CSt) (v : Nat) : cs_bpu (cs_nc_s σ v) = cs_bpu σ := rfl
theorem zc_bpu_ns (σ : CSt) (v : Nat) : cs_bpu (cs_ns_s σ v) = cs_bpu σ := rfl
theorem zc_bla_cb (σ : CSt) (v : Int32) : cs_bla (cs_cb_s σ v) = cs_bla σ := rfl
theorem zc_bla_cc (σ : CSt) (v : Int32) : cs_bla (cs_cc_s σ v) = cs_bla σ := rfl
theorem zc_bla_cp (σ : CSt) (v : Int32) : cs_bla (cs_cp_s σ v) = cs_bla σ := rfl
theorem zc_bla_ce (σ : CSt) (v : (Nat → Int32)) : cs_bla (cs_ce_s σ v) = cs_bla σ := rfl
theorem zc_bla_cq (σ : CSt) (v : (Nat → Int32)) : cs_bla (cs_cq_s σ v) = cs_bla σ := rfl
theorem zc_bla_cr (σ : CSt) (v : (Nat → Option RV)) : cs_bla (cs_cr_s σ v) = cs_bla σ := rfl
theorem zc_bla_kb (σ : CSt) (v : (Nat → Int32)) : cs_bla (cs_kb_s σ v) = cs_bla σ := rfl
theorem zc_bla_kc (σ : CSt) (v : (Nat → Int32)) : cs_bla (cs_kc_s σ v) = cs_bla σ := rfl
theorem zc_bla_kp (σ : CSt) (v : (Nat → Int32)) : cs_bla (cs_kp_s σ v) = cs_bla σ := rfl
theorem zc_bla_ke (σ : CSt) (v : (Nat → Nat → Int32)) : cs_bla (cs_ke_s σ v) = cs_bla σ := rfl
theorem zc_bla_kq (σ : CSt) (v : (Nat → Nat → Int32)) : cs_bla (cs_kq_s σ v) = cs_bla σ := rfl
theorem zc_bla_kr (σ : CSt) (v : (Nat → Nat → Option RV)) : cs_bla (cs_kr_s σ v) = cs_bla σ := rfl
theorem zc_bla_hs (σ : CSt) (v : Int32) : cs_bla (cs_hs_s σ v) = cs_bla σ := rfl
theorem zc_bla_ho (σ : CSt) (v : Int32) : cs_bla (cs_ho_s σ v) = cs_bla σ := rfl
theorem zc_bla_run (σ : CSt) (v : Int32) : cs_bla (cs_run_s σ v) = cs_bla σ := rfl
theorem zc_bla_frests (σ : CSt) (v : (Nat → Int32)) : cs_bla (cs_frests_s σ v) = cs_bla σ := rfl
theorem zc_bla_fpen (σ : CSt) (v : Int32) : cs_bla (cs_fpen_s σ v) = cs_bla σ := rfl
theorem zc_bla_fstart (σ : CSt) (v : Int32) : cs_bla (cs_fstart_s σ v) = cs_bla σ := rfl
theorem zc_bla_fss (σ : CSt) (v : Int32) : cs_bla (cs_fss_s σ v) = cs_bla σ := rfl
theorem zc_bla_fgoal (σ : CSt) (v : Int32) : cs_bla (cs_fgoal_s σ v) = cs_bla σ := rfl
theorem zc_bla_fgs (σ : CSt) (v : Int32) : cs_bla (cs_fgs_s σ v) = cs_bla σ := rfl
theorem zc_bla_fcx (σ : CSt) (v : (Nat → Int32)) : cs_bla (cs_fcx_s σ v) = cs_bla σ := rfl
theorem zc_bla_fcy (σ : CSt) (v : (Nat → Int32)) : cs_bla (cs_fcy_s σ v) = cs_bla σ := rfl
theorem zc_bla_fcn (σ : CSt) (v : Int32) : cs_bla (cs_fcn_s σ v) = cs_bla σ := rfl
theorem zc_bla_gx (σ : CSt) (v : (Nat → Int32)) : cs_bla (cs_gx_s σ v) = cs_bla σ := rfl
theorem zc_bla_gy (σ : CSt) (v : (Nat → Int32)) : cs_bla (cs_gy_s σ v) = cs_bla σ := rfl
theorem zc_bla_gc (σ : CSt) (v : Int32) : cs_bla (cs_gc_s σ v) = cs_bla σ := rfl
theorem zc_bla_gr (σ : CSt) (v : Int32) : cs_bla (cs_gr_s σ v) = cs_bla σ := rfl
theorem zc_bla_goR (σ : CSt) (v : (Nat → Int32)) : cs_bla (cs_goR_s σ v) = cs_bla σ := rfl
theorem zc_bla_goD (σ : CSt) (v : (Nat → Int32)) : cs_bla (cs_goD_s σ v) = cs_bla σ := rfl
theorem zc_bla_wre (σ : CSt) (v : Int32) : cs_bla (cs_wre_s σ v) = cs_bla σ := rfl
theorem zc_bla_whd (σ : CSt) (v : (Nat → Int32)) : cs_bla (cs_whd_s σ v) = cs_bla σ := rfl
theorem zc_bla_wnx (σ : CSt) (v : (Nat → Int32)) : cs_bla (cs_wnx_s σ v) = cs_bla σ := rfl
theorem zc_bla_wpv (σ : CSt) (v : (Nat → Int32)) : cs_bla (cs_wpv_s σ v) = cs_bla σ := rfl
theorem zc_bla_bs (σ : CSt) (v : Int32) : cs_bla (cs_bs_s σ v) = cs_bla σ := rfl
theorem zc_bla_bo (σ : CSt) (v : Int32) : cs_bla (cs_bo_s σ v) = cs_bla σ := rfl
theorem zc_bla_bst (σ : CSt) (v : (Nat → Int32)) : cs_bla (cs_bst_s σ v) = cs_bla σ := rfl
theorem zc_bla_ben (σ : CSt) (v : (Nat → Int32)) : cs_bla (cs_ben_s σ v) = cs_bla σ := rfl
theorem zc_bla_bpu (σ : CSt) (v : (Nat → Int32)) : cs_bla (cs_bpu_s σ v) = cs_bla σ := rfl
theorem zc_bla_bla (σ : CSt) (v : (Nat → Int32)) : cs_bla (cs_bla_s σ v) = v := rfl
theorem zc_bla_bre (σ : CSt) (v : (Nat → Int32)) : cs_bla (cs_bre_s σ v) = cs_bla σ := rfl
theorem zc_bla_tl (σ : CSt) (v : Int32) : cs_bla (cs_tl_s σ v) = cs_bla σ := rfl
theorem zc_bla_tb (σ : CSt) (v : (Nat → Int32)) : cs_bla (cs_tb_s σ v) = cs_bla σ := rfl
theorem zc_bla_tw (σ : CSt) (v : Int32) : cs_bla (cs_tw_s σ v) = cs_bla σ := rfl
theorem zc_bla_tn (σ : CSt) (v : (Nat → Int32)) : cs_bla (cs_tn_s σ v) = cs_bla σ := rfl
theorem zc_bla_tc (σ : CSt) (v : Int32) : cs_bla (cs_tc_s σ v) = cs_bla σ := rfl
theorem zc_bla_te (σ : CSt) (v : Int32) : cs_bla (cs_te_s σ v) = cs_bla σ := rfl
theorem zc_bla_tf (σ : CSt) (v : Int32) : cs_bla (cs_tf_s σ v) = cs_bla σ := rfl
theorem zc_bla_sct (σ : CSt) (v : Int32) : cs_bla (cs_sct_s σ v) = cs_bla σ := rfl
theorem zc_bla_sml (σ : CSt) (v : Int32) : cs_bla (cs_sml_s σ v) = cs_bla σ := rfl
theorem zc_bla_sv (σ : CSt) (v : (Nat → Int32)) : cs_bla (cs_sv_s σ v) = cs_bla σ := rfl
theorem zc_bla_scap (σ : CSt) (v : Nat) : cs_bla (cs_scap_s σ v) = cs_bla σ := rfl
theorem zc_bla_nc (σ : CSt) (v : Nat) : cs_bla (cs_nc_s σ v) = cs_bla σ := rfl
theorem zc_bla_ns (σ : CSt) (v : Nat) : cs_bla (cs_ns_s σ v) = cs_bla σ := rfl
theorem zc_bre_cb (σ : CSt) (v : Int32) : cs_bre (cs_cb_s σ v) = cs_bre σ := rfl
theorem zc_bre_cc (σ : CSt) (v : Int32) : cs_bre (cs_cc_s σ v) = cs_bre σ := rfl
theorem zc_bre_cp (σ : CSt) (v : Int32) : cs_bre (cs_cp_s σ v) = cs_bre σ := rfl
theorem zc_bre_ce (σ : CSt) (v : (Nat → Int32)) : cs_bre (cs_ce_s σ v) = cs_bre σ := rfl
theorem zc_bre_cq (σ : CSt) (v : (Nat → Int32)) : cs_bre (cs_cq_s σ v) = cs_bre σ := rfl
theorem zc_bre_cr (σ : CSt) (v : (Nat → Option RV)) : cs_bre (cs_cr_s σ v) = cs_bre σ := rfl
theorem zc_bre_kb (σ : CSt) (v : (Nat → Int32)) : cs_bre (cs_kb_s σ v) = cs_bre σ := rfl
theorem zc_bre_kc (σ : CSt) (v : (Nat → Int32)) : cs_bre (cs_kc_s σ v) = cs_bre σ := rfl
theorem zc_bre_kp (σ : CSt) (v : (Nat → Int32)) : cs_bre (cs_kp_s σ v) = cs_bre σ := rfl
theorem zc_bre_ke (σ : CSt) (v : (Nat → Nat → Int32)) : cs_bre (cs_ke_s σ v) = cs_bre σ := rfl
theorem zc_bre_kq (σ : CSt) (v : (Nat → Nat → Int32)) : cs_bre (cs_kq_s σ v) = cs_bre σ := rfl
theorem zc_bre_kr (σ : CSt) (v : (Nat → Nat → Option RV)) : cs_bre (cs_kr_s σ v) = cs_bre σ := rfl
theorem zc_bre_hs (σ : CSt) (v : Int32) : cs_bre (cs_hs_s σ v) = cs_bre σ := rfl
theorem zc_bre_ho (σ : CSt) (v : Int32) : cs_bre (cs_ho_s σ v) = cs_bre σ := rfl
theorem zc_bre_run (σ : CSt) (v : Int32) : cs_bre (cs_run_s σ v) = cs_bre σ := rfl
theorem zc_bre_frests (σ : CSt) (v : (Nat → Int32)) : cs_bre (cs_frests_s σ v) = cs_bre σ := rfl
theorem zc_bre_fpen (σ : CSt) (v : Int32) : cs_bre (cs_fpen_s σ v) = cs_bre σ := rfl
theorem zc_bre_fstart (σ : CSt) (v : Int32) : cs_bre (cs_fstart_s σ v) = cs_bre σ := rfl
theorem zc_bre_fss (σ : CSt) (v : Int32) : cs_bre (cs_fss_s σ v) = cs_bre σ := rfl
theorem zc_bre_fgoal (σ : CSt) (v : Int32) : cs_bre (cs_fgoal_s σ v) = cs_bre σ := rfl
theorem zc_bre_fgs (σ : CSt) (v : Int32) : cs_bre (cs_fgs_s σ v) = cs_bre σ := rfl
theorem zc_bre_fcx (σ : CSt) (v : (Nat → Int32)) : cs_bre (cs_fcx_s σ v) = cs_bre σ := rfl
theorem zc_bre_fcy (σ : CSt) (v : (Nat → Int32)) : cs_bre (cs_fcy_s σ v) = cs_bre σ := rfl
theorem zc_bre_fcn (σ : CSt) (v : Int32) : cs_bre (cs_fcn_s σ v) = cs_bre σ := rfl
theorem zc_bre_gx (σ : CSt) (v : (Nat → Int32)) : cs_bre (cs_gx_s σ v) = cs_bre σ := rfl
theorem zc_bre_gy (σ : CSt) (v : (Nat → Int32)) : cs_bre (cs_gy_s σ v) = cs_bre σ := rfl
theorem zc_bre_gc (σ : CSt) (v : Int32) : cs_bre (cs_gc_s σ v) = cs_bre σ := rfl
theorem zc_bre_gr (σ : CSt) (v : Int32) : cs_bre (cs_gr_s σ v) = cs_bre σ := rfl
theorem zc_bre_goR (σ : CSt) (v : (Nat → Int32)) : cs_bre (cs_goR_s σ v) = cs_bre σ := rfl
theorem zc_bre_goD (σ : CSt) (v : (Nat → Int32)) : cs_bre (cs_goD_s σ v) = cs_bre σ := rfl
theorem zc_bre_wre (σ : CSt) (v : Int32) : cs_bre (cs_wre_s σ v) = cs_bre σ := rfl
theorem zc_bre_whd (σ : CSt) (v : (Nat → Int32)) : cs_bre (cs_whd_s σ v) = cs_bre σ := rfl
theorem zc_bre_wnx (σ : CSt) (v : (Nat → Int32)) : cs_bre (cs_wnx_s σ v) = cs_bre σ := rfl
theorem zc_bre_wpv (σ : CSt) (v : (Nat → Int32)) : cs_bre (cs_wpv_s σ v) = cs_bre σ := rfl
theorem zc_bre_bs (σ : CSt) (v : Int32) : cs_bre (cs_bs_s σ v) = cs_bre σ := rfl
theorem zc_bre_bo (σ : CSt) (v : Int32) : cs_bre (cs_bo_s σ v) = cs_bre σ := rfl
theorem zc_bre_bst (σ : CSt) (v : (Nat → Int32)) : cs_bre (cs_bst_s σ v) = cs_bre σ := rfl
theorem zc_bre_ben (σ : CSt) (v : (Nat → Int32)) : cs_bre (cs_ben_s σ v) = cs_bre σ := rfl
theorem zc_bre_bpu (σ : CSt) (v : (Nat → Int32)) : cs_bre (cs_bpu_s σ v) = cs_bre σ := rfl
theorem zc_bre_bla (σ : CSt) (v : (Nat → Int32)) : cs_bre (cs_bla_s σ v) = cs_bre σ := rfl
theorem zc_bre_bre (σ : CSt) (v : (Nat → Int32)) : cs_bre (cs_bre_s σ v) = v := rfl
theorem zc_bre_tl (σ : CSt) (v : Int32) : cs_bre (cs_tl_s σ v) = cs_bre σ := rfl
theorem zc_bre_tb (σ : CSt) (v : (Nat → Int32)) : cs_bre (cs_tb_s σ v) = cs_bre σ := rfl
theorem zc_bre_tw (σ : CSt) (v : Int32) : cs_bre (cs_tw_s σ v) = cs_bre σ := rfl
theorem zc_bre_tn (σ : CSt) (v : (Nat → Int32)) : cs_bre (cs_tn_s σ v) = cs_bre σ := rfl
theorem zc_bre_tc (σ : CSt) (v : Int32) : cs_bre (cs_tc_s σ v) = cs_bre σ := rfl
theorem zc_bre_te (σ : CSt) (v : Int32) : cs_bre (cs_te_s σ v) = cs_bre σ := rfl
theorem zc_bre_tf (σ : CSt) (v : Int32) : cs_bre (cs_tf_s σ v) = cs_bre σ := rfl
theorem zc_bre_sct (σ : CSt) (v : Int32) : cs_bre (cs_sct_s σ v) = cs_bre σ := rfl
theorem zc_bre_sml (σ : CSt) (v : Int32) : cs_bre (cs_sml_s σ v) = cs_bre σ := rfl
theorem zc_bre_sv (σ : CSt) (v : (Nat → Int32)) : cs_bre (cs_sv_s σ v) = cs_bre σ := rfl
theorem zc_bre_scap (σ : CSt) (v : Nat) : cs_bre (cs_scap_s σ v) = cs_bre σ := rfl
theorem zc_bre_nc (σ : CSt) (v : Nat) : cs_bre (cs_nc_s σ v) = cs_bre σ := rfl
theorem zc_bre_ns (σ : CSt) (v : Nat) : cs_bre (cs_ns_s σ v) = cs_bre σ := rfl
theorem zc_tl_cb (σ : CSt) (v : Int32) : cs_tl (cs_cb_s σ v) = cs_tl σ := rfl
theorem zc_tl_cc (σ : CSt) (v : Int32) : cs_tl (cs_cc_s σ v) = cs_tl σ := rfl
theorem zc_tl_cp (σ : CSt) (v : Int32) : cs_tl (cs_cp_s σ v) = cs_tl σ := rfl
theorem zc_tl_ce (σ : CSt) (v : (Nat → Int32)) : cs_tl (cs_ce_s σ v) = cs_tl σ := rfl
theorem zc_tl_cq (σ : CSt) (v : (Nat → Int32)) : cs_tl (cs_cq_s σ v) = cs_tl σ := rfl
theorem zc_tl_cr (σ : CSt) (v : (Nat → Option RV)) : cs_tl (cs_cr_s σ v) = cs_tl σ := rfl
theorem zc_tl_kb (σ : CSt) (v : (Nat → Int32)) : cs_tl (cs_kb_s σ v) = cs_tl σ := rfl
theorem zc_tl_kc (σ : CSt) (v : (Nat → Int32)) : cs_tl (cs_kc_s σ v) = cs_tl σ := rfl
theorem zc_tl_kp (σ : CSt) (v : (Nat → Int32)) : cs_tl (cs_kp_s σ v) = cs_tl σ := rfl
theorem zc_tl_ke (σ : CSt) (v : (Nat → Nat → Int32)) : cs_tl (cs_ke_s σ v) = cs_tl σ := rfl
theorem zc_tl_kq (σ : CSt) (v : (Nat → Nat → Int32)) : cs_tl (cs_kq_s σ v) = cs_tl σ := rfl
theorem zc_tl_kr (σ : CSt) (v : (Nat → Nat → Option RV)) : cs_tl (cs_kr_s σ v) = cs_tl σ := rfl
theorem zc_tl_hs (σ : CSt) (v : Int32) : cs_tl (cs_hs_s σ v) = cs_tl σ := rfl
theorem zc_tl_ho (σ : CSt) (v : Int32) : cs_tl (cs_ho_s σ v) = cs_tl σ := rfl
theorem zc_tl_run (σ : CSt) (v : Int32) : cs_tl (cs_run_s σ v) = cs_tl σ := rfl
theorem zc_tl_frests (σ : CSt) (v : (Nat → Int32)) : cs_tl (cs_frests_s σ v) = cs_tl σ := rfl
theorem zc_tl_fpen (σ : CSt) (v : Int32) : cs_tl (cs_fpen_s σ v) = cs_tl σ := rfl
theorem zc_tl_fstart (σ : CSt) (v : Int32) : cs_tl (cs_fstart_s σ v) = cs_tl σ := rfl
theorem zc_tl_fss (σ : CSt) (v : Int32) : cs_tl (cs_fss_s σ v) = cs_tl σ := rfl
theorem zc_tl_fgoal (σ : CSt) (v : Int32) : cs_tl (cs_fgoal_s σ v) = cs_tl σ := rfl
theorem zc_tl_fgs (σ : CSt) (v : Int32) : cs_tl (cs_fgs_s σ v) = cs_tl σ := rfl
theorem zc_tl_fcx (σ : CSt) (v : (Nat → Int32)) : cs_tl (cs_fcx_s σ v) = cs_tl σ := rfl
theorem zc_tl_fcy (σ : CSt) (v : (Nat → Int32)) : cs_tl (cs_fcy_s σ v) = cs_tl σ := rfl
theorem zc_tl_fcn (σ : CSt) (v : Int32) : cs_tl (cs_fcn_s σ v) = cs_tl σ := rfl
theorem zc_tl_gx (σ : CSt) (v : (Nat → Int32)) : cs_tl (cs_gx_s σ v) = cs_tl σ := rfl
theorem zc_tl_gy (σ : CSt) (v : (Nat → Int32)) : cs_tl (cs_gy_s σ v) = cs_tl σ := rfl
theorem zc_tl_gc (σ : CSt) (v : Int32) : cs_tl (cs_gc_s σ v) = cs_tl σ := rfl
theorem zc_tl_gr (σ : CSt) (v : Int32) : cs_tl (cs_gr_s σ v) = cs_tl σ := rfl
theorem zc_tl_goR (σ : CSt) (v : (Nat → Int32)) : cs_tl (cs_goR_s σ v) = cs_tl σ := rfl
theorem zc_tl_goD (σ : CSt) (v : (Nat → Int32)) : cs_tl (cs_goD_s σ v) = cs_tl σ := rfl
theorem zc_tl_wre (σ : CSt) (v : Int32) : cs_tl (cs_wre_s σ v) = cs_tl σ := rfl
theorem zc_tl_whd (σ : CSt) (v : (Nat → Int32)) : cs_tl (cs_whd_s σ v) = cs_tl σ := rfl
theorem zc_tl_wnx (σ : CSt) (v : (Nat → Int32)) : cs_tl (cs_wnx_s σ v) = cs_tl σ := rfl
theorem zc_tl_wpv (σ : CSt) (v : (Nat → Int32)) : cs_tl (cs_wpv_s σ v) = cs_tl σ := rfl
theorem zc_tl_bs (σ : CSt) (v : Int32) : cs_tl (cs_bs_s σ v) = cs_tl σ := rfl
theorem zc_tl_bo (σ : CSt) (v : Int32) : cs_tl (cs_bo_s σ v) = cs_tl σ := rfl
theorem zc_tl_bst (σ : CSt) (v : (Nat → Int32)) : cs_tl (cs_bst_s σ v) = cs_tl σ := rfl
theorem zc_tl_ben (σ : CSt) (v : (Nat → Int32)) : cs_tl (cs_ben_s σ v) = cs_tl σ := rfl
theorem zc_tl_bpu (σ : CSt) (v : (Nat → Int32)) : cs_tl (cs_bpu_s σ v) = cs_tl σ := rfl
theorem zc_tl_bla (σ : CSt) (v : (Nat → Int32)) : cs_tl (cs_bla_s σ v) = cs_tl σ := rfl
theorem zc_tl_bre (σ : CSt) (v : (Nat → Int32)) : cs_tl (cs_bre_s σ v) = cs_tl σ := rfl
theorem zc_tl_tl (σ : CSt) (v : Int32) : cs_tl (cs_tl_s σ v) = v := rfl
theorem zc_tl_tb (σ : CSt) (v : (Nat → Int32)) : cs_tl (cs_tb_s σ v) = cs_tl σ := rfl
theorem zc_tl_tw (σ : CSt) (v : Int32) : cs_tl (cs_tw_s σ v) = cs_tl σ := rfl
theorem zc_tl_tn (σ : CSt) (v : (Nat → Int32)) : cs_tl (cs_tn_s σ v) = cs_tl σ := rfl
theorem zc_tl_tc (σ : CSt) (v : Int32) : cs_tl (cs_tc_s σ v) = cs_tl σ := rfl
theorem zc_tl_te (σ : CSt) (v : Int32) : cs_tl (cs_te_s σ v) = cs_tl σ := rfl
theorem zc_tl_tf (σ : CSt) (v : Int32) : cs_tl (cs_tf_s σ v) = cs_tl σ := rfl
theorem zc_tl_sct (σ : CSt) (v : Int32) : cs_tl (cs_sct_s σ v) = cs_tl σ := rfl
theorem zc_tl_sml (σ : CSt) (v : Int32) : cs_tl (cs_sml_s σ v) = cs_tl σ := rfl
theorem zc_tl_sv (σ : CSt) (v : (Nat → Int32)) : cs_tl (cs_sv_s σ v) = cs_tl σ := rfl
theorem zc_tl_scap (σ : CSt) (v : Nat) : cs_tl (cs_scap_s σ v) = cs_tl σ := rfl
theorem zc_tl_nc (σ : CSt) (v : Nat) : cs_tl (cs_nc_s σ v) = cs_tl σ := rfl
theorem zc_tl_ns (σ : CSt) (v : Nat) : cs_tl (cs_ns_s σ v) = cs_tl σ := rfl
theorem zc_tb_cb (σ : CSt) (v : Int32) : cs_tb (cs_cb_s σ v) = cs_tb σ := rfl
theorem zc_tb_cc (σ : CSt) (v : Int32) : cs_tb (cs_cc_s σ v) = cs_tb σ := rfl
theorem zc_tb_cp (σ : CSt) (v : Int32) : cs_tb (cs_cp_s σ v) = cs_tb σ := rfl
theorem zc_tb_ce (σ : CSt) (v : (Nat → Int32)) : cs_tb (cs_ce_s σ v) = cs_tb σ := rfl
theorem zc_tb_cq (σ : CSt) (v : (Nat → Int32)) : cs_tb (cs_cq_s σ v) = cs_tb σ := rfl
theorem zc_tb_cr (σ : CSt) (v : (Nat → Option RV)) : cs_tb (cs_cr_s σ v) = cs_tb σ := rfl
theorem zc_tb_kb (σ : CSt) (v : (Nat → Int32)) : cs_tb (cs_kb_s σ v) = cs_tb σ := rfl
theorem zc_tb_kc (σ : CSt) (v : (Nat → Int32)) : cs_tb (cs_kc_s σ v) = cs_tb σ := rfl
theorem zc_tb_kp (σ : CSt) (v : (Nat → Int32)) : cs_tb (cs_kp_s σ v) = cs_tb σ := rfl
theorem zc_tb_ke (σ : CSt) (v : (Nat → Nat → Int32)) : cs_tb (cs_ke_s σ v) = cs_tb σ := rfl
theorem zc_tb_kq (σ : CSt) (v : (Nat → Nat → Int32)) : cs_tb (cs_kq_s σ v) = cs_tb σ := rfl
theorem zc_tb_kr (σ : CSt) (v : (Nat → Nat → Option RV)) : cs_tb (cs_kr_s σ v) = cs_tb σ := rfl
theorem zc_tb_hs (σ : CSt) (v : Int32) : cs_tb (cs_hs_s σ v) = cs_tb σ := rfl
theorem zc_tb_ho (σ : CSt) (v : Int32) : cs_tb (cs_ho_s σ v) = cs_tb σ := rfl
theorem zc_tb_run (σ : CSt) (v : Int32) : cs_tb (cs_run_s σ v) = cs_tb σ := rfl
theorem zc_tb_frests (σ : CSt) (v : (Nat → Int32)) : cs_tb (cs_frests_s σ v) = cs_tb σ := rfl
theorem zc_tb_fpen (σ : CSt) (v : Int32) : cs_tb (cs_fpen_s σ v) = cs_tb σ := rfl
theorem zc_tb_fstart (σ : CSt) (v : Int32) : cs_tb (cs_fstart_s σ v) = cs_tb σ := rfl
theorem zc_tb_fss (σ : CSt) (v : Int32) : cs_tb (cs_fss_s σ v) = cs_tb σ := rfl
theorem zc_tb_fgoal (σ : CSt) (v : Int32) : cs_tb (cs_fgoal_s σ v) = cs_tb σ := rfl
theorem zc_tb_fgs (σ : CSt) (v : Int32) : cs_tb (cs_fgs_s σ v) = cs_tb σ := rfl
theorem zc_tb_fcx (σ : CSt) (v : (Nat → Int32)) : cs_tb (cs_fcx_s σ v) = cs_tb σ := rfl
theorem zc_tb_fcy (σ : CSt) (v : (Nat → Int32)) : cs_tb (cs_fcy_s σ v) = cs_tb σ := rfl
theorem zc_tb_fcn (σ : CSt) (v : Int32) : cs_tb (cs_fcn_s σ v) = cs_tb σ := rfl
theorem zc_tb_gx (σ : CSt) (v : (Nat → Int32)) : cs_tb (cs_gx_s σ v) = cs_tb σ := rfl
theorem zc_tb_gy (σ : CSt) (v : (Nat → Int32)) : cs_tb (cs_gy_s σ v) = cs_tb σ := rfl
theorem zc_tb_gc (σ : CSt) (v : Int32) : cs_tb (cs_gc_s σ v) = cs_tb σ := rfl
theorem zc_tb_gr (σ : CSt) (v : Int32) : cs_tb (cs_gr_s σ v) = cs_tb σ := rfl
theorem zc_tb_goR (σ : CSt) (v : (Nat → Int32)) : cs_tb (cs_goR_s σ v) = cs_tb σ := rfl
theorem zc_tb_goD (σ : CSt) (v : (Nat → Int32)) : cs_tb (cs_goD_s σ v) = cs_tb σ := rfl
theorem zc_tb_wre (σ : CSt) (v : Int32) : cs_tb (cs_wre_s σ v) = cs_tb σ := rfl
theorem zc_tb_whd (σ : CSt) (v : (Nat → Int32)) : cs_tb (cs_whd_s σ v) = cs_tb σ := rfl
theorem zc_tb_wnx (σ : CSt) (v : (Nat → Int32)) : cs_tb (cs_wnx_s σ v) = cs_tb σ := rfl
theorem zc_tb_wpv (σ : CSt) (v : (Nat → Int32)) : cs_tb (cs_wpv_s σ v) = cs_tb σ := rfl
theorem zc_tb_bs (σ : CSt) (v : Int32) : cs_tb (cs_bs_s σ v) = cs_tb σ := rfl
theorem zc_tb_bo (σ : CSt) (v : Int32) : cs_tb (cs_bo_s σ v) = cs_tb σ := rfl
theorem zc_tb_bst (σ : CSt) (v : (Nat → Int32)) : cs_tb (cs_bst_s σ v) = cs_tb σ := rfl
theorem zc_tb_ben (σ : CSt) (v : (Nat → Int32)) : cs_tb (cs_ben_s σ v) = cs_tb σ := rfl
theorem zc_tb_bpu (σ : CSt) (v : (Nat → Int32)) : cs_tb (cs_bpu_s σ v) = cs_tb σ := rfl
theorem zc_tb_bla (σ : CSt) (v : (Nat → Int32)) : cs_tb (cs_bla_s σ v) = cs_tb σ := rfl
theorem zc_tb_bre (σ : CSt) (v : (Nat → Int32)) : cs_tb (cs_bre_s σ v) = cs_tb σ := rfl
theorem zc_tb_tl (σ : CSt) (v : Int32) : cs_tb (cs_tl_s σ v) = cs_tb σ := rfl
theorem zc_tb_tb (σ : CSt) (v : (Nat → Int32)) : cs_tb (cs_tb_s σ v) = v := rfl
theorem zc_tb_tw (σ : CSt) (v : Int32) : cs_tb (cs_tw_s σ v) = cs_tb σ := rfl
theorem zc_tb_tn (σ : CSt) (v : (Nat → Int32)) : cs_tb (cs_tn_s σ v) = cs_tb σ := rfl
theorem zc_tb_tc (σ : CSt) (v : Int32) : cs_tb (cs_tc_s σ v) = cs_tb σ := rfl
theorem zc_tb_te (σ : CSt) (v : Int32) : cs_tb (cs_te_s σ v) = cs_tb σ := rfl
theorem zc_tb_tf (σ : CSt) (v : Int32) : cs_tb (cs_tf_s σ v) = cs_tb σ := rfl
theorem zc_tb_sct (σ : CSt) (v : Int32) : cs_tb (cs_sct_s σ v) = cs_tb σ := rfl
theorem zc_tb_sml (σ : CSt) (v : Int32) : cs_tb (cs_sml_s σ v) = cs_tb σ := rfl
theorem zc_tb_sv (σ : CSt) (v : (Nat → Int32)) : cs_tb (cs_sv_s σ v) = cs_tb σ := rfl
theorem zc_tb_scap (σ : CSt) (v : Nat) : cs_tb (cs_scap_s σ v) = cs_tb σ := rfl
theorem zc_tb_nc (σ : CSt) (v : Nat) : cs_tb (cs_nc_s σ v) = cs_tb σ := rfl
theorem zc_tb_ns (σ : CSt) (v : Nat) : cs_tb (cs_ns_s σ v) = cs_tb σ := rfl
theorem zc_tw_cb (σ : CSt) (v : Int32) : cs_tw (cs_cb_s σ v) = cs_tw σ := rfl
theorem zc_tw_cc (σ : CSt) (v : Int32) : cs_tw (cs_cc_s σ v) = cs_tw σ := rfl
theorem zc_tw_cp (σ : CSt) (v : Int32) : cs_tw (cs_cp_s σ v) = cs_tw σ := rfl
theorem zc_tw_ce (σ : CSt) (v : (Nat → Int32)) : cs_tw (cs_ce_s σ v) = cs_tw σ := rfl
theorem zc_tw_cq (σ : CSt) (v : (Nat → Int32)) : cs_tw (cs_cq_s σ v) = cs_tw σ := rfl
theorem zc_tw_cr (σ : CSt) (v : (Nat → Option RV)) : cs_tw (cs_cr_s σ v) = cs_tw σ := rfl
theorem zc_tw_kb (σ : CSt) (v : (Nat → Int32)) : cs_tw (cs_kb_s σ v) = cs_tw σ := rfl
theorem zc_tw_kc (σ : CSt) (v : (Nat → Int32)) : cs_tw (cs_kc_s σ v) = cs_tw σ := rfl
theorem zc_tw_kp (σ : CSt) (v : (Nat → Int32)) : cs_tw (cs_kp_s σ v) = cs_tw σ := rfl
theorem zc_tw_ke (σ : CSt) (v : (Nat → Nat → Int32)) : cs_tw (cs_ke_s σ v) = cs_tw σ := rfl
theorem zc_tw_kq (σ : CSt) (v : (Nat → Nat → Int32)) : cs_tw (cs_kq_s σ v) = cs_tw σ := rfl
theorem zc_tw_kr (σ : CSt) (v : (Nat → Nat → Option RV)) : cs_tw (cs_kr_s σ v) = cs_tw σ := rfl
theorem zc_tw_hs (σ : CSt) (v : Int32) : cs_tw (cs_hs_s σ v) = cs_tw σ := rfl
theorem zc_tw_ho (σ : CSt) (v : Int32) : cs_tw (cs_ho_s σ v) = cs_tw σ := rfl
theorem zc_tw_run (σ : CSt) (v : Int32) : cs_tw (cs_run_s σ v) = cs_tw σ := rfl
theorem zc_tw_frests (σ : CSt) (v : (Nat → Int32)) : cs_tw (cs_frests_s σ v) = cs_tw σ := rfl
theorem zc_tw_fpen (σ : CSt) (v : Int32) : cs_tw (cs_fpen_s σ v) = cs_tw σ := rfl
theorem zc_tw_fstart (σ : CSt) (v : Int32) : cs_tw (cs_fstart_s σ v) = cs_tw σ := rfl
theorem zc_tw_fss (σ : CSt) (v : Int32) : cs_tw (cs_fss_s σ v) = cs_tw σ := rfl
theorem zc_tw_fgoal (σ : CSt) (v : Int32) : cs_tw (cs_fgoal_s σ v) = cs_tw σ := rfl
theorem zc_tw_fgs (σ : CSt) (v : Int32) : cs_tw (cs_fgs_s σ v) = cs_tw σ := rfl
theorem zc_tw_fcx (σ : CSt) (v : (Nat → Int32)) : cs_tw (cs_fcx_s σ v) = cs_tw σ := rfl
theorem zc_tw_fcy (σ : CSt) (v : (Nat → Int32)) : cs_tw (cs_fcy_s σ v) = cs_tw σ := rfl
theorem zc_tw_fcn (σ : CSt) (v : Int32) : cs_tw (cs_fcn_s σ v) = cs_tw σ := rfl
theorem zc_tw_gx (σ : CSt) (v : (Nat → Int32)) : cs_tw (cs_gx_s σ v) = cs_tw σ := rfl
theorem zc_tw_gy (σ : CSt) (v : (Nat → Int32)) : cs_tw (cs_gy_s σ v) = cs_tw σ := rfl
theorem zc_tw_gc (σ : CSt) (v : Int32) : cs_tw (cs_gc_s σ v) = cs_tw σ := rfl
theorem zc_tw_gr (σ : CSt) (v : Int32) : cs_tw (cs_gr_s σ v) = cs_tw σ := rfl
theorem zc_tw_goR (σ : CSt) (v : (Nat → Int32)) : cs_tw (cs_goR_s σ v) = cs_tw σ := rfl
theorem zc_tw_goD (σ : CSt) (v : (Nat → Int32)) : cs_tw (cs_goD_s σ v) = cs_tw σ := rfl
theorem zc_tw_wre (σ : CSt) (v : Int32) : cs_tw (cs_wre_s σ v) = cs_tw σ := rfl
theorem zc_tw_whd (σ : CSt) (v : (Nat → Int32)) : cs_tw (cs_whd_s σ v) = cs_tw σ := rfl
theorem zc_tw_wnx (σ : CSt) (v : (Nat → Int32)) : cs_tw (cs_wnx_s σ v) = cs_tw σ := rfl
theorem zc_tw_wpv (σ : CSt) (v : (Nat → Int32)) : cs_tw (cs_wpv_s σ v) = cs_tw σ := rfl
theorem zc_tw_bs (σ : CSt) (v : Int32) : cs_tw (cs_bs_s σ v) = cs_tw σ := rfl
theorem zc_tw_bo (σ : CSt) (v : Int32) : cs_tw (cs_bo_s σ v) = cs_tw σ := rfl
theorem zc_tw_bst (σ : CSt) (v : (Nat → Int32)) : cs_tw (cs_bst_s σ v) = cs_tw σ := rfl
theorem zc_tw_ben (σ : CSt) (v : (Nat → Int32)) : cs_tw (cs_ben_s σ v) = cs_tw σ := rfl
theorem zc_tw_bpu (σ : CSt) (v : (Nat → Int32)) : cs_tw (cs_bpu_s σ v) = cs_tw σ := rfl
theorem zc_tw_bla (σ : CSt) (v : (Nat → Int32)) : cs_tw (cs_bla_s σ v) = cs_tw σ := rfl
theorem zc_tw_bre (σ : CSt) (v : (Nat → Int32)) : cs_tw (cs_bre_s σ v) = cs_tw σ := rfl
theorem zc_tw_tl (σ : CSt) (v : Int32) : cs_tw (cs_tl_s σ v) = cs_tw σ := rfl
theorem zc_tw_tb (σ : CSt) (v : (Nat → Int32)) : cs_tw (cs_tb_s σ v) = cs_tw σ := rfl
theorem zc_tw_tw (σ : CSt) (v : Int32) : cs_tw (cs_tw_s σ v) = v := rfl
theorem zc_tw_tn (σ : CSt) (v : (Nat → Int32)) : cs_tw (cs_tn_s σ v) = cs_tw σ := rfl
theorem zc_tw_tc (σ : CSt) (v : Int32) : cs_tw (cs_tc_s σ v) = cs_tw σ := rfl
theorem zc_tw_te (σ : CSt) (v : Int32) : cs_tw (cs_te_s σ v) = cs_tw σ := rfl
theorem zc_tw_tf (σ : CSt) (v : Int32) : cs_tw (cs_tf_s σ v) = cs_tw σ := rfl
theorem zc_tw_sct (σ : CSt) (v : Int32) : cs_tw (cs_sct_s σ v) = cs_tw σ := rfl
theorem zc_tw_sml (σ : CSt) (v : Int32) : cs_tw (cs_sml_s σ v) = cs_tw σ := rfl
theorem zc_tw_sv (σ : CSt) (v : (Nat → Int32)) : cs_tw (cs_sv_s σ v) = cs_tw σ := rfl
theorem zc_tw_scap (σ : CSt) (v : Nat) : cs_tw (cs_scap_s σ v) = cs_tw σ := rfl
theorem zc_tw_nc (σ : CSt) (v : Nat) : cs_tw (cs_nc_s σ v) = cs_tw σ := rfl
theorem zc_tw_ns (σ : CSt) (v : Nat) : cs_tw (cs_ns_s σ v) = cs_tw σ := rfl
theorem zc_tn_cb (σ : CSt) (v : Int32) : cs_tn (cs_cb_s σ v) = cs_tn σ := rfl
theorem zc_tn_cc (σ : CSt) (v : Int32) : cs_tn (cs_cc_s σ v) = cs_tn σ := rfl
theorem zc_tn_cp (σ : CSt) (v : Int32) : cs_tn (cs_cp_s σ v) = cs_tn σ := rfl
theorem zc_tn_ce (σ : CSt) (v : (Nat → Int32)) : cs_tn (cs_ce_s σ v) = cs_tn σ := rfl
theorem zc_tn_cq (σ : CSt) (v : (Nat → Int32)) : cs_tn (cs_cq_s σ v) = cs_tn σ := rfl
theorem zc_tn_cr (σ : CSt) (v : (Nat → Option RV)) : cs_tn (cs_cr_s σ v) = cs_tn σ := rfl
theorem zc_tn_kb (σ : CSt) (v : (Nat → Int32)) : cs_tn (cs_kb_s σ v) = cs_tn σ := rfl
theorem zc_tn_kc (σ : CSt) (v : (Nat → Int32)) : cs_tn (cs_kc_s σ v) = cs_tn σ := rfl
theorem zc_tn_kp (σ : CSt) (v : (Nat → Int32)) : cs_tn (cs_kp_s σ v) = cs_tn σ := rfl
theorem zc_tn_ke (σ : CSt) (v : (Nat → Nat → Int32)) : cs_tn (cs_ke_s σ v) = cs_tn σ := rfl
theorem zc_tn_kq (σ : CSt) (v : (Nat → Nat → Int32)) : cs_tn (cs_kq_s σ v) = cs_tn σ := rfl
theorem zc_tn_kr (σ : CSt) (v : (Nat → Nat → Option RV)) : cs_tn (cs_kr_s σ v) = cs_tn σ := rfl
theorem zc_tn_hs (σ : CSt) (v : Int32) : cs_tn (cs_hs_s σ v) = cs_tn σ := rfl
theorem zc_tn_ho (σ : CSt) (v : Int32) : cs_tn (cs_ho_s σ v) = cs_tn σ := rfl
theorem zc_tn_run (σ : CSt) (v : Int32) : cs_tn (cs_run_s σ v) = cs_tn σ := rfl
theorem zc_tn_frests (σ : CSt) (v : (Nat → Int32)) : cs_tn (cs_frests_s σ v) = cs_tn σ := rfl
theorem zc_tn_fpen (σ : CSt) (v : Int32) : cs_tn (cs_fpen_s σ v) = cs_tn σ := rfl
theorem zc_tn_fstart (σ : CSt) (v : Int32) : cs_tn (cs_fstart_s σ v) = cs_tn σ := rfl
theorem zc_tn_fss (σ : CSt) (v : Int32) : cs_tn (cs_fss_s σ v) = cs_tn σ := rfl
theorem zc_tn_fgoal (σ : CSt) (v : Int32) : cs_tn (cs_fgoal_s σ v) = cs_tn σ := rfl
theorem zc_tn_fgs (σ : CSt) (v : Int32) : cs_tn (cs_fgs_s σ v) = cs_tn σ := rfl
theorem zc_tn_fcx (σ : CSt) (v : (Nat → Int32)) : cs_tn (cs_fcx_s σ v) = cs_tn σ := rfl
theorem zc_tn_fcy (σ : CSt) (v : (Nat → Int32)) : cs_tn (cs_fcy_s σ v) = cs_tn σ := rfl
theorem zc_tn_fcn (σ : CSt) (v : Int32) : cs_tn (cs_fcn_s σ v) = cs_tn σ := rfl
theorem zc_tn_gx (σ : CSt) (v : (Nat → Int32)) : cs_tn (cs_gx_s σ v) = cs_tn σ := rfl
theorem zc_tn_gy (σ : CSt) (v : (Nat → Int32)) : cs_tn (cs_gy_s σ v) = cs_tn σ := rfl
theorem zc_tn_gc (σ : CSt) (v : Int32) : cs_tn (cs_gc_s σ v) = cs_tn σ := rfl
theorem zc_tn_gr (σ : CSt) (v : Int32) : cs_tn (cs_gr_s σ v) = cs_tn σ := rfl
theorem zc_tn_goR (σ : CSt) (v : (Nat → Int32)) : cs_tn (cs_goR_s σ v) = cs_tn σ := rfl
theorem zc_tn_goD (σ : CSt) (v : (Nat → Int32)) : cs_tn (cs_goD_s σ v) = cs_tn σ := rfl
theorem zc_tn_wre (σ : CSt) (v : Int32) : cs_tn (cs_wre_s σ v) = cs_tn σ := rfl
theorem zc_tn_whd (σ : CSt) (v : (Nat → Int32)) : cs_tn (cs_whd_s σ v) = cs_tn σ := rfl
theorem zc_tn_wnx (σ : CSt) (v : (Nat → Int32)) : cs_tn (cs_wnx_s σ v) = cs_tn σ := rfl
theorem zc_tn_wpv (σ : CSt) (v : (Nat → Int32)) : cs_tn (cs_wpv_s σ v) = cs_tn σ := rfl
theorem zc_tn_bs (σ : CSt) (v : Int32) : cs_tn (cs_bs_s σ v) = cs_tn σ := rfl
theorem zc_tn_bo (σ : CSt) (v : Int32) : cs_tn (cs_bo_s σ v) = cs_tn σ := rfl
theorem zc_tn_bst (σ : CSt) (v : (Nat → Int32)) : cs_tn (cs_bst_s σ v) = cs_tn σ := rfl
theorem zc_tn_ben (σ : CSt) (v : (Nat → Int32)) : cs_tn (cs_ben_s σ v) = cs_tn σ := rfl
theorem zc_tn_bpu (σ : CSt) (v : (Nat → Int32)) : cs_tn (cs_bpu_s σ v) = cs_tn σ := rfl
theorem zc_tn_bla (σ : CSt) (v : (Nat → Int32)) : cs_tn (cs_bla_s σ v) = cs_tn σ := rfl
theorem zc_tn_bre (σ : CSt) (v : (Nat → Int32)) : cs_tn (cs_bre_s σ v) = cs_tn σ := rfl
theorem zc_tn_tl (σ : CSt) (v : Int32) : cs_tn (cs_tl_s σ v) = cs_tn σ := rfl
theorem zc_tn_tb (σ : CSt) (v : (Nat → Int32)) : cs_tn (cs_tb_s σ v) = cs_tn σ := rfl
theorem zc_tn_tw (σ : CSt) (v : Int32) : cs_tn (cs_tw_s σ v) = cs_tn σ := rfl
theorem zc_tn_tn (σ : CSt) (v : (Nat → Int32)) : cs_tn (cs_tn_s σ v) = v := rfl
theorem zc_tn_tc (σ : CSt) (v : Int32) : cs_tn (cs_tc_s σ v) = cs_tn σ := rfl
theorem zc_tn_te (σ : CSt) (v : Int32) : cs_tn (cs_te_s σ v) = cs_tn σ := rfl
theorem zc_tn_tf (σ : CSt) (v : Int32) : cs_tn (cs_tf_s σ v) = cs_tn σ := rfl
theorem zc_tn_sct (σ : CSt) (v : Int32) : cs_tn (cs_sct_s σ v) = cs_tn σ := rfl
theorem zc_tn_sml (σ : CSt) (v : Int32) : cs_tn (cs_sml_s σ v) = cs_tn σ := rfl
theorem zc_tn_sv (σ : CSt) (v : (Nat → Int32)) : cs_tn (cs_sv_s σ v) = cs_tn σ := rfl
theorem zc_tn_scap (σ : CSt) (v : Nat) : cs_tn (cs_scap_s σ v) = cs_tn σ := rfl
theorem zc_tn_nc (σ : CSt) (v : Nat) : cs_tn (cs_nc_s σ v) = cs_tn σ := rfl
theorem zc_tn_ns (σ : CSt) (v : Nat) : cs_tn (cs_ns_s σ v) = cs_tn σ := rfl
theorem zc_tc_cb (σ : CSt) (v : Int32) : cs_tc (cs_cb_s σ v) = cs_tc σ := rfl
theorem zc_tc_cc (σ : CSt) (v : Int32) : cs_tc (cs_cc_s σ v) = cs_tc σ := rfl
theorem zc_tc_cp (σ : CSt) (v : Int32) : cs_tc (cs_cp_s σ v) = cs_tc σ := rfl
theorem zc_tc_ce (σ : CSt) (v : (Nat → Int32)) : cs_tc (cs_ce_s σ v) = cs_tc σ := rfl
theorem zc_tc_cq (σ : CSt) (v : (Nat → Int32)) : cs_tc (cs_cq_s σ v) = cs_tc σ := rfl
theorem zc_tc_cr (σ : CSt) (v : (Nat → Option RV)) : cs_tc (cs_cr_s σ v) = cs_tc σ := rfl
theorem zc_tc_kb (σ : CSt) (v : (Nat → Int32)) : cs_tc (cs_kb_s σ v) = cs_tc σ := rfl
theorem zc_tc_kc (σ : CSt) (v : (Nat → Int32)) : cs_tc (cs_kc_s σ v) = cs_tc σ := rfl
theorem zc_tc_kp (σ : CSt) (v : (Nat → Int32)) : cs_tc (cs_kp_s σ v) = cs_tc σ := rfl
theorem zc_tc_ke (σ : CSt) (v : (Nat → Nat → Int32)) : cs_tc (cs_ke_s σ v) = cs_tc σ := rfl
theorem zc_tc_kq (σ : CSt) (v : (Nat → Nat → Int32)) : cs_tc (cs_kq_s σ v) = cs_tc σ := rfl
theorem zc_tc_kr (σ : CSt) (v : (Nat → Nat → Option RV)) : cs_tc (cs_kr_s σ v) = cs_tc σ := rfl
theorem zc_tc_hs (σ : CSt) (v : Int32) : cs_tc (cs_hs_s σ v) = cs_tc σ := rfl
theorem zc_tc_ho (σ : CSt) (v : Int32) : cs_tc (cs_ho_s σ v) = cs_tc σ := rfl
theorem zc_tc_run (σ : CSt) (v : Int32) : cs_tc (cs_run_s σ v) = cs_tc σ := rfl
theorem zc_tc_frests (σ : CSt) (v : (Nat → Int32)) : cs_tc (cs_frests_s σ v) = cs_tc σ := rfl
theorem zc_tc_fpen (σ : CSt) (v : Int32) : cs_tc (cs_fpen_s σ v) = cs_tc σ := rfl
theorem zc_tc_fstart (σ : CSt) (v : Int32) : cs_tc (cs_fstart_s σ v) = cs_tc σ := rfl
theorem zc_tc_fss (σ : CSt) (v : Int32) : cs_tc (cs_fss_s σ v) = cs_tc σ := rfl
theorem zc_tc_fgoal (σ : CSt) (v : Int32) : cs_tc (cs_fgoal_s σ v) = cs_tc σ := rfl
theorem zc_tc_fgs (σ : CSt) (v : Int32) : cs_tc (cs_fgs_s σ v) = cs_tc σ := rfl
theorem zc_tc_fcx (σ : CSt) (v : (Nat → Int32)) : cs_tc (cs_fcx_s σ v) = cs_tc σ := rfl
theorem zc_tc_fcy (σ : CSt) (v : (Nat → Int32)) : cs_tc (cs_fcy_s σ v) = cs_tc σ := rfl
theorem zc_tc_fcn (σ : CSt) (v : Int32) : cs_tc (cs_fcn_s σ v) = cs_tc σ := rfl
theorem zc_tc_gx (σ : CSt) (v : (Nat → Int32)) : cs_tc (cs_gx_s σ v) = cs_tc σ := rfl
theorem zc_tc_gy (σ : CSt) (v : (Nat → Int32)) : cs_tc (cs_gy_s σ v) = cs_tc σ := rfl
theorem zc_tc_gc (σ : CSt) (v : Int32) : cs_tc (cs_gc_s σ v) = cs_tc σ := rfl
theorem zc_tc_gr (σ : CSt) (v : Int32) : cs_tc (cs_gr_s σ v) = cs_tc σ := rfl
theorem zc_tc_goR (σ : CSt) (v : (Nat → Int32)) : cs_tc (cs_goR_s σ v) = cs_tc σ := rfl
theorem zc_tc_goD (σ : CSt) (v : (Nat → Int32)) : cs_tc (cs_goD_s σ v) = cs_tc σ := rfl
theorem zc_tc_wre (σ : CSt) (v : Int32) : cs_tc (cs_wre_s σ v) = cs_tc σ := rfl
theorem zc_tc_whd (σ : CSt) (v : (Nat → Int32)) : cs_tc (cs_whd_s σ v) = cs_tc σ := rfl
theorem zc_tc_wnx (σ : CSt) (v : (Nat → Int32)) : cs_tc (cs_wnx_s σ v) = cs_tc σ := rfl
theorem zc_tc_wpv (σ : CSt) (v : (Nat → Int32)) : cs_tc (cs_wpv_s σ v) = cs_tc σ := rfl
theorem zc_tc_bs (σ : CSt) (v : Int32) : cs_tc (cs_bs_s σ v) = cs_tc σ := rfl
theorem zc_tc_bo (σ : CSt) (v : Int32) : cs_tc (cs_bo_s σ v) = cs_tc σ := rfl
theorem zc_tc_bst (σ : CSt) (v : (Nat → Int32)) : cs_tc (cs_bst_s σ v) = cs_tc σ := rfl
theorem zc_tc_ben (σ : CSt) (v : (Nat → Int32)) : cs_tc (cs_ben_s σ v) = cs_tc σ := rfl
theorem zc_tc_bpu (σ : CSt) (v : (Nat → Int32)) : cs_tc (cs_bpu_s σ v) = cs_tc σ := rfl
theorem zc_tc_bla (σ : CSt) (v : (Nat → Int32)) : cs_tc (cs_bla_s σ v) = cs_tc σ := rfl
theorem zc_tc_bre (σ : CSt) (v : (Nat → Int32)) : cs_tc (cs_bre_s σ v) = cs_tc σ := rfl
theorem zc_tc_tl (σ : CSt) (v : Int32) : cs_tc (cs_tl_s σ v) = cs_tc σ := rfl
theorem zc_tc_tb (σ : CSt) (v : (Nat → Int32)) : cs_tc (cs_tb_s σ v) = cs_tc σ := rfl
theorem zc_tc_tw (σ : CSt) (v : Int32) : cs_tc (cs_tw_s σ v) = cs_tc σ := rfl
theorem zc_tc_tn (σ : CSt) (v : (Nat → Int32)) : cs_tc (cs_tn_s σ v) = cs_tc σ := rfl
theorem zc_tc_tc (σ : CSt) (v : Int32) : cs_tc (cs_tc_s σ v) = v := rfl
theorem zc_tc_te (σ : CSt) (v : Int32) : cs_tc (cs_te_s σ v) = cs_tc σ := rfl
theorem zc_tc_tf (σ : CSt) (v : Int32) : cs_tc (cs_tf_s σ v) = cs_tc σ := rfl
theorem zc_tc_sct (σ : CSt) (v : Int32) : cs_tc (cs_sct_s σ v) = cs_tc σ := rfl
theorem zc_tc_sml (σ : CSt) (v : Int32) : cs_tc (cs_sml_s σ v) = cs_tc σ := rfl
theorem zc_tc_sv (σ : CSt) (v : (Nat → Int32)) : cs_tc (cs_sv_s σ v) = cs_tc σ := rfl
theorem zc_tc_scap (σ : CSt) (v : Nat) : cs_tc (cs_scap_s σ v) = cs_tc σ := rfl
theorem zc_tc_nc (σ : CSt) (v : Nat) : cs_tc (cs_nc_s σ v) = cs_tc σ := rfl
theorem zc_tc_ns (σ : CSt) (v : Nat) : cs_tc (cs_ns_s σ v) = cs_tc σ := rfl
theorem zc_te_cb (σ : CSt) (v : Int32) : cs_te (cs_cb_s σ v) = cs_te σ := rfl
theorem zc_te_cc (σ : CSt) (v : Int32) : cs_te (cs_cc_s σ v) = cs_te σ := rfl
theorem zc_te_cp (σ : CSt) (v : Int32) : cs_te (cs_cp_s σ v) = cs_te σ := rfl
theorem zc_te_ce (σ : CSt) (v : (Nat → Int32)) : cs_te (cs_ce_s σ v) = cs_te σ := rfl
theorem zc_te_cq (σ : CSt) (v : (Nat → Int32)) : cs_te (cs_cq_s σ v) = cs_te σ := rfl
theorem zc_te_cr (σ : CSt) (v : (Nat → Option RV)) : cs_te (cs_cr_s σ v) = cs_te σ := rfl
theorem zc_te_kb (σ : CSt) (v : (Nat → Int32)) : cs_te (cs_kb_s σ v) = cs_te σ := rfl
theorem zc_te_kc (σ : CSt) (v : (Nat → Int32)) : cs_te (cs_kc_s σ v) = cs_te σ := rfl
theorem zc_te_kp (σ : CSt) (v : (Nat → Int32)) : cs_te (cs_kp_s σ v) = cs_te σ := rfl
theorem zc_te_ke (σ : CSt) (v : (Nat → Nat → Int32)) : cs_te (cs_ke_s σ v) = cs_te σ := rfl
theorem zc_te_kq (σ : CSt) (v : (Nat → Nat → Int32)) : cs_te (cs_kq_s σ v) = cs_te σ := rfl
theorem zc_te_kr (σ : CSt) (v : (Nat → Nat → Option RV)) : cs_te (cs_kr_s σ v) = cs_te σ := rfl
theorem zc_te_hs (σ : CSt) (v : Int32) : cs_te (cs_hs_s σ v) = cs_te σ := rfl
theorem zc_te_ho (σ : CSt) (v : Int32) : cs_te (cs_ho_s σ v) = cs_te σ := rfl
theorem zc_te_run (σ : CSt) (v : Int32) : cs_te (cs_run_s σ v) = cs_te σ := rfl
theorem zc_te_frests (σ : CSt) (v : (Nat → Int32)) : cs_te (cs_frests_s σ v) = cs_te σ := rfl
theorem zc_te_fpen (σ : CSt) (v : Int32) : cs_te (cs_fpen_s σ v) = cs_te σ := rfl
theorem zc_te_fstart (σ : CSt) (v : Int32) : cs_te (cs_fstart_s σ v) = cs_te σ := rfl
theorem zc_te_fss (σ : CSt) (v : Int32) : cs_te (cs_fss_s σ v) = cs_te σ := rfl
theorem zc_te_fgoal (σ : CSt) (v : Int32) : cs_te (cs_fgoal_s σ v) = cs_te σ := rfl
theorem zc_te_fgs (σ : CSt) (v : Int32) : cs_te (cs_fgs_s σ v) = cs_te σ := rfl
theorem zc_te_fcx (σ : CSt) (v : (Nat → Int32)) : cs_te (cs_fcx_s σ v) = cs_te σ := rfl
theorem zc_te_fcy (σ : CSt) (v : (Nat → Int32)) : cs_te (cs_fcy_s σ v) = cs_te σ := rfl
theorem zc_te_fcn (σ : CSt) (v : Int32) : cs_te (cs_fcn_s σ v) = cs_te σ := rfl
theorem zc_te_gx (σ : CSt) (v : (Nat → Int32)) : cs_te (cs_gx_s σ v) = cs_te σ := rfl
theorem zc_te_gy (σ : CSt) (v : (Nat → Int32)) : cs_te (cs_gy_s σ v) = cs_te σ := rfl
theorem zc_te_gc (σ : CSt) (v : Int32) : cs_te (cs_gc_s σ v) = cs_te σ := rfl
theorem zc_te_gr (σ : CSt) (v : Int32) : cs_te (cs_gr_s σ v) = cs_te σ := rfl
theorem zc_te_goR (σ : CSt) (v : (Nat → Int32)) : cs_te (cs_goR_s σ v) = cs_te σ := rfl
theorem zc_te_goD (σ : CSt) (v : (Nat → Int32)) : cs_te (cs_goD_s σ v) = cs_te σ := rfl
theorem zc_te_wre (σ : CSt) (v : Int32) : cs_te (cs_wre_s σ v) = cs_te σ := rfl
theorem zc_te_whd (σ : CSt) (v : (Nat → Int32)) : cs_te (cs_whd_s σ v) = cs_te σ := rfl
theorem zc_te_wnx (σ : CSt) (v : (Nat → Int32)) : cs_te (cs_wnx_s σ v) = cs_te σ := rfl
theorem zc_te_wpv (σ : CSt) (v : (Nat → Int32)) : cs_te (cs_wpv_s σ v) = cs_te σ := rfl
theorem zc_te_bs (σ : CSt) (v : Int32) : cs_te (cs_bs_s σ v) = cs_te σ := rfl
theorem zc_te_bo (σ : CSt) (v : Int32) : cs_te (cs_bo_s σ v) = cs_te σ := rfl
theorem zc_te_bst (σ : CSt) (v : (Nat → Int32)) : cs_te (cs_bst_s σ v) = cs_te σ := rfl
theorem zc_te_ben (σ : CSt) (v : (Nat → Int32)) : cs_te (cs_ben_s σ v) = cs_te σ := rfl
theorem zc_te_bpu (σ : CSt) (v : (Nat → Int32)) : cs_te (cs_bpu_s σ v) = cs_te σ := rfl
theorem zc_te_bla (σ : CSt) (v : (Nat → Int32)) : cs_te (cs_bla_s σ v) = cs_te σ := rfl
theorem zc_te_bre (σ : CSt) (v : (Nat → Int32)) : cs_te (cs_bre_s σ v) = cs_te σ := rfl
theorem zc_te_tl (σ : CSt) (v : Int32) : cs_te (cs_tl_s σ v) = cs_te σ := rfl
theorem zc_te_tb (σ : CSt) (v : (Nat → Int32)) : cs_te (cs_tb_s σ v) = cs_te σ := rfl
theorem zc_te_tw (σ : CSt) (v : Int32) : cs_te (cs_tw_s σ v) = cs_te σ := rfl
theorem zc_te_tn (σ : CSt) (v : (Nat → Int32)) : cs_te (cs_tn_s σ v) = cs_te σ := rfl
theorem zc_te_tc (σ : CSt) (v : Int32) : cs_te (cs_tc_s σ v) = cs_te σ := rfl
theorem zc_te_te (σ : CSt) (v : Int32) : cs_te (cs_te_s σ v) = v := rfl
theorem zc_te_tf (σ : CSt) (v : Int32) : cs_te (cs_tf_s σ v) = cs_te σ := rfl
theorem zc_te_sct (σ : CSt) (v : Int32) : cs_te (cs_sct_s σ v) = cs_te σ := rfl
theorem zc_te_sml (σ : CSt) (v : Int32) : cs_te (cs_sml_s σ v) = cs_te σ := rfl
theorem zc_te_sv (σ : CSt) (v : (Nat → Int32)) : cs_te (cs_sv_s σ v) = cs_te σ := rfl
theorem zc_te_scap (σ : CSt) (v : Nat) : cs_te (cs_scap_s σ v) = cs_te σ := rfl
theorem zc_te_nc (σ : CSt) (v : Nat) : cs_te (cs_nc_s σ v) = cs_te σ := rfl
theorem zc_te_ns (σ : CSt) (v : Nat) : cs_te (cs_ns_s σ v) = cs_te σ := rfl
theorem zc_tf_cb (σ : CSt) (v : Int32) : cs_tf (cs_cb_s σ v) = cs_tf σ := rfl
theorem zc_tf_cc (σ : CSt) (v : Int32) : cs_tf (cs_cc_s σ v) = cs_tf σ := rfl
theorem zc_tf_cp (σ : CSt) (v : Int32) : cs_tf (cs_cp_s σ v) = cs_tf σ := rfl
theorem zc_tf_ce (σ : CSt) (v : (Nat → Int32)) : cs_tf (cs_ce_s σ v) = cs_tf σ := rfl
theorem zc_tf_cq (σ : CSt) (v : (Nat → Int32)) : cs_tf (cs_cq_s σ v) = cs_tf σ := rfl
theorem zc_tf_cr (σ : CSt) (v : (Nat → Option RV)) : cs_tf (cs_cr_s σ v) = cs_tf σ := rfl
theorem zc_tf_kb (σ : CSt) (v : (Nat → Int32)) : cs_tf (cs_kb_s σ v) = cs_tf σ := rfl
theorem zc_tf_kc (σ : CSt) (v : (Nat → Int32)) : cs_tf (cs_kc_s σ v) = cs_tf σ := rfl
theorem zc_tf_kp (σ : CSt) (v : (Nat → Int32)) : cs_tf (cs_kp_s σ v) = cs_tf σ := rfl
theorem zc_tf_ke (σ : CSt) (v : (Nat → Nat → Int32)) : cs_tf (cs_ke_s σ v) = cs_tf σ := rfl
theorem zc_tf_kq (σ : CSt) (v : (Nat → Nat → Int32)) : cs_tf (cs_kq_s σ v) = cs_tf σ := rfl
theorem zc_tf_kr (σ : CSt) (v : (Nat → Nat → Option RV)) : cs_tf (cs_kr_s σ v) = cs_tf σ := rfl
theorem zc_tf_hs (σ : CSt) (v : Int32) : cs_tf (cs_hs_s σ v) = cs_tf σ := rfl
theorem zc_tf_ho (σ : CSt) (v : Int32) : cs_tf (cs_ho_s σ v) = cs_tf σ := rfl
theorem zc_tf_run (σ : CSt) (v : Int32) : cs_tf (cs_run_s σ v) = cs_tf σ := rfl
theorem zc_tf_frests (σ : CSt) (v : (Nat → Int32)) : cs_tf (cs_frests_s σ v) = cs_tf σ := rfl
theorem zc_tf_fpen (σ : CSt) (v : Int32) : cs_tf (cs_fpen_s σ v) = cs_tf σ := rfl
theorem zc_tf_fstart (σ : CSt) (v : Int32) : cs_tf (cs_fstart_s σ v) = cs_tf σ := rfl
theorem zc_tf_fss (σ : CSt) (v : Int32) : cs_tf (cs_fss_s σ v) = cs_tf σ := rfl
theorem zc_tf_fgoal (σ : CSt) (v : Int32) : cs_tf (cs_fgoal_s σ v) = cs_tf σ := rfl
theorem zc_tf_fgs (σ : CSt) (v : Int32) : cs_tf (cs_fgs_s σ v) = cs_tf σ := rfl
theorem zc_tf_fcx (σ : CSt) (v : (Nat → Int32)) : cs_tf (cs_fcx_s σ v) = cs_tf σ := rfl
theorem zc_tf_fcy (σ : CSt) (v : (Nat → Int32)) : cs_tf (cs_fcy_s σ v) = cs_tf σ := rfl
theorem zc_tf_fcn (σ : CSt) (v : Int32) : cs_tf (cs_fcn_s σ v) = cs_tf σ := rfl
theorem zc_tf_gx (σ : CSt) (v : (Nat → Int32)) : cs_tf (cs_gx_s σ v) = cs_tf σ := rfl
theorem zc_tf_gy (σ : CSt) (v : (Nat → Int32)) : cs_tf (cs_gy_s σ v) = cs_tf σ := rfl
theorem zc_tf_gc (σ : CSt) (v : Int32) : cs_tf (cs_gc_s σ v) = cs_tf σ := rfl
theorem zc_tf_gr (σ : CSt) (v : Int32) : cs_tf (cs_gr_s σ v) = cs_tf σ := rfl
theorem zc_tf_goR (σ : CSt) (v : (Nat → Int32)) : cs_tf (cs_goR_s σ v) = cs_tf σ := rfl
theorem zc_tf_goD (σ : CSt) (v : (Nat → Int32)) : cs_tf (cs_goD_s σ v) = cs_tf σ := rfl
theorem zc_tf_wre (σ : CSt) (v : Int32) : cs_tf (cs_wre_s σ v) = cs_tf σ := rfl
theorem zc_tf_whd (σ : CSt) (v : (Nat → Int32)) : cs_tf (cs_whd_s σ v) = cs_tf σ := rfl
theorem zc_tf_wnx (σ : CSt) (v : (Nat → Int32)) : cs_tf (cs_wnx_s σ v) = cs_tf σ := rfl
theorem zc_tf_wpv (σ : CSt) (v : (Nat → Int32)) : cs_tf (cs_wpv_s σ v) = cs_tf σ := rfl
theorem zc_tf_bs (σ : CSt) (v : Int32) : cs_tf (cs_bs_s σ v) = cs_tf σ := rfl
theorem zc_tf_bo (σ : CSt) (v : Int32) : cs_tf (cs_bo_s σ v) = cs_tf σ := rfl
theorem zc_tf_bst (σ : CSt) (v : (Nat → Int32)) : cs_tf (cs_bst_s σ v) = cs_tf σ := rfl
theorem zc_tf_ben (σ : CSt) (v : (Nat → Int32)) : cs_tf (cs_ben_s σ v) = cs_tf σ := rfl
theorem zc_tf_bpu (σ : CSt) (v : (Nat → Int32)) : cs_tf (cs_bpu_s σ v) = cs_tf σ := rfl
theorem zc_tf_bla (σ : CSt) (v : (Nat → Int32)) : cs_tf (cs_bla_s σ v) = cs_tf σ := rfl
theorem zc_tf_bre (σ : CSt) (v : (Nat → Int32)) : cs_tf (cs_bre_s σ v) = cs_tf σ := rfl
theorem zc_tf_tl (σ : CSt) (v : Int32) : cs_tf (cs_tl_s σ v) = cs_tf σ := rfl
theorem zc_tf_tb (σ : CSt) (v : (Nat → Int32)) : cs_tf (cs_tb_s σ v) = cs_tf σ := rfl
theorem zc_tf_tw (σ : CSt) (v : Int32) : cs_tf (cs_tw_s σ v) = cs_tf σ := rfl
theorem zc_tf_tn (σ : CSt) (v : (Nat → Int32)) : cs_tf (cs_tn_s σ v) = cs_tf σ := rfl
theorem zc_tf_tc (σ : CSt) (v : Int32) : cs_tf (cs_tc_s σ v) = cs_tf σ := rfl
theorem zc_tf_te (σ : CSt) (v : Int32) : cs_tf (cs_te_s σ v) = cs_tf σ := rfl
theorem zc_tf_tf (σ : CSt) (v : Int32) : cs_tf (cs_tf_s σ v) = v := rfl
theorem zc_tf_sct (σ : CSt) (v : Int32) : cs_tf (cs_sct_s σ v) = cs_tf σ := rfl
theorem zc_tf_sml (σ : CSt) (v : Int32) : cs_tf (cs_sml_s σ v) = cs_tf σ := rfl
theorem zc_tf_sv (σ : CSt) (v : (Nat → Int32)) : cs_tf (cs_sv_s σ v) = cs_tf σ := rfl
theorem zc_tf_scap (σ : CSt) (v : Nat) : cs_tf (cs_scap_s σ v) = cs_tf σ := rfl
theorem zc_tf_nc (σ : CSt) (v : Nat) : cs_tf (cs_nc_s σ v) = cs_tf σ := rfl
theorem zc_tf_ns (σ : CSt) (v : Nat) : cs_tf (cs_ns_s σ v) = cs_tf σ := rfl
theorem zc_sct_cb (σ : CSt) (v : Int32) : cs_sct (cs_cb_s σ v) = cs_sct σ := rfl
theorem zc_sct_cc (σ : CSt) (v : Int32) : cs_sct (cs_cc_s σ v) = cs_sct σ := rfl
theorem zc_sct_cp (σ : CSt) (v : Int32) : cs_sct (cs_cp_s σ v) = cs_sct σ := rfl
theorem zc_sct_ce (σ : CSt) (v : (Nat → Int32)) : cs_sct (cs_ce_s σ v) = cs_sct σ := rfl
theorem zc_sct_cq (σ : CSt) (v : (Nat → Int32)) : cs_sct (cs_cq_s σ v) = cs_sct σ := rfl
theorem zc_sct_cr (σ : CSt) (v : (Nat → Option RV)) : cs_sct (cs_cr_s σ v) = cs_sct σ := rfl
theorem zc_sct_kb (σ : CSt) (v : (Nat → Int32)) : cs_sct (cs_kb_s σ v) = cs_sct σ := rfl
theorem zc_sct_kc (σ : CSt) (v : (Nat → Int32)) : cs_sct (cs_kc_s σ v) = cs_sct σ := rfl
theorem zc_sct_kp (σ : CSt) (v : (Nat → Int32)) : cs_sct (cs_kp_s σ v) = cs_sct σ := rfl
theorem zc_sct_ke (σ : CSt) (v : (Nat → Nat → Int32)) : cs_sct (cs_ke_s σ v) = cs_sct σ := rfl
theorem zc_sct_kq (σ : CSt) (v : (Nat → Nat → Int32)) : cs_sct (cs_kq_s σ v) = cs_sct σ := rfl
theorem zc_sct_kr (σ : CSt) (v : (Nat → Nat → Option RV)) : cs_sct (cs_kr_s σ v) = cs_sct σ := rfl
theorem zc_sct_hs (σ : CSt) (v : Int32) : cs_sct (cs_hs_s σ v) = cs_sct σ := rfl
theorem zc_sct_ho (σ : CSt) (v : Int32) : cs_sct (cs_ho_s σ v) = cs_sct σ := rfl
theorem zc_sct_run (σ : CSt) (v : Int32) : cs_sct (cs_run_s σ v) = cs_sct σ := rfl
theorem zc_sct_frests (σ : CSt) (v : (Nat → Int32)) : cs_sct (cs_frests_s σ v) = cs_sct σ := rfl
theorem zc_sct_fpen (σ : CSt) (v : Int32) : cs_sct (cs_fpen_s σ v) = cs_sct σ := rfl
theorem zc_sct_fstart (σ : CSt) (v : Int32) : cs_sct (cs_fstart_s σ v) = cs_sct σ := rfl
theorem zc_sct_fss (σ : CSt) (v : Int32) : cs_sct (cs_fss_s σ v) = cs_sct σ := rfl
theorem zc_sct_fgoal (σ : CSt) (v : Int32) : cs_sct (cs_fgoal_s σ v) = cs_sct σ := rfl
theorem zc_sct_fgs (σ : CSt) (v : Int32) : cs_sct (cs_fgs_s σ v) = cs_sct σ := rfl
theorem zc_sct_fcx (σ : CSt) (v : (Nat → Int32)) : cs_sct (cs_fcx_s σ v) = cs_sct σ := rfl
theorem zc_sct_fcy (σ : CSt) (v : (Nat → Int32)) : cs_sct (cs_fcy_s σ v) = cs_sct σ := rfl
theorem zc_sct_fcn (σ : CSt) (v : Int32) : cs_sct (cs_fcn_s σ v) = cs_sct σ := rfl
theorem zc_sct_gx (σ : CSt) (v : (Nat → Int32)) : cs_sct (cs_gx_s σ v) = cs_sct σ := rfl
theorem zc_sct_gy (σ : CSt) (v : (Nat → Int32)) : cs_sct (cs_gy_s σ v) = cs_sct σ := rfl
theorem zc_sct_gc (σ : CSt) (v : Int32) : cs_sct (cs_gc_s σ v) = cs_sct σ := rfl
theorem zc_sct_gr (σ : CSt) (v : Int32) : cs_sct (cs_gr_s σ v) = cs_sct σ := rfl
theorem zc_sct_goR (σ : CSt) (v : (Nat → Int32)) : cs_sct (cs_goR_s σ v) = cs_sct σ := rfl
theorem zc_sct_goD (σ : CSt) (v : (Nat → Int32)) : cs_sct (cs_goD_s σ v) = cs_sct σ := rfl
theorem zc_sct_wre (σ : CSt) (v : Int32) : cs_sct (cs_wre_s σ v) = cs_sct σ := rfl
theorem zc_sct_whd (σ : CSt) (v : (Nat → Int32)) : cs_sct (cs_whd_s σ v) = cs_sct σ := rfl
theorem zc_sct_wnx (σ : CSt) (v : (Nat → Int32)) : cs_sct (cs_wnx_s σ v) = cs_sct σ := rfl
theorem zc_sct_wpv (σ : CSt) (v : (Nat → Int32)) : cs_sct (cs_wpv_s σ v) = cs_sct σ := rfl
theorem zc_sct_bs (σ : CSt) (v : Int32) : cs_sct (cs_bs_s σ v) = cs_sct σ := rfl
theorem zc_sct_bo (σ : CSt) (v : Int32) : cs_sct (cs_bo_s σ v) = cs_sct σ := rfl
theorem zc_sct_bst (σ : CSt) (v : (Nat → Int32)) : cs_sct (cs_bst_s σ v) = cs_sct σ := rfl
theorem zc_sct_ben (σ : CSt) (v : (Nat → Int32)) : cs_sct (cs_ben_s σ v) = cs_sct σ := rfl
theorem zc_sct_bpu (σ : CSt) (v : (Nat → Int32)) : cs_sct (cs_bpu_s σ v) = cs_sct σ := rfl
theorem zc_sct_bla (σ : CSt) (v : (Nat → Int32)) : cs_sct (cs_bla_s σ v) = cs_sct σ := rfl
theorem zc_sct_bre (σ : CSt) (v : (Nat → Int32)) : cs_sct (cs_bre_s σ v) = cs_sct σ := rfl
theorem zc_sct_tl (σ : CSt) (v : Int32) : cs_sct (cs_tl_s σ v) = cs_sct σ := rfl
theorem zc_sct_tb (σ : CSt) (v : (Nat → Int32)) : cs_sct (cs_tb_s σ v) = cs_sct σ := rfl
theorem zc_sct_tw (σ : CSt) (v : Int32) : cs_sct (cs_tw_s σ v) = cs_sct σ := rfl
theorem zc_sct_tn (σ : CSt) (v : (Nat → Int32)) : cs_sct (cs_tn_s σ v) = cs_sct σ := rfl
theorem zc_sct_tc (σ : CSt) (v : Int32) : cs_sct (cs_tc_s σ v) = cs_sct σ := rfl
theorem zc_sct_te (σ : CSt) (v : Int32) : cs_sct (cs_te_s σ v) = cs_sct σ := rfl
theorem zc_sct_tf (σ : CSt) (v : Int32) : cs_sct (cs_tf_s σ v) = cs_sct σ := rfl
theorem zc_sct_sct (σ : CSt) (v : Int32) : cs_sct (cs_sct_s σ v) = v := rfl
theorem zc_sct_sml (σ : CSt) (v : Int32) : cs_sct (cs_sml_s σ v) = cs_sct σ := rfl
theorem zc_sct_sv (σ : CSt) (v : (Nat → Int32)) : cs_sct (cs_sv_s σ v) = cs_sct σ := rfl
theorem zc_sct_scap (σ : CSt) (v : Nat) : cs_sct (cs_scap_s σ v) = cs_sct σ := rfl
theorem zc_sct_nc (σ : CSt) (v : Nat) : cs_sct (cs_nc_s σ v) = cs_sct σ := rfl
theorem zc_sct_ns (σ : CSt) (v : Nat) : cs_sct (cs_ns_s σ v) = cs_sct σ := rfl
theorem zc_sml_cb (σ : CSt) (v : Int32) : cs_sml (cs_cb_s σ v) = cs_sml σ := rfl
theorem zc_sml_cc (σ : CSt) (v : Int32) : cs_sml (cs_cc_s σ v) = cs_sml σ := rfl
theorem zc_sml_cp (σ : CSt) (v : Int32) : cs_sml (cs_cp_s σ v) = cs_sml σ := rfl
theorem zc_sml_ce (σ : CSt) (v : (Nat → Int32)) : cs_sml (cs_ce_s σ v) = cs_sml σ := rfl
theorem zc_sml_cq (σ : CSt) (v : (Nat → Int32)) : cs_sml (cs_cq_s σ v) = cs_sml σ := rfl
theorem zc_sml_cr (σ : CSt) (v : (Nat → Option RV)) : cs_sml (cs_cr_s σ v) = cs_sml σ := rfl
theorem zc_sml_kb (σ : CSt) (v : (Nat → Int32)) : cs_sml (cs_kb_s σ v) = cs_sml σ := rfl
theorem zc_sml_kc (σ : CSt) (v : (Nat → Int32)) : cs_sml (cs_kc_s σ v) = cs_sml σ := rfl
theorem zc_sml_kp (σ : CSt) (v : (Nat → Int32)) : cs_sml (cs_kp_s σ v) = cs_sml σ := rfl
theorem zc_sml_ke (σ : CSt) (v : (Nat → Nat → Int32)) : cs_sml (cs_ke_s σ v) = cs_sml σ := rfl
theorem zc_sml_kq (σ : CSt) (v : (Nat → Nat → Int32)) : cs_sml (cs_kq_s σ v) = cs_sml σ := rfl
theorem zc_sml_kr (σ : CSt) (v : (Nat → Nat → Option RV)) : cs_sml (cs_kr_s σ v) = cs_sml σ := rfl
theorem zc_sml_hs (σ : CSt) (v : Int32) : cs_sml (cs_hs_s σ v) = cs_sml σ := rfl
theorem zc_sml_ho (σ : CSt) (v : Int32) : cs_sml (cs_ho_s σ v) = cs_sml σ := rfl
theorem zc_sml_run (σ : CSt) (v : Int32) : cs_sml (cs_run_s σ v) = cs_sml σ := rfl
theorem zc_sml_frests (σ : CSt) (v : (Nat → Int32)) : cs_sml (cs_frests_s σ v) = cs_sml σ := rfl
theorem zc_sml_fpen (σ : CSt) (v : Int32) : cs_sml (cs_fpen_s σ v) = cs_sml σ := rfl
theorem zc_sml_fstart (σ : CSt) (v : Int32) : cs_sml (cs_fstart_s σ v) = cs_sml σ := rfl
theorem zc_sml_fss (σ : CSt) (v : Int32) : cs_sml (cs_fss_s σ v) = cs_sml σ := rfl
theorem zc_sml_fgoal (σ : CSt) (v : Int32) : cs_sml (cs_fgoal_s σ v) = cs_sml σ := rfl
theorem zc_sml_fgs (σ : CSt) (v : Int32) : cs_sml (cs_fgs_s σ v) = cs_sml σ := rfl
theorem zc_sml_fcx (σ : CSt) (v : (Nat → Int32)) : cs_sml (cs_fcx_s σ v) = cs_sml σ := rfl
theorem zc_sml_fcy (σ : CSt) (v : (Nat → Int32)) : cs_sml (cs_fcy_s σ v) = cs_sml σ := rfl
theorem zc_sml_fcn (σ : CSt) (v : Int32) : cs_sml (cs_fcn_s σ v) = cs_sml σ := rfl
theorem zc_sml_gx (σ : CSt) (v : (Nat → Int32)) : cs_sml (cs_gx_s σ v) = cs_sml σ := rfl
theorem zc_sml_gy (σ : CSt) (v : (Nat → Int32)) : cs_sml (cs_gy_s σ v) = cs_sml σ := rfl
theorem zc_sml_gc (σ : CSt) (v : Int32) : cs_sml (cs_gc_s σ v) = cs_sml σ := rfl
theorem zc_sml_gr (σ : CSt) (v : Int32) : cs_sml (cs_gr_s σ v) = cs_sml σ := rfl
theorem zc_sml_goR (σ : CSt) (v : (Nat → Int32)) : cs_sml (cs_goR_s σ v) = cs_sml σ := rfl
theorem zc_sml_goD (σ : CSt) (v : (Nat → Int32)) : cs_sml (cs_goD_s σ v) = cs_sml σ := rfl
theorem zc_sml_wre (σ : CSt) (v : Int32) : cs_sml (cs_wre_s σ v) = cs_sml σ := rfl
theorem zc_sml_whd (σ : CSt) (v : (Nat → Int32)) : cs_sml (cs_whd_s σ v) = cs_sml σ := rfl
theorem zc_sml_wnx (σ : CSt) (v : (Nat → Int32)) : cs_sml (cs_wnx_s σ v) = cs_sml σ := rfl
theorem zc_sml_wpv (σ : CSt) (v : (Nat → Int32)) : cs_sml (cs_wpv_s σ v) = cs_sml σ := rfl
theorem zc_sml_bs (σ : CSt) (v : Int32) : cs_sml (cs_bs_s σ v) = cs_sml σ := rfl
theorem zc_sml_bo (σ : CSt) (v : Int32) : cs_sml (cs_bo_s σ v) = cs_sml σ := rfl
theorem zc_sml_bst (σ : CSt) (v : (Nat → Int32)) : cs_sml (cs_bst_s σ v) = cs_sml σ := rfl
theorem zc_sml_ben (σ : CSt) (v : (Nat → Int32)) : cs_sml (cs_ben_s σ v) = cs_sml σ := rfl
theorem zc_sml_bpu (σ : CSt) (v : (Nat → Int32)) : cs_sml (cs_bpu_s σ v) = cs_sml σ := rfl
theorem zc_sml_bla (σ : CSt) (v : (Nat → Int32)) : cs_sml (cs_bla_s σ v) = cs_sml σ := rfl
theorem zc_sml_bre (σ : CSt) (v : (Nat → Int32)) : cs_sml (cs_bre_s σ v) = cs_sml σ := rfl
theorem zc_sml_tl (σ : CSt) (v : Int32) : cs_sml (cs_tl_s σ v) = cs_sml σ := rfl
theorem zc_sml_tb (σ : CSt) (v : (Nat → Int32)) : cs_sml (cs_tb_s σ v) = cs_sml σ := rfl
theorem zc_sml_tw (σ : CSt) (v : Int32) : cs_sml (cs_tw_s σ v) = cs_sml σ := rfl
theorem zc_sml_tn (σ : CSt) (v : (Nat → Int32)) : cs_sml (cs_tn_s σ v) = cs_sml σ := rfl
theorem zc_sml_tc (σ : CSt) (v : Int32) : cs_sml (cs_tc_s σ v) = cs_sml σ := rfl
theorem zc_sml_te (σ : CSt) (v : Int32) : cs_sml (cs_te_s σ v) = cs_sml σ := rfl
theorem zc_sml_tf (σ : CSt) (v : Int32) : cs_sml (cs_tf_s σ v) = cs_sml σ := rfl
theorem zc_sml_sct (σ : CSt) (v : Int32) : cs_sml (cs_sct_s σ v) = cs_sml σ := rfl
theorem zc_sml_sml (σ : CSt) (v : Int32) : cs_sml (cs_sml_s σ v) = v := rfl
theorem zc_sml_sv (σ : CSt) (v : (Nat → Int32)) : cs_sml (cs_sv_s σ v) = cs_sml σ := rfl
theorem zc_sml_scap (σ : CSt) (v : Nat) : cs_sml (cs_scap_s σ v) = cs_sml σ := rfl
theorem zc_sml_nc (σ : CSt) (v : Nat) : cs_sml (cs_nc_s σ v) = cs_sml σ := rfl
theorem zc_sml_ns (σ : CSt) (v : Nat) : cs_sml (cs_ns_s σ v) = cs_sml σ := rfl
theorem zc_sv_cb (σ : CSt) (v : Int32) : cs_sv (cs_cb_s σ v) = cs_sv σ := rfl
theorem zc_sv_cc (σ : CSt) (v : Int32) : cs_sv (cs_cc_s σ v) = cs_sv σ := rfl
theorem zc_sv_cp (σ : CSt) (v : Int32) : cs_sv (cs_cp_s σ v) = cs_sv σ := rfl
theorem zc_sv_ce (σ : CSt) (v : (Nat → Int32)) : cs_sv (cs_ce_s σ v) = cs_sv σ := rfl
theorem zc_sv_cq (σ : CSt) (v : (Nat → Int32)) : cs_sv (cs_cq_s σ v) = cs_sv σ := rfl
theorem zc_sv_cr (σ : CSt) (v : (Nat → Option RV)) : cs_sv (cs_cr_s σ v) = cs_sv σ := rfl
theorem zc_sv_kb (σ : CSt) (v : (Nat → Int32)) : cs_sv (cs_kb_s σ v) = cs_sv σ := rfl
theorem zc_sv_kc (σ : CSt) (v : (Nat → Int32)) : cs_sv (cs_kc_s σ v) = cs_sv σ := rfl
theorem zc_sv_kp (σ : CSt) (v : (Nat → Int32)) : cs_sv (cs_kp_s σ v) = cs_sv σ := rfl
theorem zc_sv_ke (σ : CSt) (v : (Nat → Nat → Int32)) : cs_sv (cs_ke_s σ v) = cs_sv σ := rfl
theorem zc_sv_kq (σ : CSt) (v : (Nat → Nat → Int32)) : cs_sv (cs_kq_s σ v) = cs_sv σ := rfl
theorem zc_sv_kr (σ : CSt) (v : (Nat → Nat → Option RV)) : cs_sv (cs_kr_s σ v) = cs_sv σ := rfl
theorem zc_sv_hs (σ : CSt) (v : Int32) : cs_sv (cs_hs_s σ v) = cs_sv σ := rfl
theorem zc_sv_ho (σ : CSt) (v : Int32) : cs_sv (cs_ho_s σ v) = cs_sv σ := rfl
theorem zc_sv_run (σ : CSt) (v : Int32) : cs_sv (cs_run_s σ v) = cs_sv σ := rfl
theorem zc_sv_frests (σ : CSt) (v : (Nat → Int32)) : cs_sv (cs_frests_s σ v) = cs_sv σ := rfl
theorem zc_sv_fpen (σ : CSt) (v : Int32) : cs_sv (cs_fpen_s σ v) = cs_sv σ := rfl
theorem zc_sv_fstart (σ : CSt) (v : Int32) : cs_sv (cs_fstart_s σ v) = cs_sv σ := rfl
theorem zc_sv_fss (σ : CSt) (v : Int32) : cs_sv (cs_fss_s σ v) = cs_sv σ := rfl
theorem zc_sv_fgoal (σ : CSt) (v : Int32) : cs_sv (cs_fgoal_s σ v) = cs_sv σ := rfl
theorem zc_sv_fgs (σ : CSt) (v : Int32) : cs_sv (cs_fgs_s σ v) = cs_sv σ := rfl
theorem zc_sv_fcx (σ : CSt) (v : (Nat → Int32)) : cs_sv (cs_fcx_s σ v) = cs_sv σ := rfl
theorem zc_sv_fcy (σ : CSt) (v : (Nat → Int32)) : cs_sv (cs_fcy_s σ v) = cs_sv σ := rfl
theorem zc_sv_fcn (σ : CSt) (v : Int32) : cs_sv (cs_fcn_s σ v) = cs_sv σ := rfl
theorem zc_sv_gx (σ : CSt) (v : (Nat → Int32)) : cs_sv (cs_gx_s σ v) = cs_sv σ := rfl
theorem zc_sv_gy (σ : CSt) (v : (Nat → Int32)) : cs_sv (cs_gy_s σ v) = cs_sv σ := rfl
theorem zc_sv_gc (σ : CSt) (v : Int32) : cs_sv (cs_gc_s σ v) = cs_sv σ := rfl
theorem zc_sv_gr (σ : CSt) (v : Int32) : cs_sv (cs_gr_s σ v) = cs_sv σ := rfl
theorem zc_sv_goR (σ : CSt) (v : (Nat → Int32)) : cs_sv (cs_goR_s σ v) = cs_sv σ := rfl
theorem zc_sv_goD (σ : CSt) (v : (Nat → Int32)) : cs_sv (cs_goD_s σ v) = cs_sv σ := rfl
theorem zc_sv_wre (σ : CSt) (v : Int32) : cs_sv (cs_wre_s σ v) = cs_sv σ := rfl
theorem zc_sv_whd (σ : CSt) (v : (Nat → Int32)) : cs_sv (cs_whd_s σ v) = cs_sv σ := rfl
theorem zc_sv_wnx (σ : CSt) (v : (Nat → Int32)) : cs_sv (cs_wnx_s σ v) = cs_sv σ := rfl
theorem zc_sv_wpv (σ : CSt) (v : (Nat → Int32)) : cs_sv (cs_wpv_s σ v) = cs_sv σ := rfl
theorem zc_sv_bs (σ : CSt) (v : Int32) : cs_sv (cs_bs_s σ v) = cs_sv σ := rfl
theorem zc_sv_bo (σ : CSt) (v : Int32) : cs_sv (cs_bo_s σ v) = cs_sv σ := rfl
theorem zc_sv_bst (σ : CSt) (v : (Nat → Int32)) : cs_sv (cs_bst_s σ v) = cs_sv σ := rfl
theorem zc_sv_ben (σ : CSt) (v : (Nat → Int32)) : cs_sv (cs_ben_s σ v) = cs_sv σ := rfl
theorem zc_sv_bpu (σ : CSt) (v : (Nat → Int32)) : cs_sv (cs_bpu_s σ v) = cs_sv σ := rfl
theorem zc_sv_bla (σ : CSt) (v : (Nat → Int32)) : cs_sv (cs_bla_s σ v) = cs_sv σ := rfl
theorem zc_sv_bre (σ : CSt) (v : (Nat → Int32)) : cs_sv (cs_bre_s σ v) = cs_sv σ := rfl
theorem zc_sv_tl (σ : CSt) (v : Int32) : cs_sv (cs_tl_s σ v) = cs_sv σ := rfl
theorem zc_sv_tb (σ : CSt) (v : (Nat → Int32)) : cs_sv (cs_tb_s σ v) = cs_sv σ := rfl
theorem zc_sv_tw (σ : CSt) (v : Int32) : cs_sv (cs_tw_s σ v) = cs_sv σ := rfl
theorem zc_sv_tn (σ : CSt) (v : (Nat → Int32)) : cs_sv (cs_tn_s σ v) = cs_sv σ := rfl
theorem zc_sv_tc (σ : CSt) (v : Int32) : cs_sv (cs_tc_s σ v) = cs_sv σ := rfl
theorem zc_sv_te (σ : CSt) (v : Int32) : cs_sv (cs_te_s σ v) = cs_sv σ := rfl
theorem zc_sv_tf (σ : CSt) (v : Int32) : cs_sv (cs_tf_s σ v) = cs_sv σ := rfl
theorem zc_sv_sct (σ : CSt) (v : Int32) : cs_sv (cs_sct_s σ v) = cs_sv σ := rfl
theorem zc_sv_sml (σ : CSt) (v : Int32) : cs_sv (cs_sml_s σ v) = cs_sv σ := rfl
theorem zc_sv_sv (σ : CSt) (v : (Nat → Int32)) : cs_sv (cs_sv_s σ v) = v := rfl
theorem zc_sv_scap (σ : CSt) (v : Nat) : cs_sv (cs_scap_s σ v) = cs_sv σ := rfl
theorem zc_sv_nc (σ : CSt) (v : Nat) : cs_sv (cs_nc_s σ v) = cs_sv σ := rfl
theorem zc_sv_ns (σ : CSt) (v : Nat) : cs_sv (cs_ns_s σ v) = cs_sv σ := rfl
theorem zc_scap_cb (σ : CSt) (v : Int32) : cs_scap (cs_cb_s σ v) = cs_scap σ := rfl
theorem zc_scap_cc (σ : CSt) (v : Int32) : cs_scap (cs_cc_s σ v) = cs_scap σ := rfl
theorem zc_scap_cp (σ : CSt) (v : Int32) : cs_scap (cs_cp_s σ v) = cs_scap σ := rfl
theorem zc_scap_ce (σ : CSt) (v : (Nat → Int32)) : cs_scap (cs_ce_s σ v) = cs_scap σ := rfl
theorem zc_scap_cq (σ : CSt) (v : (Nat → Int32)) : cs_scap (cs_cq_s σ v) = cs_scap σ := rfl
theorem zc_scap_cr (σ : CSt) (v : (Nat → Option RV)) : cs_scap (cs_cr_s σ v) = cs_scap σ := rfl
theorem zc_scap_kb (σ : CSt) (v : (Nat → Int32)) : cs_scap (cs_kb_s σ v) = cs_scap σ := rfl
theorem zc_scap_kc (σ : CSt) (v : (Nat → Int32)) : cs_scap (cs_kc_s σ v) = cs_scap σ := rfl
theorem zc_scap_kp (σ : CSt) (v : (Nat → Int32)) : cs_scap (cs_kp_s σ v) = cs_scap σ := rfl
theorem zc_scap_ke (σ : CSt) (v : (Nat → Nat → Int32)) : cs_scap (cs_ke_s σ v) = cs_scap σ := rfl
theorem zc_scap_kq (σ : CSt) (v : (Nat → Nat → Int32)) : cs_scap (cs_kq_s σ v) = cs_scap σ := rfl
theorem zc_scap_kr (σ : CSt) (v : (Nat → Nat → Option RV)) : cs_scap (cs_kr_s σ v) = cs_scap σ := rfl
theorem zc_scap_hs (σ : CSt) (v : Int32) : cs_scap (cs_hs_s σ v) = cs_scap σ := rfl
theorem zc_scap_ho (σ : CSt) (v : Int32) : cs_scap (cs_ho_s σ v) = cs_scap σ := rfl
theorem zc_scap_run (σ : CSt) (v : Int32) : cs_scap (cs_run_s σ v) = cs_scap σ := rfl
theorem zc_scap_frests (σ : CSt) (v : (Nat → Int32)) : cs_scap (cs_frests_s σ v) = cs_scap σ := rfl
theorem zc_scap_fpen (σ : CSt) (v : Int32) : cs_scap (cs_fpen_s σ v) = cs_scap σ := rfl
theorem zc_scap_fstart (σ : CSt) (v : Int32) : cs_scap (cs_fstart_s σ v) = cs_scap σ := rfl
theorem zc_scap_fss (σ : CSt) (v : Int32) : cs_scap (cs_fss_s σ v) = cs_scap σ := rfl
theorem zc_scap_fgoal (σ : CSt) (v : Int32) : cs_scap (cs_fgoal_s σ v) = cs_scap σ := rfl
theorem zc_scap_fgs (σ : CSt) (v : Int32) : cs_scap (cs_fgs_s σ v) = cs_scap σ := rfl
theorem zc_scap_fcx (σ : CSt) (v : (Nat → Int32)) : cs_scap (cs_fcx_s σ v) = cs_scap σ := rfl
theorem zc_scap_fcy (σ : CSt) (v : (Nat → Int32)) : cs_scap (cs_fcy_s σ v) = cs_scap σ := rfl
theorem zc_scap_fcn (σ : CSt) (v : Int32) : cs_scap (cs_fcn_s σ v) = cs_scap σ := rfl
theorem zc_scap_gx (σ : CSt) (v : (Nat → Int32)) : cs_scap (cs_gx_s σ v) = cs_scap σ := rfl
theorem zc_scap_gy (σ : CSt) (v : (Nat → Int32)) : cs_scap (cs_gy_s σ v) = cs_scap σ := rfl
theorem zc_scap_gc (σ : CSt) (v : Int32) : cs_scap (cs_gc_s σ v) = cs_scap σ := rfl
theorem zc_scap_gr (σ : CSt) (v : Int32) : cs_scap (cs_gr_s σ v) = cs_scap σ := rfl
theorem zc_scap_goR (σ : CSt) (v : (Nat → Int32)) : cs_scap (cs_goR_s σ v) = cs_scap σ := rfl
theorem zc_scap_goD (σ : CSt) (v : (Nat → Int32)) : cs_scap (cs_goD_s σ v) = cs_scap σ := rfl
theorem zc_scap_wre (σ : CSt) (v : Int32) : cs_scap (cs_wre_s σ v) = cs_scap σ := rfl
theorem zc_scap_whd (σ : CSt) (v : (Nat → Int32)) : cs_scap (cs_whd_s σ v) = cs_scap σ := rfl
theorem zc_scap_wnx (σ : CSt) (v : (Nat → Int32)) : cs_scap (cs_wnx_s σ v) = cs_scap σ := rfl
theorem zc_scap_wpv (σ : CSt) (v : (Nat → Int32)) : cs_scap (cs_wpv_s σ v) = cs_scap σ := rfl
theorem zc_scap_bs (σ : CSt) (v : Int32) : cs_scap (cs_bs_s σ v) = cs_scap σ := rfl
theorem zc_scap_bo (σ : CSt) (v : Int32) : cs_scap (cs_bo_s σ v) = cs_scap σ := rfl
theorem zc_scap_bst (σ : CSt) (v : (Nat → Int32)) : cs_scap (cs_bst_s σ v) = cs_scap σ := rfl
theorem zc_scap_ben (σ : CSt) (v : (Nat → Int32)) : cs_scap (cs_ben_s σ v) = cs_scap σ := rfl
theorem zc_scap_bpu (σ : CSt) (v : (Nat → Int32)) : cs_scap (cs_bpu_s σ v) = cs_scap σ := rfl
theorem zc_scap_bla (σ : CSt) (v : (Nat → Int32)) : cs_scap (cs_bla_s σ v) = cs_scap σ := rfl
theorem zc_scap_bre (σ : CSt) (v : (Nat → Int32)) : cs_scap (cs_bre_s σ v) = cs_scap σ := rfl
theorem zc_scap_tl (σ : CSt) (v : Int32) : cs_scap (cs_tl_s σ v) = cs_scap σ := rfl
theorem zc_scap_tb (σ : CSt) (v : (Nat → Int32)) : cs_scap (cs_tb_s σ v) = cs_scap σ := rfl
theorem zc_scap_tw (σ : CSt) (v : Int32) : cs_scap (cs_tw_s σ v) = cs_scap σ := rfl
theorem zc_scap_tn (σ : CSt) (v : (Nat → Int32)) : cs_scap (cs_tn_s σ v) = cs_scap σ := rfl
theorem zc_scap_tc (σ : CSt) (v : Int32) : cs_scap (cs_tc_s σ v) = cs_scap σ := rfl
theorem zc_scap_te (σ : CSt) (v : Int32) : cs_scap (cs_te_s σ v) = cs_scap σ := rfl
theorem zc_scap_tf (σ : CSt) (v : Int32) : cs_scap (cs_tf_s σ v) = cs_scap σ := rfl
theorem zc_scap_sct (σ : CSt) (v : Int32) : cs_scap (cs_sct_s σ v) = cs_scap σ := rfl
theorem zc_scap_sml (σ : CSt) (v : Int32) : cs_scap (cs_sml_s σ v) = cs_scap σ := rfl
theorem zc_scap_sv (σ : CSt) (v : (Nat → Int32)) : cs_scap (cs_sv_s σ v) = cs_scap σ := rfl
theorem zc_scap_scap (σ : CSt) (v : Nat) : cs_scap (cs_scap_s σ v) = v := rfl
theorem zc_scap_nc (σ : CSt) (v : Nat) : cs_scap (cs_nc_s σ v) = cs_scap σ := rfl
theorem zc_scap_ns (σ : CSt) (v : Nat) : cs_scap (cs_ns_s σ v) = cs_scap σ := rfl
theorem zc_nc_cb (σ : CSt) (v : Int32) : cs_nc (cs_cb_s σ v) = cs_nc σ := rfl
theorem zc_nc_cc (σ : CSt) (v : Int32) : cs_nc (cs_cc_s σ v) = cs_nc σ := rfl
theorem zc_nc_cp (σ : CSt) (v : Int32) : cs_nc (cs_cp_s σ v) = cs_nc σ := rfl
theorem zc_nc_ce (σ : CSt) (v : (Nat → Int32)) : cs_nc (cs_ce_s σ v) = cs_nc σ := rfl
theorem zc_nc_cq (σ : CSt) (v : (Nat → Int32)) : cs_nc (cs_cq_s σ v) = cs_nc σ := rfl
theorem zc_nc_cr (σ : CSt) (v : (Nat → Option RV)) : cs_nc (cs_cr_s σ v) = cs_nc σ := rfl
theorem zc_nc_kb (σ : CSt) (v : (Nat → Int32)) : cs_nc (cs_kb_s σ v) = cs_nc σ := rfl
theorem zc_nc_kc (σ : CSt) (v : (Nat → Int32)) : cs_nc (cs_kc_s σ v) = cs_nc σ := rfl
theorem zc_nc_kp (σ : CSt) (v : (Nat → Int32)) : cs_nc (cs_kp_s σ v) = cs_nc σ := rfl
theorem zc_nc_ke (σ : CSt) (v : (Nat → Nat → Int32)) : cs_nc (cs_ke_s σ v) = cs_nc σ := rfl
theorem zc_nc_kq (σ : CSt) (v : (Nat → Nat → Int32)) : cs_nc (cs_kq_s σ v) = cs_nc σ := rfl
theorem zc_nc_kr (σ : CSt) (v : (Nat → Nat → Option RV)) : cs_nc (cs_kr_s σ v) = cs_nc σ := rfl
theorem zc_nc_hs (σ : CSt) (v : Int32) : cs_nc (cs_hs_s σ v) = cs_nc σ := rfl
theorem zc_nc_ho (σ : CSt) (v : Int32) : cs_nc (cs_ho_s σ v) = cs_nc σ := rfl
theorem zc_nc_run (σ : CSt) (v : Int32) : cs_nc (cs_run_s σ v) = cs_nc σ := rfl
theorem zc_nc_frests (σ : CSt) (v : (Nat → Int32)) : cs_nc (cs_frests_s σ v) = cs_nc σ := rfl
theorem zc_nc_fpen (σ : CSt) (v : Int32) : cs_nc (cs_fpen_s σ v) = cs_nc σ := rfl
theorem zc_nc_fstart (σ : CSt) (v : Int32) : cs_nc (cs_fstart_s σ v) = cs_nc σ := rfl
theorem zc_nc_fss (σ : CSt) (v : Int32) : cs_nc (cs_fss_s σ v) = cs_nc σ := rfl
theorem zc_nc_fgoal (σ : CSt) (v : Int32) : cs_nc (cs_fgoal_s σ v) = cs_nc σ := rfl
theorem zc_nc_fgs (σ : CSt) (v : Int32) : cs_nc (cs_fgs_s σ v) = cs_nc σ := rfl
theorem zc_nc_fcx (σ : CSt) (v : (Nat → Int32)) : cs_nc (cs_fcx_s σ v) = cs_nc σ := rfl
theorem zc_nc_fcy (σ : CSt) (v : (Nat → Int32)) : cs_nc (cs_fcy_s σ v) = cs_nc σ := rfl
theorem zc_nc_fcn (σ : CSt) (v : Int32) : cs_nc (cs_fcn_s σ v) = cs_nc σ := rfl
theorem zc_nc_gx (σ : CSt) (v : (Nat → Int32)) : cs_nc (cs_gx_s σ v) = cs_nc σ := rfl
theorem zc_nc_gy (σ : CSt) (v : (Nat → Int32)) : cs_nc (cs_gy_s σ v) = cs_nc σ := rfl
theorem zc_nc_gc (σ : CSt) (v : Int32) : cs_nc (cs_gc_s σ v) = cs_nc σ := rfl
theorem zc_nc_gr (σ : CSt) (v : Int32) : cs_nc (cs_gr_s σ v) = cs_nc σ := rfl
theorem zc_nc_goR (σ : CSt) (v : (Nat → Int32)) : cs_nc (cs_goR_s σ v) = cs_nc σ := rfl
theorem zc_nc_goD (σ : CSt) (v : (Nat → Int32)) : cs_nc (cs_goD_s σ v) = cs_nc σ := rfl
theorem zc_nc_wre (σ : CSt) (v : Int32) : cs_nc (cs_wre_s σ v) = cs_nc σ := rfl
theorem zc_nc_whd (σ : CSt) (v : (Nat → Int32)) : cs_nc (cs_whd_s σ v) = cs_nc σ := rfl
theorem zc_nc_wnx (σ : CSt) (v : (Nat → Int32)) : cs_nc (cs_wnx_s σ v) = cs_nc σ := rfl
theorem zc_nc_wpv (σ : CSt) (v : (Nat → Int32)) : cs_nc (cs_wpv_s σ v) = cs_nc σ := rfl
theorem zc_nc_bs (σ : CSt) (v : Int32) : cs_nc (cs_bs_s σ v) = cs_nc σ := rfl
theorem zc_nc_bo (σ : CSt) (v : Int32) : cs_nc (cs_bo_s σ v) = cs_nc σ := rfl
theorem zc_nc_bst (σ : CSt) (v : (Nat → Int32)) : cs_nc (cs_bst_s σ v) = cs_nc σ := rfl
theorem zc_nc_ben (σ : CSt) (v : (Nat → Int32)) : cs_nc (cs_ben_s σ v) = cs_nc σ := rfl
theorem zc_nc_bpu (σ : CSt) (v : (Nat → Int32)) : cs_nc (cs_bpu_s σ v) = cs_nc σ := rfl
theorem zc_nc_bla (σ : CSt) (v : (Nat → Int32)) : cs_nc (cs_bla_s σ v) = cs_nc σ := rfl
theorem zc_nc_bre (σ : CSt) (v : (Nat → Int32)) : cs_nc (cs_bre_s σ v) = cs_nc σ := rfl
theorem zc_nc_tl (σ : CSt) (v : Int32) : cs_nc (cs_tl_s σ v) = cs_nc σ := rfl
theorem zc_nc_tb (σ : CSt) (v : (Nat → Int32)) : cs_nc (cs_tb_s σ v) = cs_nc σ := rfl
theorem zc_nc_tw (σ : CSt) (v : Int32) : cs_nc (cs_tw_s σ v) = cs_nc σ := rfl
theorem zc_nc_tn (σ : CSt) (v : (Nat → Int32)) : cs_nc (cs_tn_s σ v) = cs_nc σ := rfl
theorem zc_nc_tc (σ : CSt) (v : Int32) : cs_nc (cs_tc_s σ v) = cs_nc σ := rfl
theorem zc_nc_te (σ : CSt) (v : Int32) : cs_nc (cs_te_s σ v) = cs_nc σ := rfl
theorem zc_nc_tf (σ : CSt) (v : Int32) : cs_nc (cs_tf_s σ v) = cs_nc σ := rfl
theorem zc_nc_sct (σ : CSt) (v : Int32) : cs_nc (cs_sct_s σ v) = cs_nc σ := rfl
theorem zc_nc_sml (σ : CSt) (v : Int32) : cs_nc (cs_sml_s σ v) = cs_nc σ := rfl
theorem zc_nc_sv (σ : CSt) (v : (Nat → Int32)) : cs_nc (cs_sv_s σ v) = cs_nc σ := rfl
theorem zc_nc_scap (σ : CSt) (v : Nat) : cs_nc (cs_scap_s σ v) = cs_nc σ := rfl
theorem zc_nc_nc (σ : CSt) (v : Nat) : cs_nc (cs_nc_s σ v) = v := rfl
theorem zc_nc_ns (σ : CSt) (v : Nat) : cs_nc (cs_ns_s σ v) = cs_nc σ := rfl
theorem zc_ns_cb (σ : CSt) (v : Int32) : cs_ns (cs_cb_s σ v) = cs_ns σ := rfl
theorem zc_ns_cc (σ : CSt) (v : Int32) : cs_ns (cs_cc_s σ v) = cs_ns σ := rfl
theorem zc_ns_cp (σ : CSt) (v : Int32) : cs_ns (cs_cp_s σ v) = cs_ns σ := rfl
theorem zc_ns_ce (σ : CSt) (v : (Nat → Int32)) : cs_ns (cs_ce_s σ v) = cs_ns σ := rfl
theorem zc_ns_cq (σ : CSt) (v : (Nat → Int32)) : cs_ns (cs_cq_s σ v) = cs_ns σ := rfl
theorem zc_ns_cr (σ : CSt) (v : (Nat → Option RV)) : cs_ns (cs_cr_s σ v) = cs_ns σ := rfl
theorem zc_ns_kb (σ : CSt) (v : (Nat → Int32)) : cs_ns (cs_kb_s σ v) = cs_ns σ := rfl
theorem zc_ns_kc (σ : CSt) (v : (Nat → Int32)) : cs_ns (cs_kc_s σ v) = cs_ns σ := rfl
theorem zc_ns_kp (σ : CSt) (v : (Nat → Int32)) : cs_ns (cs_kp_s σ v) = cs_ns σ := rfl
theorem zc_ns_ke (σ : CSt) (v : (Nat → Nat → Int32)) : cs_ns (cs_ke_s σ v) = cs_ns σ := rfl
theorem zc_ns_kq (σ : CSt) (v : (Nat → Nat → Int32)) : cs_ns (cs_kq_s σ v) = cs_ns σ := rfl
theorem zc_ns_kr (σ : CSt) (v : (Nat → Nat → Option RV)) : cs_ns (cs_kr_s σ v) = cs_ns σ := rfl
theorem zc_ns_hs (σ : CSt) (v : Int32) : cs_ns (cs_hs_s σ v) = cs_ns σ := rfl
theorem zc_ns_ho (σ : CSt) (v : Int32) : cs_ns (cs_ho_s σ v) = cs_ns σ := rfl
theorem zc_ns_run (σ : CSt) (v : Int32) : cs_ns (cs_run_s σ v) = cs_ns σ := rfl
theorem zc_ns_frests (σ : CSt) (v : (Nat → Int32)) : cs_ns (cs_frests_s σ v) = cs_ns σ := rfl
theorem zc_ns_fpen (σ : CSt) (v : Int32) : cs_ns (cs_fpen_s σ v) = cs_ns σ := rfl
theorem zc_ns_fstart (σ : CSt) (v : Int32) : cs_ns (cs_fstart_s σ v) = cs_ns σ := rfl
theorem zc_ns_fss (σ : CSt) (v : Int32) : cs_ns (cs_fss_s σ v) = cs_ns σ := rfl
theorem zc_ns_fgoal (σ : CSt) (v : Int32) : cs_ns (cs_fgoal_s σ v) = cs_ns σ := rfl
theorem zc_ns_fgs (σ : CSt) (v : Int32) : cs_ns (cs_fgs_s σ v) = cs_ns σ := rfl
theorem zc_ns_fcx (σ : CSt) (v : (Nat → Int32)) : cs_ns (cs_fcx_s σ v) = cs_ns σ := rfl
theorem zc_ns_fcy (σ : CSt) (v : (Nat → Int32)) : cs_ns (cs_fcy_s σ v) = cs_ns σ := rfl
theorem zc_ns_fcn (σ : CSt) (v : Int32) : cs_ns (cs_fcn_s σ v) = cs_ns σ := rfl
theorem zc_ns_gx (σ : CSt) (v : (Nat → Int32)) : cs_ns (cs_gx_s σ v) = cs_ns σ := rfl
theorem zc_ns_gy (σ : CSt) (v : (Nat → Int32)) : cs_ns (cs_gy_s σ v) = cs_ns σ := rfl
theorem zc_ns_gc (σ : CSt) (v : Int32) : cs_ns (cs_gc_s σ v) = cs_ns σ := rfl
theorem zc_ns_gr (σ : CSt) (v : Int32) : cs_ns (cs_gr_s σ v) = cs_ns σ := rfl
theorem zc_ns_goR (σ : CSt) (v : (Nat → Int32)) : cs_ns (cs_goR_s σ v) = cs_ns σ := rfl
theorem zc_ns_goD (σ : CSt) (v : (Nat → Int32)) : cs_ns (cs_goD_s σ v) = cs_ns σ := rfl
theorem zc_ns_wre (σ : CSt) (v : Int32) : cs_ns (cs_wre_s σ v) = cs_ns σ := rfl
theorem zc_ns_whd (σ : CSt) (v : (Nat → Int32)) : cs_ns (cs_whd_s σ v) = cs_ns σ := rfl
theorem zc_ns_wnx (σ : CSt) (v : (Nat → Int32)) : cs_ns (cs_wnx_s σ v) = cs_ns σ := rfl
theorem zc_ns_wpv (σ : CSt) (v : (Nat → Int32)) : cs_ns (cs_wpv_s σ v) = cs_ns σ := rfl
theorem zc_ns_bs (σ : CSt) (v : Int32) : cs_ns (cs_bs_s σ v) = cs_ns σ := rfl
theorem zc_ns_bo (σ : CSt) (v : Int32) : cs_ns (cs_bo_s σ v) = cs_ns σ := rfl
theorem zc_ns_bst (σ : CSt) (v : (Nat → Int32)) : cs_ns (cs_bst_s σ v) = cs_ns σ := rfl
theorem zc_ns_ben (σ : CSt) (v : (Nat → Int32)) : cs_ns (cs_ben_s σ v) = cs_ns σ := rfl
theorem zc_ns_bpu (σ : CSt) (v : (Nat → Int32)) : cs_ns (cs_bpu_s σ v) = cs_ns σ := rfl
theorem zc_ns_bla (σ : CSt) (v : (Nat → Int32)) : cs_ns (cs_bla_s σ v) = cs_ns σ := rfl
theorem zc_ns_bre (σ : CSt) (v : (Nat → Int32)) : cs_ns (cs_bre_s σ v) = cs_ns σ := rfl
theorem zc_ns_tl (σ : CSt) (v : Int32) : cs_ns (cs_tl_s σ v) = cs_ns σ := rfl
theorem zc_ns_tb (σ : CSt) (v : (Nat → Int32)) : cs_ns (cs_tb_s σ v) = cs_ns σ := rfl
theorem zc_ns_tw (σ : CSt) (v : Int32) : cs_ns (cs_tw_s σ v) = cs_ns σ := rfl
theorem zc_ns_tn (σ : CSt) (v : (Nat → Int32)) : cs_ns (cs_tn_s σ v) = cs_ns σ := rfl
theorem zc_ns_tc (σ : CSt) (v : Int32) : cs_ns (cs_tc_s σ v) = cs_ns σ := rfl
theorem zc_ns_te (σ : CSt) (v : Int32) : cs_ns (cs_te_s σ v) = cs_ns σ := rfl
theorem zc_ns_tf (σ : CSt) (v : Int32) : cs_ns (cs_tf_s σ v) = cs_ns σ := rfl
theorem zc_ns_sct (σ : CSt) (v : Int32) : cs_ns (cs_sct_s σ v) = cs_ns σ := rfl
theorem zc_ns_sml (σ : CSt) (v : Int32) : cs_ns (cs_sml_s σ v) = cs_ns σ := rfl
theorem zc_ns_sv (σ : CSt) (v : (Nat → Int32)) : cs_ns (cs_sv_s σ v) = cs_ns σ := rfl
theorem zc_ns_scap (σ : CSt) (v : Nat) : cs_ns (cs_scap_s σ v) = cs_ns σ := rfl
theorem zc_ns_nc (σ : CSt) (v : Nat) : cs_ns (cs_nc_s σ v) = cs_ns σ := rfl
theorem zc_ns_ns (σ : CSt) (v : Nat) : cs_ns (cs_ns_s σ v) = v := rfl
