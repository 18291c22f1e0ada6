/-! all sixteen calls -/
theorem math_rok : Rok 100000 math_R := by
  intro S T hR
  exact ⟨op_kind hR, op_heap hR, op_stones hR, op_wall hR, op_through hR, op_plan (by omega) hR, op_stone hR, op_over (by omega) hR, op_least (by omega) hR, op_saved (by omega) hR, op_build (by omega) hR, op_frost (by omega) hR, op_mend (by omega) hR, op_take (by omega) hR, op_count (by omega) hR, op_look (by omega) hR⟩
