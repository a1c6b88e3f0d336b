/-! That each of the law's calls answers alike and keeps what always holds. -/
theorem all_ops (l : Launch) (X : Cx) (_ : xLn X ≤ 3072) : AllOps l X InvA :=
  ⟨op_feed, op_end, op_beach, op_fault, op_has, op_letter, op_idea, op_bather, op_knows, op_keeps, op_plan, op_kept, op_tide, op_later, op_learns, op_lasts, op_course, op_change, op_match, op_odds, op_discover, op_wits, op_tells, op_duck, op_forget, op_send, op_hours, op_chance, op_undo, op_seed, op_ask, op_image, op_octet, op_on, op_status⟩
