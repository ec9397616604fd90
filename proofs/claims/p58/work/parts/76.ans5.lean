theorem bd_id {β : Type} (o : Option (β × Mem)) : (bd o fun r μ => some (r, μ)) = o := by
  cases o <;> rfl

