/-! what the printed walks stand on -/
def hm_ty (kA : Nat → ClassId) : List (ClassId × FieldType) := [(kA 0, .int), (kA 1, .boolean), (kA 2, .object "BlitBoard$Sprite"), (kA 3, .object "BlitBoard$Surface")]
