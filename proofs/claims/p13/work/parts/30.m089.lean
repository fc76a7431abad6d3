section
/-! the class reads a tower, clause by clause -/
end
