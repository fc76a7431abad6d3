section
/-! a tower's faults are small -/
end
